/-! ===== read: an item ===== -/
def TG (σ : Sg) (g : Nat → Int32) (a b : Nat) : Prop := Nm g a b 0 0 0 0 ∧ Wf g a b 0 0 0 ∧ Rw σ 70 g a b 0 0 0 0
def Pn (a _j : Nat) : Prop := a = 69 ∨ a = 92 ∨ a = 93
theorem TG_k {σ τ : Sg} {g : Nat → Int32} {a b : Nat} (h : TG σ g a b) (hu : Un Pn σ τ) : TG τ g a b := ⟨h.1, h.2.1, h.2.2.same (fun k j h1 h2 => (hu k j (by unfold Pn; omega)).1)⟩
theorem row_k {σ τ : Sg} {k n : Nat} {f : Nat → Int32} (h : rowIs σ k n f) (hu : Un Pn σ τ) (hk : k < 68) : rowIs τ k n f := h.same (fun j => (hu k j (by unfold Pn; omega)).1) (fun j => (hu (k + 1) j (by unfold Pn; omega)).1)
def IT (n : Nat) (T : Nat → Int32) (σ : Sg) (p it : Nat) (g : Nat → Int32) (a b : Nat) : Prop := rowIs σ 67 n T ∧ CK n T σ p ∧ rI σ 69 8 = nI it ∧ TG σ g a b
def Pe (a j : Nat) : Prop := (a = 112 ∧ 6 ≤ j) ∨ (a = 113 ∧ 723 ≤ j)
theorem Pb_Pe {σ τ : Sg} (h : Un Pb σ τ) : Un Pe σ τ := h.mono (fun a j q => by unfold Pb at q; unfold Pe; omega)
def RS (n : Nat) (T : Nat → Int32) (τ : Sg) (g : Nat → Int32) (p : Nat) : Prop := RK n T τ ∧ rI τ 112 7 = nI p ∧ ∀ j, rI τ 113 (723 + j) = g j
theorem RS_b {n p p' : Nat} {T : Nat → Int32} {τ υ : Sg} {g : Nat → Int32} (h : RS n T τ g p) (hu : Un Pb τ υ) (h7 : rI υ 112 7 = nI p') : RS n T υ g p' := ⟨RK_k h.1 hu, h7, fun j => by rw [(hu 113 _ (by unfold Pb; omega)).1]; exact h.2.2 j⟩
theorem num_c {n p1 i D fu : Nat} {T : Nat → Int32} {s : Sg} {vs : Nat → Int32} {lo hi : Int32} (hr : rowIs s 67 n T) (hn : n ≤ 150) (hC : CK n T s p1) (hv : rowIs s 92 i vs) (hD : f_X8_numbersDue s = nI D) (hiD : i < D) (hD3 : D ≤ 3) (hp : p1 ≤ n) (hm : f_X8_numberMayStand s (nI i) = f_X11_between (rI s 69 6) lo hi) : (tk n T (sk n T blB p1) = 2 ∧ ¬ f_X11_between (vl n T (sk n T blB p1)) lo hi = 0 → ∃ s', b_X8_item_30 (fu + 1) s (nI i) = b_X8_item_30 fu s' (nI (i + 1)) ∧ CK n T s' (nx n T (sk n T blB p1)) ∧ rowIs s' 92 (i + 1) (upd vs i (vl n T (sk n T blB p1))) ∧ (∀ j, 7 ≤ j → rI s' 69 j = rI s 69 j) ∧ Un Pn s s') ∧ (¬ (tk n T (sk n T blB p1) = 2 ∧ ¬ f_X11_between (vl n T (sk n T blB p1)) lo hi = 0) → b_X8_item_30 (fu + 1) s (nI i) = some (0, s)) := by
  obtain ⟨q1, q2⟩ := sk_le T blB hp
  obtain ⟨h3, h4, h5, h6⟩ := hC
  generalize sk n T blB p1 = q at h3 h4 h5 h6 q1 q2 ⊢
  have e0 : b_X8_item_30 (fu + 1) s (nI i) = (if tk n T q = 2 then (if f_X11_between (rI s 69 6) lo hi = 0 then some (0, s) else (f_X7_add s 92 (rI s 69 6)).bind fun s6 => (f_X8_step s6).bind fun s7 => nam (nI i + 1) fun x8 => b_X8_item_30 fu s7 x8) else some (0, s)) := by
    rw [b_X8_item_30, hD, if_neg (nI_ge hiD (by omega)), h3, hm]
  constructor
  · rintro ⟨w1, w2⟩
    have hq := tk_lt (T := T) (show ¬ tk n T q = 0 by rw [w1]; decide)
    have hx := nx_in T hq
    obtain ⟨s1, a1, b1, c1⟩ := add_in (vl n T q) hv (show i < 3 by omega)
    obtain ⟨s2, a2, b2, b3, c2⟩ := step_c hn (hr.keep c1 (by omega)) (by rw [(c1 69 (by omega)).1]; exact h5) hx.2
    have u1 : Un Pn s s1 := c1.un (fun a j p q => by unfold Pn; omega)
    have u2 : Un Pn s1 s2 := c2.un (fun a j p q => by unfold Pn; omega)
    refine ⟨s2, ?_, b2, b1.keep c2 (by omega), fun j hj => by rw [b3 j hj, (c1 69 (by omega)).1], u1.trans u2⟩
    rw [e0, if_pos w1, h6 w1, if_neg w2, a1, ob_some, a2, ob_some, nam_e, nI_1]
  · intro w
    rw [e0]
    by_cases w1 : tk n T q = 2
    · rw [if_pos w1, h6 w1, if_pos (Decidable.not_not.mp (fun z => w ⟨w1, z⟩))]
    · rw [if_neg w1]
theorem stop_c {n p1 D fu : Nat} {T : Nat → Int32} {s : Sg} {vs : Nat → Int32} (hr : rowIs s 67 n T) (hn : n ≤ 150) (hC : CK n T s p1) (hv : rowIs s 92 D vs) (hD : f_X8_numbersDue s = nI D) (hD3 : D ≤ 3) (hp : p1 ≤ n) : (tk n T (sk n T blB p1) = 3 → ∃ s', b_X8_item_30 (fu + 1) s (nI D) = some (1, s') ∧ CK n T s' (sk n T blB p1 + 1) ∧ rowIs s' 92 D vs ∧ (∀ j, 7 ≤ j → rI s' 69 j = rI s 69 j) ∧ Un Pn s s') ∧ (¬ tk n T (sk n T blB p1) = 3 → b_X8_item_30 (fu + 1) s (nI D) = some (0, s)) := by
  obtain ⟨q1, q2⟩ := sk_le T blB hp
  obtain ⟨h3, h4, h5, h6⟩ := hC
  generalize sk n T blB p1 = q at h3 h4 h5 h6 q1 q2 ⊢
  have e0 : b_X8_item_30 (fu + 1) s (nI D) = (if tk n T q = 3 then (f_X8_step s).bind fun s5 => some (1, s5) else some (0, s)) := by
    rw [b_X8_item_30, hD, if_pos (nI_le (Nat.le_refl _) (by omega)), h3]
  constructor
  · intro w
    have hq := tk_3.mp w
    rw [nx_3 w] at h5
    obtain ⟨s2, a2, b2, b3, c2⟩ := step_c hn hr h5 (by omega)
    refine ⟨s2, ?_, b2, hv.keep c2 (by omega), b3, c2.un (fun a j p q => by unfold Pn; omega)⟩
    rw [e0, if_pos w, a2, ob_some]
  · intro w
    rw [e0, if_neg w]
/-- whether the word may stand there -/
def mayW (w it a b : Nat) : Bool := if w = 0 then decide (it = 0) else if w = 1 then decide (0 < it) && decide (a < 7) else if w = 3 then decide (0 < it) && decide (b < 4) else decide (0 < it) && decide (w ≠ 5)
theorem mayW_c {s : Sg} {g : Nat → Int32} {w it a b : Nat} (hw : w ≤ 5) (h7 : rI s 69 7 = wC w) (h8 : rI s 69 8 = nI it) (hit : it < 2 ^ 31) (ht : TG s g a b) : f_X8_wordMayStand s = b2i (mayW w it a b) := by
  have hf1 : f_X7_isFull s 71 = if a < 7 then 0 else 1 := full_c ht.2.2.1 rfl
  have hf2 : f_X7_isFull s 77 = if b < 4 then 0 else 1 := full_c ht.2.2.2.2.2.1 rfl
  have i1 : (nI it = 0) = (it = 0) := propext ⟨fun z => nIinj (b := 0) hit (by omega) z, fun z => by rw [z]; rfl⟩
  have i2 : (nI it ≤ 0) = (it = 0) := propext ⟨fun z => by
    by_cases y : it = 0
    · exact y
    · exact absurd z (nI_nle (by omega) hit), fun z => by rw [z]; decide⟩
  unfold f_X8_wordMayStand mayW
  rw [h7, h8, hf1, hf2, nam_e]
  simp only [i1, i2]
  by_cases z : it = 0
  · have z2 : (0 < it) = False := eq_false (by omega)
    simp only [eq_true z, z2, if_true]
    by_cases y : a < 7 <;> by_cases y2 : b < 4 <;> simp only [y, y2, if_true, if_false] <;> rcases (show w = 0 ∨ w = 1 ∨ w = 2 ∨ w = 3 ∨ w = 4 ∨ w = 5 by omega) with rfl | rfl | rfl | rfl | rfl | rfl <;> rfl
  · have z2 : (0 < it) = True := eq_true (by omega)
    simp only [eq_false z, z2, if_false]
    by_cases y : a < 7 <;> by_cases y2 : b < 4 <;> simp only [y, y2, if_true, if_false] <;> rcases (show w = 0 ∨ w = 1 ∨ w = 2 ∨ w = 3 ∨ w = 4 ∨ w = 5 by omega) with rfl | rfl | rfl | rfl | rfl | rfl <;> rfl
theorem wd_tk {n q : Nat} {T : Nat → Int32} (h : wd n T q ≠ 5) : tk n T q = 1 := by
  have e : ∀ w, mtW n T q w = true → tk n T q = 1 := fun w hw => by
    unfold mtW at hw
    rw [Bool.and_eq_true] at hw
    exact of_decide_eq_true hw.1
  unfold wd at h
  by_cases h0 : mtW n T q 0 = true
  · exact e 0 h0
  rw [if_neg h0] at h
  by_cases h1 : mtW n T q 1 = true
  · exact e 1 h1
  rw [if_neg h1] at h
  by_cases h2 : mtW n T q 2 = true
  · exact e 2 h2
  rw [if_neg h2] at h
  by_cases h3 : mtW n T q 3 = true
  · exact e 3 h3
  rw [if_neg h3] at h
  by_cases h4 : mtW n T q 4 = true
  · exact e 4 h4
  rw [if_neg h4] at h
  exact absurd rfl h
theorem head_c2 {n p it a b : Nat} {T : Nat → Int32} {σ : Sg} {g : Nat → Int32} (hn : n ≤ 150) (hI : IT n T σ p it g a b) (hit : it < 2 ^ 31) (hp : p ≤ n) : ∃ s2, rI s2 69 4 = nI (sk n T blB p) ∧ Un Pn σ s2 ∧ (mayW (wd n T (sk n T blB p)) it a b = false → f_X8_item σ = some (0, s2)) ∧ (mayW (wd n T (sk n T blB p)) it a b = true → ∃ s4, f_X8_item σ = b_X8_item_30 FU s4 (nI 0) ∧ CK n T s4 (nx n T (sk n T blB p)) ∧ rowIs s4 92 0 (fun _ => 0) ∧ rI s4 69 7 = wC (wd n T (sk n T blB p)) ∧ rI s4 69 8 = nI it ∧ Un Pn σ s4) := by
  obtain ⟨hr, hC, h8, ht⟩ := hI
  have htw := told_w hr hn hC
  have hwl := wd_le n T (sk n T blB p)
  obtain ⟨q1, q2⟩ := sk_le T blB hp
  obtain ⟨h3, h4, h5, h6⟩ := hC
  generalize sk n T blB p = q at h3 h4 h5 h6 q1 q2 htw hwl ⊢
  have u2 : Un Pn σ (stI σ 69 7 (wC (wd n T q))) := Un.stI _ _ _ _ (Or.inl rfl)
  have hm := mayW_c hwl (rI_eq σ 69 7 (wC (wd n T q))) (by rw [rI_nj _ _ (by omega)]; exact h8) hit (TG_k ht u2)
  refine ⟨stI σ 69 7 (wC (wd n T q)), by rw [rI_nj _ _ (by omega)]; exact h4, u2, fun w => ?_, fun w => ?_⟩
  · unfold f_X8_item
    rw [htw, ob_some, nam_e, hm, w, if_pos (show b2i false = 0 from rfl)]
  · have hqn : nx n T q ≤ n := by
      by_cases z : q < n
      · exact (nx_in T z).2
      · unfold nx; rw [if_pos (by omega)]; omega
    obtain ⟨s3, a3, b3, b4, c3⟩ := step_c hn (row_k hr u2 (by omega)) (by rw [rI_nj _ _ (by omega)]; exact h5) hqn
    obtain ⟨s4, a4, b5, c4⟩ := restart_in s3 92 (fun _ => 0)
    have u3 : Un Pn (stI σ 69 7 (wC (wd n T q))) s3 := c3.un (fun a j p q => by unfold Pn; omega)
    have u4 : Un Pn s3 s4 := c4.un (fun a j p q => by unfold Pn; omega)
    obtain ⟨k3, k4, k5, k6⟩ := b3
    have o4 : ∀ j, rI s4 69 j = rI s3 69 j := fun j => (c4 69 (by omega)).1 j
    refine ⟨s4, ?_, ⟨by rw [o4]; exact k3, by rw [o4]; exact k4, by rw [o4]; exact k5, fun z => by rw [o4]; exact k6 z⟩, b5, by rw [o4, b4 7 (by omega), rI_eq], by rw [o4, b4 8 (by omega), rI_nj _ _ (by omega)]; exact h8, (u2.trans u3).trans u4⟩
    unfold f_X8_item
    rw [htw, ob_some, nam_e, hm, w, if_neg (show ¬ b2i true = 0 by decide), a3, ob_some, a4, ob_some]
    rfl
/-! the reference's item -/
theorem head_r {n p : Nat} {T : Nat → Int32} {τ : Sg} {g : Nat → Int32} (l1 : Int32) (hn : n ≤ 150) (hp : p ≤ n) (h : RS n T τ g (sk n T blB p)) : ∃ s1, f_X12_readsItem τ l1 = b_X12_readsItem_20 l1 s1 (wR (wd n T (sk n T blB p))) (if wd n T (sk n T blB p) = 0 then 1 else 0) l1 ∧ RS n T s1 g (sk n T ltB (sk n T blB p)) ∧ rI s1 112 8 = nI (sk n T blB p) ∧ Un Pe τ s1 := by
  obtain ⟨q1, q2⟩ := sk_le T blB hp
  obtain ⟨s1, a1, b1, b2, c1⟩ := word_r hn h.1 h.2.1 q2
  rw [sk_sk T blB hp] at b1 b2
  have hw := wordOf_r hn (RK_k h.1 c1) b1 b2 q2
  have hwl := wd_le n T (sk n T blB p)
  refine ⟨s1, ?_, RS_b h c1 b1, b2, Pb_Pe c1⟩
  unfold f_X12_readsItem
  rw [a1, ob_some, hw, ob_some]
  generalize wd n T (sk n T blB p) = w at hwl ⊢
  rcases (show w = 0 ∨ w = 1 ∨ w = 2 ∨ w = 3 ∨ w = 4 ∨ w = 5 by omega) with rfl | rfl | rfl | rfl | rfl | rfl
  · rw [if_pos (show wR 0 = 1 from rfl), if_pos rfl]
  · rw [if_neg (show ¬ wR 1 = 1 by decide), if_neg (by omega)]
  · rw [if_neg (show ¬ wR 2 = 1 by decide), if_neg (by omega)]
  · rw [if_neg (show ¬ wR 3 = 1 by decide), if_neg (by omega)]
  · rw [if_neg (show ¬ wR 4 = 1 by decide), if_neg (by omega)]
  · rw [if_neg (show ¬ wR 5 = 1 by decide), if_neg (by omega)]
theorem num_s {n p : Nat} {T : Nat → Int32} {τ : Sg} {g : Nat → Int32} (lo hi : Int32) (hn : n ≤ 150) (hp : p ≤ n) (h : RS n T τ g p) : ∃ υ, f_X12_takesNumber τ lo hi = some (if tk n T (sk n T blB p) = 2 ∧ ¬ f_X11_between (vl n T (sk n T blB p)) lo hi = 0 then 1 else 0, υ) ∧ rI υ 112 8 = nI (sk n T blB p) ∧ (tk n T (sk n T blB p) = 2 → RS n T υ g (nx n T (sk n T blB p)) ∧ rI υ 112 9 = vl n T (sk n T blB p)) ∧ Un Pe τ υ ∧ ∀ j, rI υ 113 j = rI τ 113 j := by
  obtain ⟨υ, k1, k2, k3, k4⟩ := num_r lo hi hn h.1 h.2.1 hp
  exact ⟨υ, k1, k2, fun z => ⟨RS_b h k4 (k3 z).1, (k3 z).2⟩, Pb_Pe k4, fun j => (k4 113 j (by unfold Pb; omega)).1⟩
theorem end_s {n p : Nat} {T : Nat → Int32} {τ : Sg} {g : Nat → Int32} (l1 : Int32) (hn : n ≤ 150) (hp : p ≤ n) (h : RS n T τ g p) : ∃ υ, b_X12_readsItem_87 l1 τ = some (if tk n T (sk n T blB p) = 3 then 1 else 0, υ) ∧ rI υ 112 8 = nI (sk n T blB p) ∧ RS n T υ g (sk n T blB p + 1) ∧ Un Pe τ υ := by
  obtain ⟨υ, k1, k2, k3, k4⟩ := end_r hn h.1 h.2.1 hp
  refine ⟨υ, ?_, k2, RS_b h k4 k3, Pb_Pe k4⟩
  unfold b_X12_readsItem_87 b_X12_readsItem_92
  rw [if_neg (show ¬ (1 : Int32) = 0 by decide), k1, bnd_some]
  by_cases w : tk n T (sk n T blB p) = 3
  · rw [if_pos w, if_neg (by decide)]
  · rw [if_neg w, if_pos rfl]
theorem fail_91 {l1 : Int32} {τ : Sg} : b_X12_readsItem_91 l1 τ = some (0, τ) := by
  unfold b_X12_readsItem_91 b_X12_readsItem_92
  rw [if_pos rfl]
/-- what an item comes to, on both sides -/
def Res (n : Nat) (T : Nat → Int32) (σ : Sg) (p it : Nat) (g : Nat → Int32) (l1 : Int32) : Prop :=
  (∃ e s', e ≤ n ∧ f_X8_item σ = some (0, s') ∧ rI s' 69 4 = nI e ∧ Only 69 94 σ s' ∧ ∀ τ, RS n T τ g (sk n T blB p) → ∃ υ, f_X12_readsItem τ l1 = some (0, υ) ∧ rI υ 112 8 = nI e ∧ Un Pe τ υ) ∨
  (∃ s' s'' g' a' b' p', f_X8_item σ = some (1, s') ∧ f_X8_carryOut s' = some s'' ∧ IT n T s'' p' (it + 1) g' a' b' ∧ p < p' ∧ p' ≤ n ∧ Only 69 94 σ s'' ∧ ∀ τ, RS n T τ g (sk n T blB p) → ∃ υ, f_X12_readsItem τ l1 = some (1, υ) ∧ RS n T υ g' p' ∧ Un Pe τ υ)
theorem Pn_O {σ τ : Sg} (h : Un Pn σ τ) : Only 69 94 σ τ := fun a ha => ⟨fun j => (h a j (by unfold Pn; omega)).1, fun j => (h a j (by unfold Pn; omega)).2⟩
theorem CK_8 {n p : Nat} {T : Nat → Int32} {σ : Sg} (v : Int32) (h : CK n T σ p) : CK n T (stI σ 69 8 v) p := ⟨by rw [rI_nj _ _ (by omega)]; exact h.1, by rw [rI_nj _ _ (by omega)]; exact h.2.1, by rw [rI_nj _ _ (by omega)]; exact h.2.2.1, fun z => by rw [rI_nj _ _ (by omega)]; exact h.2.2.2 z⟩
theorem CK_m {n p : Nat} {T : Nat → Int32} {σ τ : Sg} (h : CK n T σ p) (ho : Only 70 92 σ τ) : CK n T τ p := ⟨by rw [(ho 69 (by omega)).1]; exact h.1, by rw [(ho 69 (by omega)).1]; exact h.2.1, by rw [(ho 69 (by omega)).1]; exact h.2.2.1, fun z => by rw [(ho 69 (by omega)).1]; exact h.2.2.2 z⟩
/-- the last steps of an item that goes well -/
theorem fin_c {n p p' it a b : Nat} {T : Nat → Int32} {σ s' s'' : Sg} {g : Nat → Int32} (hr : rowIs σ 67 n T) (u : Un Pn σ s') (h8 : rI s' 69 8 = nI it) (hC : CK n T s' p') (ho : Only 70 92 (stI s' 69 8 (nI (it + 1))) s'') (ht : TG s'' g a b) : IT n T s'' p' (it + 1) g a b ∧ Only 69 94 σ s'' := by
  have u1 : Un Pn σ (stI s' 69 8 (nI (it + 1))) := u.trans (Un.stI _ _ _ _ (Or.inl rfl))
  refine ⟨⟨(row_k hr u1 (by omega)).keep ho (by omega), CK_m (CK_8 _ hC) ho, ?_, ht⟩, (Pn_O u1).trans (ho.mono (by omega) (by omega))⟩
  rw [(ho 69 (by omega)).1, rI_eq]
