/-! ===== read: the five kinds of items ===== -/
/-- where the numbers of an item stand -/
def Ps (n : Nat) (T : Nat → Int32) (p : Nat) : Nat → Nat
  | 0 => p
  | i + 1 => nx n T (sk n T blB (Ps n T p i))
def Qs (n : Nat) (T : Nat → Int32) (p i : Nat) : Nat := sk n T blB (Ps n T p i)
def Vs (n : Nat) (T : Nat → Int32) (p i : Nat) : Int32 := vl n T (Qs n T p i)
def cnd (n : Nat) (T : Nat → Int32) (p : Nat) (lo hi : Nat → Int32) (i : Nat) : Prop := tk n T (Qs n T p i) = 2 ∧ ¬ f_X11_between (Vs n T p i) (lo i) (hi i) = 0
theorem first_fail (P : Nat → Prop) : ∀ D, (∃ i, i < D ∧ (∀ j, j < i → P j) ∧ ¬ P i) ∨ ∀ j, j < D → P j
  | 0 => Or.inr (fun j hj => absurd hj (by omega))
  | D + 1 => by
    rcases first_fail P D with ⟨i, h1, h2, h3⟩ | h
    · exact Or.inl ⟨i, by omega, h2, h3⟩
    · by_cases q : P D
      · refine Or.inr (fun j hj => ?_)
        by_cases w : j = D
        · rw [w]; exact q
        · exact h j (by omega)
      · exact Or.inl ⟨D, by omega, h, q⟩
theorem chain_c {n p w D a b : Nat} {T : Nat → Int32} {s4 : Sg} {g lo hi : Nat → Int32} (hn : n ≤ 150) (hr : rowIs s4 67 n T) (hC : CK n T s4 p) (hp : p ≤ n) (hv : rowIs s4 92 0 (fun _ => 0)) (h7 : rI s4 69 7 = wC w) (ht : TG s4 g a b) (hD3 : D ≤ 3) (hD : ∀ s, rI s 69 7 = wC w → f_X8_numbersDue s = nI D) (hm : ∀ s, rI s 69 7 = wC w → TG s g a b → ∀ i, i < D → f_X8_numberMayStand s (nI i) = f_X11_between (rI s 69 6) (lo i) (hi i)) : ∀ i, i ≤ D → (∀ j, j < i → cnd n T p lo hi j) → ∃ s, b_X8_item_30 FU s4 (nI 0) = b_X8_item_30 (FU - i) s (nI i) ∧ CK n T s (Ps n T p i) ∧ Ps n T p i ≤ n ∧ rowIs s 92 i (Vs n T p) ∧ (∀ j, 7 ≤ j → rI s 69 j = rI s4 69 j) ∧ Un Pn s4 s
  | 0, _, _ => ⟨s4, rfl, hC, hp, hv.cong (fun j hj => absurd hj (by omega)), fun _ _ => rfl, Un.rf⟩
  | i + 1, hi1, hc => by
    obtain ⟨s, e1, e2, e3, e4, e5, e6⟩ := chain_c hn hr hC hp hv h7 ht hD3 hD hm i (by omega) (fun j hj => hc j (by omega))
    have h7s : rI s 69 7 = wC w := by rw [e5 7 (by omega)]; exact h7
    have hts := TG_k ht e6
    obtain ⟨w1, w2⟩ := hc i (by omega)
    have hq := tk_lt (T := T) (show ¬ tk n T (Qs n T p i) = 0 by rw [w1]; decide)
    obtain ⟨s', k1, k2, k3, k4, k5⟩ := (num_c (fu := FU - (i + 1)) (row_k hr e6 (by omega)) hn e2 e4 (hD s h7s) (show i < D by omega) hD3 e3 (hm s h7s hts i (by omega))).1 ⟨w1, w2⟩
    refine ⟨s', ?_, k2, (nx_in T hq).2, k3.ext rfl (fun _ _ => rfl), fun j hj => (k4 j hj).trans (e5 j hj), e6.trans k5⟩
    rw [e1, show FU - i = (FU - (i + 1)) + 1 by unfold FU; omega]
    exact k1
/-- an item out of its numbers, both sides -/
theorem res_num {n p it w D a b a' b' : Nat} {T : Nat → Int32} {σ : Sg} {g g' lo hi : Nat → Int32} (l1 : Int32) (hn : n ≤ 150) (hI : IT n T σ p it g a b) (hit : it < 2 ^ 31) (hp : p ≤ n) (hw : wd n T (sk n T blB p) = w) (hw5 : w ≠ 5) (hmay : mayW w it a b = true) (hD3 : D ≤ 3) (hD : ∀ s, rI s 69 7 = wC w → f_X8_numbersDue s = nI D) (hm : ∀ s, rI s 69 7 = wC w → TG s g a b → ∀ i, i < D → f_X8_numberMayStand s (nI i) = f_X11_between (rI s 69 6) (lo i) (hi i))
    (hE : (∀ j, j < D → cnd n T (nx n T (sk n T blB p)) lo hi j) → ∀ s, rowIs s 92 D (Vs n T (nx n T (sk n T blB p))) → rI s 69 7 = wC w → rI s 69 8 = nI it → TG s g a b → ∃ s'', f_X8_carryOut s = some s'' ∧ Only 70 92 (stI s 69 8 (nI (it + 1))) s'' ∧ TG s'' g' a' b')
    (hR : ∀ τ, RS n T τ g (sk n T blB p) → (∀ i, i < D → (∀ j, j < i → cnd n T (nx n T (sk n T blB p)) lo hi j) → ¬ cnd n T (nx n T (sk n T blB p)) lo hi i → ∃ υ, f_X12_readsItem τ l1 = some (0, υ) ∧ rI υ 112 8 = nI (Qs n T (nx n T (sk n T blB p)) i) ∧ Un Pe τ υ) ∧ ((∀ j, j < D → cnd n T (nx n T (sk n T blB p)) lo hi j) → ∃ υ, f_X12_readsItem τ l1 = b_X12_readsItem_87 l1 υ ∧ RS n T υ g' (Ps n T (nx n T (sk n T blB p)) D) ∧ Un Pe τ υ)) : Res n T σ p it g l1 := by
  obtain ⟨hr, hC, h8, ht⟩ := id hI
  obtain ⟨s2, c1, c2, _, c4⟩ := head_c2 hn hI hit hp
  rw [hw] at c4
  obtain ⟨s4, d1, d2, d3, d4, d5, d6⟩ := c4 hmay
  have hq1 : tk n T (sk n T blB p) = 1 := wd_tk (by rw [hw]; exact hw5)
  have hqn := (tk_1 hq1).1
  have hx := nx_in T hqn
  obtain ⟨hq0, _⟩ := sk_le T blB hp
  generalize hP : nx n T (sk n T blB p) = P at d2 hE hR hx
  have hch := chain_c hn (row_k hr d6 (by omega)) d2 hx.2 d3 d4 (TG_k ht d6) hD3 hD hm
  rcases first_fail (cnd n T P lo hi) D with ⟨i, f1, f2, f3⟩ | hall
  · obtain ⟨s, e1, e2, e3, e4, e5, e6⟩ := hch i (by omega) f2
    have h7s : rI s 69 7 = wC w := by rw [e5 7 (by omega)]; exact d4
    have hk := (num_c (fu := FU - (i + 1)) (row_k hr (d6.trans e6) (by omega)) hn e2 e4 (hD s h7s) f1 hD3 e3 (hm s h7s (TG_k ht (d6.trans e6)) i f1)).2 f3
    refine Or.inl ⟨Qs n T P i, s, (sk_le T blB e3).2, ?_, e2.2.1, Pn_O (d6.trans e6), fun τ hτ => (hR τ hτ).1 i f1 f2 f3⟩
    rw [d1, e1, show FU - i = (FU - (i + 1)) + 1 by unfold FU; omega]
    exact hk
  · obtain ⟨s, e1, e2, e3, e4, e5, e6⟩ := hch D (Nat.le_refl _) hall
    have h7s : rI s 69 7 = wC w := by rw [e5 7 (by omega)]; exact d4
    have hst := stop_c (fu := FU - (D + 1)) (row_k hr (d6.trans e6) (by omega)) hn e2 e4 (hD s h7s) hD3 e3
    obtain ⟨k1, k2⟩ := sk_le T blB e3
    have eFU : FU - D = (FU - (D + 1)) + 1 := by unfold FU; omega
    have hPP : P ≤ Ps n T P D := by
      have : ∀ i, i ≤ D → P ≤ Ps n T P i := fun i => by
        induction i with
        | zero => exact fun _ => Nat.le_refl _
        | succ i ih =>
          intro hi
          have h1 := ih (by omega)
          have h2 : ∀ j, j ≤ D → Ps n T P j ≤ n := fun j hj => by
            obtain ⟨_, _, _, z, _⟩ := hch j hj (fun l hl => hall l (by omega))
            exact z
          have h3 := sk_le T blB (h2 i (by omega))
          have h4 := tk_lt (T := T) (show ¬ tk n T (Qs n T P i) = 0 by rw [(hall i (by omega)).1]; decide)
          have h5 := (nx_in T h4).1
          show P ≤ nx n T (Qs n T P i)
          have h6 : Ps n T P i ≤ Qs n T P i := h3.1
          omega
      exact this D (Nat.le_refl _)
    by_cases z : tk n T (sk n T blB (Ps n T P D)) = 3
    · obtain ⟨s5, g1, g2, g3, g4, g5⟩ := hst.1 z
      have u5 : Un Pn σ s5 := (d6.trans e6).trans g5
      have h8s : rI s5 69 8 = nI it := by rw [g4 8 (by omega), e5 8 (by omega)]; exact d5
      obtain ⟨s6, y1, y2, y3⟩ := hE hall s5 g3 (by rw [g4 7 (by omega)]; exact h7s) h8s (TG_k ht u5)
      obtain ⟨x1, x2⟩ := fin_c (p := p) hr u5 h8s g2 y2 y3
      have hz := tk_3.mp z
      refine Or.inr ⟨s5, s6, g', a', b', sk n T blB (Ps n T P D) + 1, ?_, y1, x1, by omega, by omega, x2, fun τ hτ => ?_⟩
      · rw [d1, e1, eFU]
        exact g1
      · obtain ⟨υ, r1, r2, r3⟩ := (hR τ hτ).2 hall
        obtain ⟨υ2, t1, t2, t3, t4⟩ := end_s l1 hn e3 r2
        refine ⟨υ2, ?_, t3, r3.trans t4⟩
        rw [r1, t1, if_pos z]
    · refine Or.inl ⟨sk n T blB (Ps n T P D), s, k2, ?_, e2.2.1, Pn_O (d6.trans e6), fun τ hτ => ?_⟩
      · rw [d1, e1, eFU]
        exact hst.2 z
      · obtain ⟨υ, r1, r2, r3⟩ := (hR τ hτ).2 hall
        obtain ⟨υ2, t1, t2, t3, t4⟩ := end_s l1 hn e3 r2
        refine ⟨υ2, ?_, t2, r3.trans t4⟩
        rw [r1, t1, if_neg z]
/-- the reference's way to the numbers -/
theorem head_w {n p w : Nat} {T : Nat → Int32} {τ : Sg} {g : Nat → Int32} (l1 : Int32) (hn : n ≤ 150) (hp : p ≤ n) (hw : wd n T (sk n T blB p) = w) (hw5 : w ≠ 5) (h : RS n T τ g (sk n T blB p)) : ∃ s1, f_X12_readsItem τ l1 = b_X12_readsItem_20 l1 s1 (wR w) (if w = 0 then 1 else 0) l1 ∧ RS n T s1 g (nx n T (sk n T blB p)) ∧ Un Pe τ s1 := by
  obtain ⟨s1, a1, b1, _, c1⟩ := head_r l1 hn hp h
  have hq1 : tk n T (sk n T blB p) = 1 := wd_tk (by rw [hw]; exact hw5)
  rw [hw] at a1
  rw [← (tk_1 hq1).2] at b1
  exact ⟨s1, a1, b1, c1⟩
theorem c_at {s : Sg} {D i : Nat} {f : Nat → Int32} {v : Int32} (h : rowIs s 92 D f) (hi : i < D) : f_X7_at (stI s 69 8 v) 92 (nI i) = some (f i) := at_in (h.keep (Only.stI s 69 8 v) (by omega)) hi
theorem TG_8 {s : Sg} {g : Nat → Int32} {a b : Nat} (v : Int32) (h : TG s g a b) : TG (stI s 69 8 v) g a b := TG_k h (Un.stI _ _ _ _ (Or.inl rfl))
theorem car_7 {s : Sg} {w it : Nat} (h7 : rI s 69 7 = wC w) (h8 : rI s 69 8 = nI it) : (rI s 69 8) + 1 = nI (it + 1) ∧ rI (stI s 69 8 (nI (it + 1))) 69 7 = wC w := ⟨by rw [h8, nI_1], by rw [rI_nj _ _ (by omega)]; exact h7⟩
theorem res_market {n p it a b : Nat} {T : Nat → Int32} {σ : Sg} {g : Nat → Int32} (hn : n ≤ 150) (hI : IT n T σ p it g a b) (hp : p ≤ n) (hw : wd n T (sk n T blB p) = 0) (hit : it = 0) : Res n T σ p it g 1 := by
  refine res_num (D := 0) (w := 0) (lo := fun _ => 0) (hi := fun _ => 0) (g' := g) (a' := a) (b' := b) 1 hn hI (by omega) hp hw (by omega) (decide_eq_true hit) (by omega) (fun s h => ?_) (fun s _ _ i hi => absurd hi (by omega)) (fun _ s hv h7 h8 ht => ?_) (fun τ hτ => ⟨fun i hi => absurd hi (by omega), fun _ => ?_⟩)
  · unfold f_X8_numbersDue
    rw [h, if_pos (show wC 0 = 0 from rfl)]
    rfl
  · obtain ⟨e1, e2⟩ := car_7 h7 h8
    refine ⟨stI s 69 8 (nI (it + 1)), ?_, Only.rf, TG_8 _ ht⟩
    unfold f_X8_carryOut
    rw [e1, nam_e, nam_e, e2, if_neg (show ¬ wC 0 = 1 by decide), if_neg (show ¬ wC 0 = 2 by decide), if_neg (show ¬ wC 0 = 3 by decide), if_neg (show ¬ wC 0 = 4 by decide)]
  · obtain ⟨s1, a1, b1, c1⟩ := head_w 1 hn hp hw (by omega) hτ
    refine ⟨s1, ?_, b1, c1⟩
    rw [a1]
    unfold b_X12_readsItem_20
    rw [if_pos (show (1 : Int32) = if 0 = 0 then 1 else 0 from rfl), if_pos (show wR 0 = 1 from rfl)]
theorem res_keeper {n p it a b : Nat} {T : Nat → Int32} {σ : Sg} {g : Nat → Int32} (hn : n ≤ 150) (hI : IT n T σ p it g a b) (hit2 : it < 2 ^ 31) (hp : p ≤ n) (hw : wd n T (sk n T blB p) = 1) (hit : 0 < it) (ha7 : a < 7) : Res n T σ p it g 0 := by
  have hg0 : g 0 = nI a := hI.2.2.2.1.1.1
  refine res_num (D := 3) (w := 1) (lo := fun i => if i = 2 then 1 else 0) (hi := fun i => if i = 0 then 5 else if i = 1 then 11 else 99) (g' := addsG g a (Vs n T (nx n T (sk n T blB p)) 0) (Vs n T (nx n T (sk n T blB p)) 1) (Vs n T (nx n T (sk n T blB p)) 2)) (a' := a + 1) (b' := b) 0 hn hI hit2 hp hw (by omega) (by unfold mayW; rw [if_neg (by omega), if_pos rfl, decide_eq_true hit, decide_eq_true ha7]; rfl) (by omega) (fun s h => ?_) (fun s h _ i hi => ?_) (fun hc s hv h7 h8 ht => ?_) (fun τ hτ => ?_)
  · unfold f_X8_numbersDue
    rw [h, if_neg (show ¬ wC 1 = 0 by decide), if_pos (show wC 1 = 1 from rfl)]
    rfl
  · unfold f_X8_numberMayStand b_X8_numberMayStand_60 b_X8_numberMayStand_72
    rw [h, nam_e, if_pos (show wC 1 = 1 from rfl)]
    rcases (show i = 0 ∨ i = 1 ∨ i = 2 by omega) with rfl | rfl | rfl
    · rw [if_pos (show nI 0 = 0 from rfl)]; rfl
    · rw [if_neg (show ¬ nI 1 = 0 by decide), if_pos (show nI 1 = 1 from rfl), if_pos (show nI 1 = 1 from rfl)]; rfl
    · rw [if_neg (show ¬ nI 2 = 0 by decide), if_neg (show ¬ nI 2 = 1 by decide), if_neg (show ¬ nI 2 = 1 by decide)]; rfl
  · obtain ⟨e1, e2⟩ := car_7 h7 h8
    obtain ⟨x1, _, p2, v1⟩ := btw_of (lo := 0) (hi := 5) (by omega) (hc 0 (by omega)).2 (by omega)
    obtain ⟨x2, _, p4, v2⟩ := btw_of (lo := 0) (hi := 11) (by omega) (hc 1 (by omega)).2 (by omega)
    obtain ⟨x3, p5, p6, v3⟩ := btw_of (lo := 1) (hi := 99) (by omega) (hc 2 (by omega)).2 (by omega)
    obtain ⟨t1, t2, t3⟩ := TG_8 (nI (it + 1)) ht
    obtain ⟨_, ⟨_, hb⟩, _⟩ := id t1
    obtain ⟨s6, a1, b1, c1⟩ := addK_c (Vs n T (nx n T (sk n T blB p)) 0) (Vs n T (nx n T (sk n T blB p)) 1) (Vs n T (nx n T (sk n T blB p)) 2) (show isM 70 by unfold isM; omega) ha7 hb (by omega) (by omega) (by omega) (by omega) t3
    refine ⟨s6, ?_, c1, ?_, ?_, b1⟩
    · unfold f_X8_carryOut
      rw [e1, nam_e, nam_e, e2, if_pos (show wC 1 = 1 from rfl), show f_X7_at (stI s 69 8 (nI (it + 1))) 92 0 = _ from c_at (i := 0) hv (by omega), ob_some, show f_X7_at (stI s 69 8 (nI (it + 1))) 92 1 = _ from c_at (i := 1) hv (by omega), ob_some, show f_X7_at (stI s 69 8 (nI (it + 1))) 92 2 = _ from c_at (i := 2) hv (by omega), ob_some, a1, ob_some]
    · rw [v1, v2, v3]
      exact adds_nm ha7 t1
    · rw [v1, v2, v3]
      exact adds_wf ha7 hb (by omega) (by omega) t2 p2 p4 p5 (by omega)
  · obtain ⟨s1, a1, b1, c1⟩ := head_w 0 hn hp hw (by omega) hτ
    have hxn : nx n T (sk n T blB p) ≤ n := (nx_in T (tk_1 (wd_tk (by rw [hw]; omega))).1).2
    generalize hP : nx n T (sk n T blB p) = P at b1 hxn ⊢
    have e20 : f_X12_readsItem τ 0 = bnd (f_X12_readsKeeper s1) fun x11 s12 => (if x11 = 0 then b_X12_readsItem_91 0 s12 else b_X12_readsItem_87 0 s12) := by
      rw [a1]
      unfold b_X12_readsItem_20
      rw [if_pos (show (0 : Int32) = if 1 = 0 then 1 else 0 from rfl), if_neg (show ¬ wR 1 = 1 by decide), if_pos (show wR 1 = 2 from rfl)]
    have e0 : rI s1 113 (ix 723) = nI a := (show rI s1 113 (723 + 0) = g 0 from b1.2.2 0).trans hg0
    have eK : f_X12_readsKeeper s1 = bnd (f_X12_takesNumber s1 0 5) fun x1 s2 => (if x1 = 0 then (some (0, s2)) else nam (rI s2 112 9) fun x3 => bnd (f_X12_takesNumber s2 0 11) fun x4 s5 => (if x4 = 0 then (some (0, s5)) else nam (rI s5 112 9) fun x6 => bnd (f_X12_takesNumber s5 1 99) fun x7 s8 => (if x7 = 0 then (some (0, s8)) else (f_X12_adds s8 723 x3 x6 (rI s8 112 9)).bind fun s9 => (some (1, s9))))) := by
      unfold f_X12_readsKeeper
      rw [if_pos (show inb 723 (kLen 113) = true from i113 (n := 723) (by omega)), e0, if_neg (show ¬ nI a = 7 from fun z => absurd (nIinj (b := 7) (by omega) (by omega) z) (by omega))]
    obtain ⟨u1, k1, k2, k3, k4, _⟩ := num_s 0 5 hn hxn b1
    by_cases c0 : tk n T (sk n T blB P) = 2 ∧ ¬ f_X11_between (vl n T (sk n T blB P)) 0 5 = 0
    rotate_left
    · have fl : ∃ υ, f_X12_readsItem τ 0 = some (0, υ) ∧ rI υ 112 8 = nI (Qs n T P 0) ∧ Un Pe τ υ := ⟨u1, by rw [e20, eK, k1, bnd_some, if_neg c0, if_pos rfl, bnd_some, if_pos rfl, fail_91], k2, c1.trans k4⟩
      refine ⟨fun i hi hj hc => ?_, fun hc => absurd (hc 0 (by omega)) c0⟩
      by_cases z : i = 0
      · subst z; exact fl
      · exact absurd (hj 0 (by omega)) c0
    obtain ⟨r1, w1⟩ := k3 c0.1
    have hx1 : Ps n T P 1 ≤ n := (nx_in T (tk_lt (T := T) (show ¬ tk n T (sk n T blB P) = 0 by rw [c0.1]; decide))).2
    obtain ⟨u2, m1, m2, m3, m4, _⟩ := num_s 0 11 hn hx1 r1
    by_cases c2 : tk n T (sk n T blB (Ps n T P 1)) = 2 ∧ ¬ f_X11_between (vl n T (sk n T blB (Ps n T P 1))) 0 11 = 0
    rotate_left
    · have fl : ∃ υ, f_X12_readsItem τ 0 = some (0, υ) ∧ rI υ 112 8 = nI (Qs n T P 1) ∧ Un Pe τ υ := ⟨u2, by rw [e20, eK, k1, bnd_some, if_pos c0, if_neg (by decide), nam_e, m1, bnd_some, if_neg c2, if_pos rfl, bnd_some, if_pos rfl, fail_91], m2, (c1.trans k4).trans m4⟩
      refine ⟨fun i hi hj hc => ?_, fun hc => absurd (hc 1 (by omega)) c2⟩
      rcases (show i = 0 ∨ i = 1 ∨ i = 2 by omega) with rfl | rfl | rfl
      · exact absurd c0 hc
      · exact fl
      · exact absurd (hj 1 (by omega)) c2
    obtain ⟨r2, w2⟩ := m3 c2.1
    have hx2 : Ps n T P 2 ≤ n := (nx_in T (tk_lt (T := T) (show ¬ tk n T (sk n T blB (Ps n T P 1)) = 0 by rw [c2.1]; decide))).2
    obtain ⟨u3, o1, o2, o3, o4, _⟩ := num_s 1 99 hn hx2 r2
    by_cases c3 : tk n T (sk n T blB (Ps n T P 2)) = 2 ∧ ¬ f_X11_between (vl n T (sk n T blB (Ps n T P 2))) 1 99 = 0
    rotate_left
    · have fl : ∃ υ, f_X12_readsItem τ 0 = some (0, υ) ∧ rI υ 112 8 = nI (Qs n T P 2) ∧ Un Pe τ υ := ⟨u3, by rw [e20, eK, k1, bnd_some, if_pos c0, if_neg (by decide), nam_e, m1, bnd_some, if_pos c2, if_neg (by decide), nam_e, o1, bnd_some, if_neg c3, if_pos rfl, bnd_some, if_pos rfl, fail_91], o2, ((c1.trans k4).trans m4).trans o4⟩
      refine ⟨fun i hi hj hc => ?_, fun hc => absurd (hc 2 (by omega)) c3⟩
      rcases (show i = 0 ∨ i = 1 ∨ i = 2 by omega) with rfl | rfl | rfl
      · exact absurd c0 hc
      · exact absurd c2 hc
      · exact fl
    obtain ⟨r3, w3⟩ := o3 c3.1
    obtain ⟨u4, y1, y2, y3⟩ := adds_r (σ := u3) (r := 723) (a := a) (Vs n T P 0) (Vs n T P 1) (Vs n T P 2) (by omega) ha7 ((show rI u3 113 (723 + 0) = g 0 from r3.2.2 0).trans hg0)
    have u4e : Un Pe u3 u4 := y3.mono (fun a j q => by unfold Pe; omega)
    refine ⟨fun i hi hj hc => ?_, fun _ => ⟨u4, ?_, ⟨⟨by rw [(y3 112 3 (by omega)).1]; exact r3.1.1, (funext (fun j => (y3 115 j (by omega)).1)).trans r3.1.2⟩, by rw [(y3 112 7 (by omega)).1]; exact r3.2.1, fun j => ?_⟩, (((c1.trans k4).trans m4).trans o4).trans u4e⟩⟩
    · rcases (show i = 0 ∨ i = 1 ∨ i = 2 by omega) with rfl | rfl | rfl
      · exact absurd c0 hc
      · exact absurd c2 hc
      · exact absurd c3 hc
    · rw [e20, eK, k1, bnd_some, if_pos c0, if_neg (by decide), nam_e, m1, bnd_some, if_pos c2, if_neg (by decide), nam_e, o1, bnd_some, if_pos c3, if_neg (by decide), w1, w2, w3, show f_X12_adds u3 723 (vl n T (sk n T blB P)) (vl n T (sk n T blB (Ps n T P 1))) (vl n T (sk n T blB (Ps n T P 2))) = some u4 from y1, ob_some, bnd_some, if_neg (by decide)]
    · rw [y2]
      congr 1
      exact funext r3.2.2
theorem mood_rw {s : Sg} {g : Nat → Int32} {a b k x : Nat} (h : TG s g a b) (hk : k < a) (hx : x ≤ 9) : ∃ τ, f_X7_put s 90 (nI k) (nI x) = some τ ∧ Only 70 92 s τ ∧ TG τ (upd g (32 + k) (nI x)) a b := by
  obtain ⟨⟨⟨n0, ha⟩, ⟨n1, hb⟩, ⟨n2, hc⟩, ⟨n3, hd⟩, ⟨n4, he⟩, n5, hu⟩, ⟨w1, w2, w3, w4, w5, w6⟩, r1, r2, r3, r4, r5, r6, r7, r8, r9, r10, r11, r12⟩ := h
  obtain ⟨s1, a1, b1, c1⟩ := put_c (k := 90) (g' := fun j => upd g (32 + k) (nI x) (32 + j)) (nI x) r12 hk (fun i hi => by
    unfold upd
    by_cases q : i = k
    · rw [if_pos (by omega), if_pos q]
    · rw [if_neg (by omega), if_neg q])
  have hs : ∀ k j, (k < 90 ∨ 92 ≤ k) → rI s1 k j = rI s k j := fun k j hk => (c1 k (by omega)).1 j
  refine ⟨s1, a1, c1.mono (by omega) (by omega), ⟨⟨?_, ha⟩, ⟨?_, hb⟩, ⟨?_, hc⟩, ⟨?_, hd⟩, ⟨?_, he⟩, ?_, hu⟩, ⟨fun k' hk' => ?_, fun k' hk' => ?_, fun i hi => absurd hi (by omega), fun i hi => absurd hi (by omega), ⟨fun j hj => ?_, ?_, ?_⟩, fun i hi => absurd hi (by omega)⟩, ?_, ?_, ?_, ?_, ?_, ?_, ?_, ?_, ?_, ?_, ?_, b1⟩
  · simp (disch := omega) only [pk_un, n0]
  · simp (disch := omega) only [pk_un, n1]
  · simp (disch := omega) only [pk_un, n2]
  · simp (disch := omega) only [pk_un, n3]
  · simp (disch := omega) only [pk_un, n4]
  · simp (disch := omega) only [pk_un, n5]
  · simp (disch := omega) only [pk_un]; exact w1 k' hk'
  · simp (disch := omega) only [pk_un]; exact w2 k' hk'
  · have w5' := w5.1 j hj
    by_cases q : j = k
    · subst q
      simp (disch := omega) only [pk_un, pk_us]
      exact ⟨fun h => ⟨(w5'.1 h).1, vIn.mk (by omega) hx⟩, fun h => absurd h (by omega)⟩
    · simp (disch := omega) only [pk_un]
      exact w5'
  · simp (disch := omega) only [pk_un]; exact w5.2.1
  · simp (disch := omega) only [pk_un]; exact w5.2.2
  · refine r1.res (fun k j hk => hs k j (by omega)) (fun j hj => ?_); simp (disch := omega) only [pk_un]
  · refine r2.res (fun k j hk => hs k j (by omega)) (fun j hj => ?_); simp (disch := omega) only [pk_un]
  · refine r3.res (fun k j hk => hs k j (by omega)) (fun j hj => ?_); simp (disch := omega) only [pk_un]
  · refine r4.res (fun k j hk => hs k j (by omega)) (fun j hj => ?_); simp (disch := omega) only [pk_un]
  · refine r5.res (fun k j hk => hs k j (by omega)) (fun j hj => ?_); simp (disch := omega) only [pk_un]
  · refine r6.res (fun k j hk => hs k j (by omega)) (fun j hj => ?_); simp (disch := omega) only [pk_un]
  · refine r7.res (fun k j hk => hs k j (by omega)) (fun j hj => ?_); simp (disch := omega) only [pk_un]
  · refine r8.res (fun k j hk => hs k j (by omega)) (fun j hj => ?_); simp (disch := omega) only [pk_un]
  · rw [hs _ _ (by omega), r9]; simp (disch := omega) only [pk_un]
  · rw [hs _ _ (by omega), r10]; simp (disch := omega) only [pk_un]
  · refine r11.res (fun k j hk => hs k j (by omega)) (fun j hj => ?_); simp (disch := omega) only [pk_un]
theorem bal_rw {s : Sg} {g : Nat → Int32} {a b x : Nat} (h : TG s g a b) (hb4 : b < 4) (hx : x ≤ 5) : ∃ τ, f_X7_add s 77 (nI x) = some τ ∧ Only 70 92 s τ ∧ TG τ (upd (upd g (39 + b) (nI x)) 1 (nI (b + 1))) a (b + 1) := by
  obtain ⟨⟨⟨n0, ha⟩, ⟨n1, hb⟩, ⟨n2, hc⟩, ⟨n3, hd⟩, ⟨n4, he⟩, n5, hu⟩, ⟨w1, w2, w3, w4, w5, w6⟩, r1, r2, r3, r4, r5, r6, r7, r8, r9, r10, r11, r12⟩ := h
  obtain ⟨s1, a1, b1, c1⟩ := add_in (k := 77) (nI x) r4 (show b < 4 from hb4)
  have hs : ∀ k j, (k < 77 ∨ 79 ≤ k) → rI s1 k j = rI s k j := fun k j hk => (c1 k (by omega)).1 j
  refine ⟨s1, a1, c1.mono (by omega) (by omega), ⟨⟨?_, ha⟩, ⟨?_, by omega⟩, ⟨?_, hc⟩, ⟨?_, hd⟩, ⟨?_, he⟩, ?_, hu⟩, ⟨fun k' hk' => ?_, fun k' hk' => ?_, fun i hi => absurd hi (by omega), fun i hi => absurd hi (by omega), ⟨fun j hj => ?_, ?_, ?_⟩, fun i hi => absurd hi (by omega)⟩, ?_, ?_, ?_, ?_, ?_, ?_, ?_, ?_, ?_, ?_, ?_, ?_⟩
  · simp (disch := omega) only [pk_un, n0]
  · exact pk_us
  · simp (disch := omega) only [pk_un, n2]
  · simp (disch := omega) only [pk_un, n3]
  · simp (disch := omega) only [pk_un, n4]
  · simp (disch := omega) only [pk_un, n5]
  · simp (disch := omega) only [pk_un]; exact w1 k' hk'
  · simp (disch := omega) only [pk_un]
    exact upd_vIn _ (vIn.mk (by omega) hx) (fun _ => w2 k' (by omega))
  · simp (disch := omega) only [pk_un]; exact w5.1 j hj
  · simp (disch := omega) only [pk_un]; exact w5.2.1
  · simp (disch := omega) only [pk_un]; exact w5.2.2
  · refine r1.res (fun k j hk => hs k j (by omega)) (fun j hj => ?_); simp (disch := omega) only [pk_un]
  · refine r2.res (fun k j hk => hs k j (by omega)) (fun j hj => ?_); simp (disch := omega) only [pk_un]
  · refine r3.res (fun k j hk => hs k j (by omega)) (fun j hj => ?_); simp (disch := omega) only [pk_un]
  · refine b1.ext ?_ (fun j hj => ?_) <;> simp (disch := omega) only [pk_un, pk_us]
  · refine r5.res (fun k j hk => hs k j (by omega)) (fun j hj => ?_); simp (disch := omega) only [pk_un]
  · refine r6.res (fun k j hk => hs k j (by omega)) (fun j hj => ?_); simp (disch := omega) only [pk_un]
  · refine r7.res (fun k j hk => hs k j (by omega)) (fun j hj => ?_); simp (disch := omega) only [pk_un]
  · refine r8.res (fun k j hk => hs k j (by omega)) (fun j hj => ?_); simp (disch := omega) only [pk_un]
  · rw [hs _ _ (by omega), r9]; simp (disch := omega) only [pk_un]
  · rw [hs _ _ (by omega), r10]; simp (disch := omega) only [pk_un]
  · refine r11.res (fun k j hk => hs k j (by omega)) (fun j hj => ?_); simp (disch := omega) only [pk_un]
  · refine r12.res (fun k j hk => hs k j (by omega)) (fun j hj => ?_); simp (disch := omega) only [pk_un]
