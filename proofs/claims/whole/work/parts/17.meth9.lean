theorem m_forget {σ : Sg} (h : Inv σ) (v : Int32) : Sim (fun s => f_X11_forget s v) (fun s => f_X12_forget s v) σ := by
  by_cases q1 : f_X11_between v 0 2 = 0
  · refine ref_bad h (-2) id ?_ (fun τ ht => ?_)
    · show f_X11_forget σ v = _
      unfold f_X11_forget; rw [if_pos q1]; rfl
    · show f_X12_forget τ v = _
      unfold f_X12_forget; rw [in_0_2, if_pos q1]; rfl
  obtain ⟨w, p5, p6, rfl⟩ := btw_of (lo := 0) (hi := 2) (by omega) q1 (by omega)
  have hm : f_X11_howMany σ (5 + nI w) = some (cntG σ (5 + w)) := by
    rw [L5, nI_add]; exact many_c h (by omega)
  have h1 := h.1
  obtain ⟨a, b, c, d, e, u, hn, hw, hr⟩ := h1
  have hn2 := hn
  obtain ⟨⟨n0, ha⟩, ⟨n1, hb⟩, ⟨n2, hc⟩, ⟨n3, hd⟩, ⟨n4, he⟩, n5, hu⟩ := hn2
  obtain ⟨r1, r2, r3, r4, r5, r6, r7, r8, r9, r10, r11, r12⟩ := hr
  rcases (show w = 0 ∨ w = 1 ∨ w = 2 by omega) with rfl | rfl | rfl
  · obtain ⟨s1, e1, e2, e3⟩ := restart_in σ 10 (fun j => (upd (rI σ 113) 43 (nI 0)) (44 + j))
    have hs : ∀ a j, (a < 10 ∨ 12 ≤ a) → rI s1 a j = rI σ a j := fun a j ha => (e3 a (by omega)).1 j
    have hr1 : Rw s1 1 (upd (rI σ 113) 43 (nI 0)) a b 0 d e u := by
      refine ⟨?_, ?_, ?_, ?_, ?_, ?_, ?_, ?_, ?_, ?_, ?_, ?_⟩
      · refine r1.res (fun k j hk => hs k j (by omega)) (fun j hj => ?_); simp (disch := omega) only [pk_un]
      · refine r2.res (fun k j hk => hs k j (by omega)) (fun j hj => ?_); simp (disch := omega) only [pk_un]
      · refine r3.res (fun k j hk => hs k j (by omega)) (fun j hj => ?_); simp (disch := omega) only [pk_un]
      · refine r4.res (fun k j hk => hs k j (by omega)) (fun j hj => ?_); simp (disch := omega) only [pk_un]
      · exact e2
      · refine r6.res (fun k j hk => hs k j (by omega)) (fun j hj => ?_); simp (disch := omega) only [pk_un]
      · refine r7.res (fun k j hk => hs k j (by omega)) (fun j hj => ?_); simp (disch := omega) only [pk_un]
      · refine r8.res (fun k j hk => hs k j (by omega)) (fun j hj => ?_); simp (disch := omega) only [pk_un]
      · rw [hs _ _ (by omega), r9]; simp (disch := omega) only [pk_un]
      · rw [hs _ _ (by omega), r10]; simp (disch := omega) only [pk_un]
      · refine r11.res (fun k j hk => hs k j (by omega)) (fun j hj => ?_); simp (disch := omega) only [pk_un]
      · refine r12.res (fun k j hk => hs k j (by omega)) (fun j hj => ?_); simp (disch := omega) only [pk_un]
    have hn1 : Nm (upd (rI σ 113) 43 (nI 0)) a b 0 d e u := by
      refine ⟨⟨?_, ha⟩, ⟨?_, hb⟩, ⟨?_, by omega⟩, ⟨?_, hd⟩, ⟨?_, he⟩, ?_, hu⟩ <;> simp (disch := omega) only [pk_un, pk_us, n0, n1, n2, n3, n4, n5]
    have hw1 : Wf (upd (rI σ 113) 43 (nI 0)) a b d e u := by
      obtain ⟨w1, w2, w3, w4, w5, w6⟩ := hw
      refine ⟨fun k hk => ?_, fun k hk => ?_, fun i hi => ?_, fun i hi => ?_, ⟨fun k hk => ?_, ?_, ?_⟩, fun i hi => ?_⟩
      · simp (disch := omega) only [pk_un]; exact w1 k hk
      · simp (disch := omega) only [pk_un]; exact w2 k hk
      · simp (disch := omega) only [pk_un]; exact w3 i hi
      · simp (disch := omega) only [pk_un]; exact w4 i hi
      · simp (disch := omega) only [pk_un]; exact w5.1 k hk
      · simp (disch := omega) only [pk_un]; exact w5.2.1
      · simp (disch := omega) only [pk_un]; exact w5.2.2
      · have w7 := w6 i hi
        unfold mom at w7 ⊢
        simp (disch := omega) only [pk_un]
        exact w7
    have hP : Un Pk σ s1 := e3.un (fun a j p q => by unfold Pk; omega)
    refine ⟨rI σ 113 43, s1, stI s1 113 43 (nI 0), ?_, ?_, Inv_two h ⟨_, _, _, _, _, _, hn1, hw1, hr1⟩ hP (Un.stI _ _ _ _ (by unfold Pr; omega)) (fun j hj => ?_)⟩
    · show f_X11_forget σ (nI 0) = _
      unfold f_X11_forget b_X11_forget_60
      rw [if_neg q1, hm, ob_some]
      simp only [kd00, if_true, if_false, e1, ob_some]
      rfl
    · show f_X12_forget s1 (nI 0) = _
      unfold f_X12_forget b_X12_forget_40
      rw [in_0_2, if_neg q1]
      simp only [kd00, if_true, if_false]
      simp (disch := omega) only [if_true, L0, L43, i113, nam_e, ix_nI, Pk_w hP]
    · simp only [rI_stI, upd, true_and, Pk_w hP]
  · obtain ⟨s1, e1, e2, e3⟩ := restart_in σ 12 (fun j => (upd (rI σ 113) 62 (nI 0)) (63 + j))
    have hs : ∀ a j, (a < 12 ∨ 14 ≤ a) → rI s1 a j = rI σ a j := fun a j ha => (e3 a (by omega)).1 j
    have hr1 : Rw s1 1 (upd (rI σ 113) 62 (nI 0)) a b c 0 e u := by
      refine ⟨?_, ?_, ?_, ?_, ?_, ?_, ?_, ?_, ?_, ?_, ?_, ?_⟩
      · refine r1.res (fun k j hk => hs k j (by omega)) (fun j hj => ?_); simp (disch := omega) only [pk_un]
      · refine r2.res (fun k j hk => hs k j (by omega)) (fun j hj => ?_); simp (disch := omega) only [pk_un]
      · refine r3.res (fun k j hk => hs k j (by omega)) (fun j hj => ?_); simp (disch := omega) only [pk_un]
      · refine r4.res (fun k j hk => hs k j (by omega)) (fun j hj => ?_); simp (disch := omega) only [pk_un]
      · refine r5.res (fun k j hk => hs k j (by omega)) (fun j hj => ?_); simp (disch := omega) only [pk_un]
      · exact e2
      · refine r7.res (fun k j hk => hs k j (by omega)) (fun j hj => ?_); simp (disch := omega) only [pk_un]
      · refine r8.res (fun k j hk => hs k j (by omega)) (fun j hj => ?_); simp (disch := omega) only [pk_un]
      · rw [hs _ _ (by omega), r9]; simp (disch := omega) only [pk_un]
      · rw [hs _ _ (by omega), r10]; simp (disch := omega) only [pk_un]
      · refine r11.res (fun k j hk => hs k j (by omega)) (fun j hj => ?_); simp (disch := omega) only [pk_un]
      · refine r12.res (fun k j hk => hs k j (by omega)) (fun j hj => ?_); simp (disch := omega) only [pk_un]
    have hn1 : Nm (upd (rI σ 113) 62 (nI 0)) a b c 0 e u := by
      refine ⟨⟨?_, ha⟩, ⟨?_, hb⟩, ⟨?_, hc⟩, ⟨?_, by omega⟩, ⟨?_, he⟩, ?_, hu⟩ <;> simp (disch := omega) only [pk_un, pk_us, n0, n1, n2, n3, n4, n5]
    have hw1 : Wf (upd (rI σ 113) 62 (nI 0)) a b 0 e u := by
      obtain ⟨w1, w2, w3, w4, w5, w6⟩ := hw
      refine ⟨fun k hk => ?_, fun k hk => ?_, fun i hi => ?_, fun i hi => ?_, ⟨fun k hk => ?_, ?_, ?_⟩, fun i hi => ?_⟩
      · simp (disch := omega) only [pk_un]; exact w1 k hk
      · simp (disch := omega) only [pk_un]; exact w2 k hk
      · exact absurd hi (by omega)
      · simp (disch := omega) only [pk_un]; exact w4 i hi
      · simp (disch := omega) only [pk_un]; exact w5.1 k hk
      · simp (disch := omega) only [pk_un]; exact w5.2.1
      · simp (disch := omega) only [pk_un]; exact w5.2.2
      · have w7 := w6 i hi
        unfold mom at w7 ⊢
        simp (disch := omega) only [pk_un]
        exact w7
    have hP : Un Pk σ s1 := e3.un (fun a j p q => by unfold Pk; omega)
    refine ⟨rI σ 113 62, s1, stI s1 113 62 (nI 0), ?_, ?_, Inv_two h ⟨_, _, _, _, _, _, hn1, hw1, hr1⟩ hP (Un.stI _ _ _ _ (by unfold Pr; omega)) (fun j hj => ?_)⟩
    · show f_X11_forget σ (nI 1) = _
      unfold f_X11_forget b_X11_forget_60
      rw [if_neg q1, hm, ob_some]
      simp only [kd10, kd11, if_true, if_false, e1, ob_some]
      rfl
    · show f_X12_forget s1 (nI 1) = _
      unfold f_X12_forget b_X12_forget_40
      rw [in_0_2, if_neg q1]
      simp only [kd10, kd11, if_true, if_false]
      simp (disch := omega) only [if_true, L0, L62, i113, nam_e, ix_nI, Pk_w hP]
    · simp only [rI_stI, upd, true_and, Pk_w hP]
  · obtain ⟨s1, e1, e2, e3⟩ := restart_in σ 14 (fun j => (upd (rI σ 113) 87 (nI 0)) (88 + j))
    have hs : ∀ a j, (a < 14 ∨ 16 ≤ a) → rI s1 a j = rI σ a j := fun a j ha => (e3 a (by omega)).1 j
    have hr1 : Rw s1 1 (upd (rI σ 113) 87 (nI 0)) a b c d 0 u := by
      refine ⟨?_, ?_, ?_, ?_, ?_, ?_, ?_, ?_, ?_, ?_, ?_, ?_⟩
      · refine r1.res (fun k j hk => hs k j (by omega)) (fun j hj => ?_); simp (disch := omega) only [pk_un]
      · refine r2.res (fun k j hk => hs k j (by omega)) (fun j hj => ?_); simp (disch := omega) only [pk_un]
      · refine r3.res (fun k j hk => hs k j (by omega)) (fun j hj => ?_); simp (disch := omega) only [pk_un]
      · refine r4.res (fun k j hk => hs k j (by omega)) (fun j hj => ?_); simp (disch := omega) only [pk_un]
      · refine r5.res (fun k j hk => hs k j (by omega)) (fun j hj => ?_); simp (disch := omega) only [pk_un]
      · refine r6.res (fun k j hk => hs k j (by omega)) (fun j hj => ?_); simp (disch := omega) only [pk_un]
      · exact e2
      · refine r8.res (fun k j hk => hs k j (by omega)) (fun j hj => ?_); simp (disch := omega) only [pk_un]
      · rw [hs _ _ (by omega), r9]; simp (disch := omega) only [pk_un]
      · rw [hs _ _ (by omega), r10]; simp (disch := omega) only [pk_un]
      · refine r11.res (fun k j hk => hs k j (by omega)) (fun j hj => ?_); simp (disch := omega) only [pk_un]
      · refine r12.res (fun k j hk => hs k j (by omega)) (fun j hj => ?_); simp (disch := omega) only [pk_un]
    have hn1 : Nm (upd (rI σ 113) 87 (nI 0)) a b c d 0 u := by
      refine ⟨⟨?_, ha⟩, ⟨?_, hb⟩, ⟨?_, hc⟩, ⟨?_, hd⟩, ⟨?_, by omega⟩, ?_, hu⟩ <;> simp (disch := omega) only [pk_un, pk_us, n0, n1, n2, n3, n4, n5]
    have hw1 : Wf (upd (rI σ 113) 87 (nI 0)) a b d 0 u := by
      obtain ⟨w1, w2, w3, w4, w5, w6⟩ := hw
      refine ⟨fun k hk => ?_, fun k hk => ?_, fun i hi => ?_, fun i hi => ?_, ⟨fun k hk => ?_, ?_, ?_⟩, fun i hi => ?_⟩
      · simp (disch := omega) only [pk_un]; exact w1 k hk
      · simp (disch := omega) only [pk_un]; exact w2 k hk
      · simp (disch := omega) only [pk_un]; exact w3 i hi
      · exact absurd hi (by omega)
      · simp (disch := omega) only [pk_un]; exact w5.1 k hk
      · simp (disch := omega) only [pk_un]; exact w5.2.1
      · simp (disch := omega) only [pk_un]; exact w5.2.2
      · have w7 := w6 i hi
        unfold mom at w7 ⊢
        simp (disch := omega) only [pk_un]
        exact w7
    have hP : Un Pk σ s1 := e3.un (fun a j p q => by unfold Pk; omega)
    refine ⟨rI σ 113 87, s1, stI s1 113 87 (nI 0), ?_, ?_, Inv_two h ⟨_, _, _, _, _, _, hn1, hw1, hr1⟩ hP (Un.stI _ _ _ _ (by unfold Pr; omega)) (fun j hj => ?_)⟩
    · show f_X11_forget σ (nI 2) = _
      unfold f_X11_forget b_X11_forget_60
      rw [if_neg q1, hm, ob_some]
      simp only [kd20, kd21, if_true, if_false, e1, ob_some]
      rfl
    · show f_X12_forget s1 (nI 2) = _
      unfold f_X12_forget b_X12_forget_40
      rw [in_0_2, if_neg q1]
      simp only [kd20, kd21, if_true, if_false]
      simp (disch := omega) only [if_true, L0, L87, i113, nam_e, ix_nI, Pk_w hP]
    · simp only [rI_stI, upd, true_and, Pk_w hP]
/-- whether p holds at k, k+1, .. (m of them) -/
def allF (p : Nat → Bool) : Nat → Nat → Bool
  | _, 0 => true
  | k, m + 1 => p k && allF p (k + 1) m
theorem allF_s (p : Nat → Bool) (k m : Nat) : allF p k (m + 1) = (p k && allF p (k + 1) m) := rfl
def b2i (b : Bool) : Int32 := if b = true then 1 else 0
theorem or_0 (x : Int32) : x ||| 0 = x := Int32.or_zero
theorem or_bit : ∀ k, k < 7 → ∀ x, x < 2 ^ k → nI x ||| (1 <<< (nI k &&& 31)) = nI (x + 2 ^ k) := by decide +kernel
/-- the bits of those for which p holds -/
def biS (p : Nat → Bool) : Nat → Int32 → Int32 := fun k s => if p k = true then s ||| (1 <<< (nI k &&& 31)) else s
theorem bi_bound (p : Nat → Bool) {n : Nat} (hn : n ≤ 7) : ∃ x, x < 2 ^ n ∧ fo (biS p) 0 n 0 = nI x := by
  have := fo_inv (st := biS p) (fun k s => ∃ x, x < 2 ^ k ∧ s = nI x) n 0 0 ⟨0, by decide, rfl⟩ (fun j s h1 h2 ⟨x, hx, hs⟩ => by
    have h3 : 2 ^ (j + 1) = 2 ^ j + 2 ^ j := by rw [Nat.pow_succ]; omega
    unfold biS
    split
    · exact ⟨x + 2 ^ j, by omega, by rw [hs]; exact or_bit j (by omega) x hx⟩
    · exact ⟨x, by omega, hs⟩)
  rwa [Nat.zero_add] at this
def pN (g : Nat → Int32) (l1 : Int32) (kind i : Nat) : Bool := decide (g (63 + 4 * i) = l1 → f_X12_goes (nI kind) (g (63 + (4 * i + 1))) (g (63 + (4 * i + 2))) = g (63 + (4 * i + 3)))
theorem fitN_c {σ : Sg} {n kd : Nat} {g : Nat → Int32} (l1 : Int32) (hr : rowIs σ 12 (4 * n) (fun j => g (63 + j))) (hn : n ≤ 6) (hk : kd ≤ 5) (hw : ∀ i, i < n → vIn (g (63 + (4 * i + 1))) 1 250) : ∀ (t i fu : Nat), t + i = n → t < fu → b_X1_fitsNotes_2 σ 12 l1 (nI kd) fu (nI (4 * i)) = some (b2i (allF (pN g l1 kd) i t)) := by
  intro t
  induction t with
  | zero =>
    intro i fu ht hf
    obtain ⟨fu, rfl⟩ : ∃ q, fu = q + 1 := ⟨fu - 1, by omega⟩
    rw [b_X1_fitsNotes_2, show f_X7_size σ 12 = _ from hr.2.1, L3, nI_add, if_pos (nI_le (by omega) (by omega))]
    rfl
  | succ t ih =>
    intro i fu ht hf
    obtain ⟨fu, rfl⟩ : ∃ q, fu = q + 1 := ⟨fu - 1, by omega⟩
    obtain ⟨x, x1, x2, x3⟩ := hw i (by omega)
    have hg : f_X2_behind (nI kd) (g (63 + (4 * i + 1))) (g (63 + (4 * i + 2))) = f_X12_goes (nI kd) (g (63 + (4 * i + 1))) (g (63 + (4 * i + 2))) := by
      rw [x3]; exact (goes_same _ hk x1 x2).1
    have ih' := ih (i + 1) fu (by omega) (by omega)
    rw [show 4 * (i + 1) = 4 * i + 4 by omega] at ih'
    rw [b_X1_fitsNotes_2, show f_X7_size σ 12 = _ from hr.2.1, L3, nI_add, if_neg (nI_ge (by omega) (by omega)), at_in hr (by omega), ob_some, L1, nI_add, at_in hr (by omega), ob_some, L2, nI_add, at_in hr (by omega), ob_some, at_in hr (by omega), ob_some, hg]
    unfold b_X1_fitsNotes_51
    rw [nam_e, L4, nI_add, ih']
    rw [allF_s]
    by_cases q1 : g (63 + 4 * i) = l1
    · by_cases q2 : f_X12_goes (nI kd) (g (63 + (4 * i + 1))) (g (63 + (4 * i + 2))) = g (63 + (4 * i + 3))
      · have : pN g l1 kd i = true := decide_eq_true (fun _ => q2)
        rw [if_pos q1, if_pos q2, this, Bool.true_and]
      · have : pN g l1 kd i = false := decide_eq_false (fun z => q2 (z q1))
        rw [if_pos q1, if_neg q2, this, Bool.false_and]
        rfl
    · have : pN g l1 kd i = true := decide_eq_true (fun z => absurd z q1)
      rw [if_neg q1, this, Bool.true_and]
theorem kindsN_c {σ : Sg} {n : Nat} {g : Nat → Int32} (l1 : Int32) (hr : rowIs σ 12 (4 * n) (fun j => g (63 + j))) (hn : n ≤ 6) (hw : ∀ i, i < n → vIn (g (63 + (4 * i + 1))) 1 250) : ∀ (t i fu : Nat) (s : Int32), t + i = 6 → t < fu → b_X1_kindsOfKeeper_4 σ 1 l1 fu s (nI i) = some (fo (biS (fun kd => allF (pN g l1 kd) 0 n)) i t s) := by
  intro t
  induction t with
  | zero =>
    intro i fu s ht hf
    obtain ⟨fu, rfl⟩ : ∃ q, fu = q + 1 := ⟨fu - 1, by omega⟩
    rw [b_X1_kindsOfKeeper_4, if_pos (show (6 : Int32) ≤ nI i from nI_le (a := 6) (by omega) (by omega))]
    rfl
  | succ t ih =>
    intro i fu s ht hf
    obtain ⟨fu, rfl⟩ : ∃ q, fu = q + 1 := ⟨fu - 1, by omega⟩
    have e0 : f_X1_fitsNotes σ (1 + 11) l1 (nI i) = some (b2i (allF (pN g l1 i) 0 n)) := fitN_c l1 hr hn (by omega) hw n 0 FU (by omega) (by unfold FU; omega)
    rw [b_X1_kindsOfKeeper_4, if_neg (show ¬ (6 : Int32) ≤ nI i from nI_ge (b := 6) (by omega) (by omega)), e0, ob_some, fo_s]
    unfold b_X1_kindsOfKeeper_28
    simp only [nam_e, nI_1]
    cases hb : allF (pN g l1 i) 0 n with
    | false =>
      rw [if_pos (show b2i false = 0 from rfl), ih (i + 1) fu s (by omega) (by omega)]
      have : biS (fun kd => allF (pN g l1 kd) 0 n) i s = s := if_neg (fun z => absurd (hb.symm.trans z) (by decide))
      rw [this]
    | true =>
      rw [if_neg (show ¬ b2i true = 0 by decide), ih (i + 1) fu _ (by omega) (by omega)]
      have : biS (fun kd => allF (pN g l1 kd) 0 n) i s = s ||| (1 <<< (nI i &&& 31)) := if_pos hb
      rw [this]
theorem fitN_r {σ : Sg} {n : Nat} (l1 : Int32) (c : Int32 → Int32 → Option Int32) (hN : rI σ 113 62 = nI n) (hn : n ≤ 6) (s : Int32) (kd : Nat) : ∀ (t i fu : Nat) (b : Bool), t + i = n → t < fu → b_X12_kindsOf_16 σ l1 c fu s (nI kd) (b2i b) (nI i) = (if (b && allF (pN (rI σ 113) l1 kd) i t) = true then b_X12_kindsOf_113 σ l1 c (nI kd) (1 <<< (nI kd &&& 31)) s else b_X12_kindsOf_113 σ l1 c (nI kd) 0 s) := by
  intro t
  induction t with
  | zero =>
    intro i fu b ht hf
    obtain ⟨fu, rfl⟩ : ∃ q, fu = q + 1 := ⟨fu - 1, by omega⟩
    rw [b_X12_kindsOf_16, if_pos (show inb 62 (kLen 113) = true from i113 (n := 62) (by omega)), show rI σ 113 (ix 62) = nI n from hN, if_pos (nI_le (by omega) (by omega))]
    cases b <;> rfl
  | succ t ih =>
    intro i fu b ht hf
    obtain ⟨fu, rfl⟩ : ∃ q, fu = q + 1 := ⟨fu - 1, by omega⟩
    rw [b_X12_kindsOf_16, if_pos (show inb 62 (kLen 113) = true from i113 (n := 62) (by omega)), show rI σ 113 (ix 62) = nI n from hN, if_neg (nI_ge (by omega) (by omega)), nam_e]
    unfold b_X12_kindsOf_87 b_X12_kindsOf_91 b_X12_kindsOf_92
    simp (disch := omega) only [L63, L4, L1, L2, L3, pk_mul, nI_add, Nat.add_assoc, i113, if_true, ix_nI, nam_e, nI_1]
    simp only [← L1]
    have iT := ih (i + 1) fu true (by omega) (by omega)
    have iF := ih (i + 1) fu false (by omega) (by omega)
    rw [show b2i true = 1 from rfl, Bool.true_and] at iT
    rw [show b2i false = 0 from rfl, Bool.false_and] at iF
    rw [allF_s]
    cases b with
    | false =>
      rw [if_pos (show b2i false = 0 from rfl), iF, Bool.false_and]
    | true =>
      rw [if_neg (show ¬ b2i true = 0 by decide), Bool.true_and]
      by_cases q1 : rI σ 113 (63 + 4 * i) = l1
      · by_cases q2 : f_X12_goes (nI kd) (rI σ 113 (63 + (4 * i + 1))) (rI σ 113 (63 + (4 * i + 2))) = rI σ 113 (63 + (4 * i + 3))
        · have : pN (rI σ 113) l1 kd i = true := decide_eq_true (fun _ => q2)
          rw [if_pos q1, if_pos q2, iT, this, Bool.true_and]
        · have : pN (rI σ 113) l1 kd i = false := decide_eq_false (fun z => q2 (z q1))
          rw [if_pos q1, if_neg q2, iF, this, Bool.false_and]
      · have : pN (rI σ 113) l1 kd i = true := decide_eq_true (fun z => absurd z q1)
        rw [if_neg q1, iT, this, Bool.true_and]
theorem kindsN_r {σ : Sg} {n : Nat} (l1 : Int32) (hN : rI σ 113 62 = nI n) (hn : n ≤ 6) : ∀ (t i fu : Nat) (s : Int32), t + i = 6 → t < fu → b_X12_kindsOf_4 σ l1 fu s (nI i) = some (fo (biS (fun kd => allF (pN (rI σ 113) l1 kd) 0 n)) i t s) := by
  intro t
  induction t with
  | zero =>
    intro i fu s ht hf
    obtain ⟨fu, rfl⟩ : ∃ q, fu = q + 1 := ⟨fu - 1, by omega⟩
    rw [b_X12_kindsOf_4, if_pos (show (6 : Int32) ≤ nI i from nI_le (a := 6) (by omega) (by omega))]
    rfl
  | succ t ih =>
    intro i fu s ht hf
    obtain ⟨fu, rfl⟩ : ∃ q, fu = q + 1 := ⟨fu - 1, by omega⟩
    have e0 := fitN_r l1 (b_X12_kindsOf_4 σ l1 fu) hN hn s i n 0 FU true (by omega) (by unfold FU; omega)
    rw [Bool.true_and] at e0
    rw [b_X12_kindsOf_4, if_neg (show ¬ (6 : Int32) ≤ nI i from nI_ge (b := 6) (by omega) (by omega)), show b_X12_kindsOf_16 σ l1 (b_X12_kindsOf_4 σ l1 fu) FU s (nI i) 1 0 = _ from e0, fo_s]
    unfold b_X12_kindsOf_113
    simp only [nam_e, nI_1]
    cases hb : allF (pN (rI σ 113) l1 i) 0 n with
    | false =>
      rw [if_neg (by decide), or_0, ih (i + 1) fu s (by omega) (by omega)]
      have : biS (fun kd => allF (pN (rI σ 113) l1 kd) 0 n) i s = s := if_neg (fun z => absurd (hb.symm.trans z) (by decide))
      rw [this]
    | true =>
      rw [if_pos rfl, ih (i + 1) fu _ (by omega) (by omega)]
      have : biS (fun kd => allF (pN (rI σ 113) l1 kd) 0 n) i s = s ||| (1 <<< (nI i &&& 31)) := if_pos hb
      rw [this]
def pT (g : Nat → Int32) (l1 : Int32) (kind i : Nat) : Bool := decide (g (88 + 4 * i) = l1 → f_X12_tipOf (nI kind) (g (88 + (4 * i + 1))) (g (88 + (4 * i + 2))) = g (88 + (4 * i + 3)))
theorem fitT_c {σ : Sg} {n kd : Nat} {g : Nat → Int32} (l1 : Int32) (hr : rowIs σ 14 (4 * n) (fun j => g (88 + j))) (hn : n ≤ 6) (hk : kd ≤ 5) (hw : ∀ i, i < n → vIn (g (88 + (4 * i + 1))) 0 999 ∧ vIn (g (88 + (4 * i + 2))) 0 999) : ∀ (t i fu : Nat), t + i = n → t < fu → b_X1_fitsTippings_2 σ 14 l1 (nI kd) fu (nI (4 * i)) = some (b2i (allF (pT g l1 kd) i t)) := by
  intro t
  induction t with
  | zero =>
    intro i fu ht hf
    obtain ⟨fu, rfl⟩ : ∃ q, fu = q + 1 := ⟨fu - 1, by omega⟩
    rw [b_X1_fitsTippings_2, show f_X7_size σ 14 = _ from hr.2.1, L3, nI_add, if_pos (nI_le (by omega) (by omega))]
    rfl
  | succ t ih =>
    intro i fu ht hf
    obtain ⟨fu, rfl⟩ : ∃ q, fu = q + 1 := ⟨fu - 1, by omega⟩
    obtain ⟨⟨x, x1, x2, x3⟩, y, y1, y2, y3⟩ := hw i (by omega)
    have hg : f_X0_tip (nI kd) (g (88 + (4 * i + 1))) (g (88 + (4 * i + 2))) = f_X12_tipOf (nI kd) (g (88 + (4 * i + 1))) (g (88 + (4 * i + 2))) := by
      rw [x3, y3]; exact tip_kind hk (by omega) (by omega)
    have ih' := ih (i + 1) fu (by omega) (by omega)
    rw [show 4 * (i + 1) = 4 * i + 4 by omega] at ih'
    rw [b_X1_fitsTippings_2, show f_X7_size σ 14 = _ from hr.2.1, L3, nI_add, if_neg (nI_ge (by omega) (by omega)), at_in hr (by omega), ob_some, L1, nI_add, at_in hr (by omega), ob_some, L2, nI_add, at_in hr (by omega), ob_some, at_in hr (by omega), ob_some, hg]
    unfold b_X1_fitsTippings_51
    rw [nam_e, L4, nI_add, ih']
    rw [allF_s]
    by_cases q1 : g (88 + 4 * i) = l1
    · by_cases q2 : f_X12_tipOf (nI kd) (g (88 + (4 * i + 1))) (g (88 + (4 * i + 2))) = g (88 + (4 * i + 3))
      · have : pT g l1 kd i = true := decide_eq_true (fun _ => q2)
        rw [if_pos q1, if_pos q2, this, Bool.true_and]
      · have : pT g l1 kd i = false := decide_eq_false (fun z => q2 (z q1))
        rw [if_pos q1, if_neg q2, this, Bool.false_and]
        rfl
    · have : pT g l1 kd i = true := decide_eq_true (fun z => absurd z q1)
      rw [if_neg q1, this, Bool.true_and]
theorem kindsT_c {σ : Sg} {n : Nat} {g : Nat → Int32} (l1 : Int32) (hr : rowIs σ 14 (4 * n) (fun j => g (88 + j))) (hn : n ≤ 6) (hw : ∀ i, i < n → vIn (g (88 + (4 * i + 1))) 0 999 ∧ vIn (g (88 + (4 * i + 2))) 0 999) : ∀ (t i fu : Nat) (s : Int32), t + i = 6 → t < fu → b_X1_kindsOfBalance_4 σ 1 l1 fu s (nI i) = some (fo (biS (fun kd => allF (pT g l1 kd) 0 n)) i t s) := by
  intro t
  induction t with
  | zero =>
    intro i fu s ht hf
    obtain ⟨fu, rfl⟩ : ∃ q, fu = q + 1 := ⟨fu - 1, by omega⟩
    rw [b_X1_kindsOfBalance_4, if_pos (show (6 : Int32) ≤ nI i from nI_le (a := 6) (by omega) (by omega))]
    rfl
  | succ t ih =>
    intro i fu s ht hf
    obtain ⟨fu, rfl⟩ : ∃ q, fu = q + 1 := ⟨fu - 1, by omega⟩
    have e0 : f_X1_fitsTippings σ (1 + 13) l1 (nI i) = some (b2i (allF (pT g l1 i) 0 n)) := fitT_c l1 hr hn (by omega) hw n 0 FU (by omega) (by unfold FU; omega)
    rw [b_X1_kindsOfBalance_4, if_neg (show ¬ (6 : Int32) ≤ nI i from nI_ge (b := 6) (by omega) (by omega)), e0, ob_some, fo_s]
    unfold b_X1_kindsOfBalance_28
    simp only [nam_e, nI_1]
    cases hb : allF (pT g l1 i) 0 n with
    | false =>
      rw [if_pos (show b2i false = 0 from rfl), ih (i + 1) fu s (by omega) (by omega)]
      have : biS (fun kd => allF (pT g l1 kd) 0 n) i s = s := if_neg (fun z => absurd (hb.symm.trans z) (by decide))
      rw [this]
    | true =>
      rw [if_neg (show ¬ b2i true = 0 by decide), ih (i + 1) fu _ (by omega) (by omega)]
      have : biS (fun kd => allF (pT g l1 kd) 0 n) i s = s ||| (1 <<< (nI i &&& 31)) := if_pos hb
      rw [this]
theorem fitT_r {σ : Sg} {n : Nat} (l1 : Int32) (c : Int32 → Int32 → Option Int32) (hN : rI σ 113 87 = nI n) (hn : n ≤ 6) (s : Int32) (kd : Nat) : ∀ (t i fu : Nat) (b : Bool), t + i = n → t < fu → b_X12_balancesOf_16 σ l1 c fu s (nI kd) (b2i b) (nI i) = (if (b && allF (pT (rI σ 113) l1 kd) i t) = true then b_X12_balancesOf_113 σ l1 c (nI kd) (1 <<< (nI kd &&& 31)) s else b_X12_balancesOf_113 σ l1 c (nI kd) 0 s) := by
  intro t
  induction t with
  | zero =>
    intro i fu b ht hf
    obtain ⟨fu, rfl⟩ : ∃ q, fu = q + 1 := ⟨fu - 1, by omega⟩
    rw [b_X12_balancesOf_16, if_pos (show inb 87 (kLen 113) = true from i113 (n := 87) (by omega)), show rI σ 113 (ix 87) = nI n from hN, if_pos (nI_le (by omega) (by omega))]
    cases b <;> rfl
  | succ t ih =>
    intro i fu b ht hf
    obtain ⟨fu, rfl⟩ : ∃ q, fu = q + 1 := ⟨fu - 1, by omega⟩
    rw [b_X12_balancesOf_16, if_pos (show inb 87 (kLen 113) = true from i113 (n := 87) (by omega)), show rI σ 113 (ix 87) = nI n from hN, if_neg (nI_ge (by omega) (by omega)), nam_e]
    unfold b_X12_balancesOf_87 b_X12_balancesOf_91 b_X12_balancesOf_92
    simp (disch := omega) only [L88, L4, L1, L2, L3, pk_mul, nI_add, Nat.add_assoc, i113, if_true, ix_nI, nam_e, nI_1]
    simp only [← L1]
    have iT := ih (i + 1) fu true (by omega) (by omega)
    have iF := ih (i + 1) fu false (by omega) (by omega)
    rw [show b2i true = 1 from rfl, Bool.true_and] at iT
    rw [show b2i false = 0 from rfl, Bool.false_and] at iF
    rw [allF_s]
    cases b with
    | false =>
      rw [if_pos (show b2i false = 0 from rfl), iF, Bool.false_and]
    | true =>
      rw [if_neg (show ¬ b2i true = 0 by decide), Bool.true_and]
      by_cases q1 : rI σ 113 (88 + 4 * i) = l1
      · by_cases q2 : f_X12_tipOf (nI kd) (rI σ 113 (88 + (4 * i + 1))) (rI σ 113 (88 + (4 * i + 2))) = rI σ 113 (88 + (4 * i + 3))
        · have : pT (rI σ 113) l1 kd i = true := decide_eq_true (fun _ => q2)
          rw [if_pos q1, if_pos q2, iT, this, Bool.true_and]
        · have : pT (rI σ 113) l1 kd i = false := decide_eq_false (fun z => q2 (z q1))
          rw [if_pos q1, if_neg q2, iF, this, Bool.false_and]
      · have : pT (rI σ 113) l1 kd i = true := decide_eq_true (fun z => absurd z q1)
        rw [if_neg q1, iT, this, Bool.true_and]
theorem kindsT_r {σ : Sg} {n : Nat} (l1 : Int32) (hN : rI σ 113 87 = nI n) (hn : n ≤ 6) : ∀ (t i fu : Nat) (s : Int32), t + i = 6 → t < fu → b_X12_balancesOf_4 σ l1 fu s (nI i) = some (fo (biS (fun kd => allF (pT (rI σ 113) l1 kd) 0 n)) i t s) := by
  intro t
  induction t with
  | zero =>
    intro i fu s ht hf
    obtain ⟨fu, rfl⟩ : ∃ q, fu = q + 1 := ⟨fu - 1, by omega⟩
    rw [b_X12_balancesOf_4, if_pos (show (6 : Int32) ≤ nI i from nI_le (a := 6) (by omega) (by omega))]
    rfl
  | succ t ih =>
    intro i fu s ht hf
    obtain ⟨fu, rfl⟩ : ∃ q, fu = q + 1 := ⟨fu - 1, by omega⟩
    have e0 := fitT_r l1 (b_X12_balancesOf_4 σ l1 fu) hN hn s i n 0 FU true (by omega) (by unfold FU; omega)
    rw [Bool.true_and] at e0
    rw [b_X12_balancesOf_4, if_neg (show ¬ (6 : Int32) ≤ nI i from nI_ge (b := 6) (by omega) (by omega)), show b_X12_balancesOf_16 σ l1 (b_X12_balancesOf_4 σ l1 fu) FU s (nI i) 1 0 = _ from e0, fo_s]
    unfold b_X12_balancesOf_113
    simp only [nam_e, nI_1]
    cases hb : allF (pT (rI σ 113) l1 i) 0 n with
    | false =>
      rw [if_neg (by decide), or_0, ih (i + 1) fu s (by omega) (by omega)]
      have : biS (fun kd => allF (pT (rI σ 113) l1 kd) 0 n) i s = s := if_neg (fun z => absurd (hb.symm.trans z) (by decide))
      rw [this]
    | true =>
      rw [if_pos rfl, ih (i + 1) fu _ (by omega) (by omega)]
      have : biS (fun kd => allF (pT (rI σ 113) l1 kd) 0 n) i s = s ||| (1 <<< (nI i &&& 31)) := if_pos hb
      rw [this]
theorem kindsN {σ : Sg} (h : Inv σ) (v : Int32) : ∃ x, x < 64 ∧ f_X1_kindsOfKeeper σ 1 v = some (nI x) ∧ ∀ τ, (∀ j, rI τ 113 j = rI σ 113 j) → f_X12_kindsOf τ v = some (nI x) := by
  have h1 := h.1
  obtain ⟨a, b, c, d, e, u, hn, hw, hr⟩ := h1
  have hn2 := hn
  obtain ⟨⟨n0, ha⟩, ⟨n1, hb⟩, ⟨n2, hc⟩, ⟨n3, hd⟩, ⟨n4, he⟩, n5, hu⟩ := hn2
  obtain ⟨r1, r2, r3, r4, r5, r6, r7, r8, r9, r10, r11, r12⟩ := hr
  obtain ⟨x, hx, hx2⟩ := bi_bound (fun kd => allF (pN (rI σ 113) v kd) 0 d) (n := 6) (by omega)
  refine ⟨x, hx, ?_, fun τ ht => ?_⟩
  · rw [← hx2]
    exact kindsN_c v r6 hd hw.2.2.1 6 0 FU 0 (by omega) (by unfold FU; omega)
  · rw [← hx2, ← show rI τ 113 = rI σ 113 from funext ht]
    exact kindsN_r v ((ht _).trans n3) hd 6 0 FU 0 (by omega) (by unfold FU; omega)
theorem m_is {σ : Sg} (h : Inv σ) (v : Int32) : Sim (fun s => f_X11_is s v) (fun s => f_X12_is s v) σ := by
  by_cases q1 : f_X11_between v 0 (rI σ 113 0 - 1) = 0
  · refine ref_bad h (-2) id ?_ (fun τ ht => ?_)
    · show f_X11_is σ v = _
      unfold f_X11_is; rw [hasK_c h, if_pos q1]; rfl
    · show f_X12_is τ v = _
      unfold f_X12_is; rw [isK_r, ht 113 0 (by omega), ob_some, if_pos q1]; rfl
  obtain ⟨x, _, e1, e2⟩ := kindsN h v
  refine Sim.pure h (nI x) ?_ ?_
  · show f_X11_is σ v = _
    unfold f_X11_is
    rw [hasK_c h, if_neg q1, e1, ob_some]
  · show f_X12_is σ v = _
    unfold f_X12_is
    rw [isK_r, ob_some, if_neg q1, e2 σ (fun _ => rfl), ob_some]
theorem kindsT {σ : Sg} (h : Inv σ) (v : Int32) : ∃ x, x < 64 ∧ f_X1_kindsOfBalance σ 1 v = some (nI x) ∧ ∀ τ, (∀ j, rI τ 113 j = rI σ 113 j) → f_X12_balancesOf τ v = some (nI x) := by
  have h1 := h.1
  obtain ⟨a, b, c, d, e, u, hn, hw, hr⟩ := h1
  have hn2 := hn
  obtain ⟨⟨n0, ha⟩, ⟨n1, hb⟩, ⟨n2, hc⟩, ⟨n3, hd⟩, ⟨n4, he⟩, n5, hu⟩ := hn2
  obtain ⟨r1, r2, r3, r4, r5, r6, r7, r8, r9, r10, r11, r12⟩ := hr
  obtain ⟨x, hx, hx2⟩ := bi_bound (fun kd => allF (pT (rI σ 113) v kd) 0 e) (n := 6) (by omega)
  refine ⟨x, hx, ?_, fun τ ht => ?_⟩
  · rw [← hx2]
    exact kindsT_c v r7 he hw.2.2.2.1 6 0 FU 0 (by omega) (by unfold FU; omega)
  · rw [← hx2, ← show rI τ 113 = rI σ 113 from funext ht]
    exact kindsT_r v ((ht _).trans n4) he 6 0 FU 0 (by omega) (by unfold FU; omega)
theorem m_who {σ : Sg} (h : Inv σ) (v : Int32) : Sim (fun s => f_X11_who s v) (fun s => f_X12_who s v) σ := by
  by_cases q1 : f_X11_between v 0 (rI σ 113 1 - 1) = 0
  · refine ref_bad h (-2) id ?_ (fun τ ht => ?_)
    · show f_X11_who σ v = _
      unfold f_X11_who; rw [hasB_c h, if_pos q1]; rfl
    · show f_X12_who τ v = _
      unfold f_X12_who; rw [isB_r, ht 113 1 (by omega), ob_some, if_pos q1]; rfl
  obtain ⟨x, _, e1, e2⟩ := kindsT h v
  refine Sim.pure h (nI x) ?_ ?_
  · show f_X11_who σ v = _
    unfold f_X11_who
    rw [hasB_c h, if_neg q1, e1, ob_some]
  · show f_X12_who σ v = _
    unfold f_X12_who
    rw [isB_r, ob_some, if_neg q1, e2 σ (fun _ => rfl), ob_some]
