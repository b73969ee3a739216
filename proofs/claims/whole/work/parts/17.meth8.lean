theorem ones_bc : ∀ x, x < 128 → f_X12_ones (nI x) = some (f_J6_bitCount_0f7a4 (nI x)) := by decide +kernel
theorem all_has : ∀ a, a < 8 → ∀ k, k < a → f_X12_has ((1 <<< (nI a &&& 31)) - 1) (nI k) = 1 := by decide +kernel
theorem has_out : ∀ a, a < 8 → ∀ x, x < 2 ^ a → ∀ k, k < 7 → a ≤ k → f_X12_has (nI x) (nI k) = 0 := by decide +kernel
theorem all_eq : ∀ a, a < 8 → (1 <<< (nI a &&& 31)) - 1 = nI (2 ^ a - 1) := by decide +kernel
theorem hs_of {v : Int32} {a : Nat} (ha : a ≤ 7) (h : ¬ f_X11_between v 0 ((1 <<< (nI a &&& 31)) - 1) = 0) : ∃ x, x < 2 ^ a ∧ v = nI x := by
  have hp : 2 ^ a ≤ 2 ^ 7 := Nat.pow_le_pow_right (by omega) ha
  have h0 : 0 < 2 ^ a := Nat.two_pow_pos a
  rw [all_eq a (by omega)] at h
  obtain ⟨x, x1, x2, x3⟩ := btw_of (lo := 0) (hi := 2 ^ a - 1) (by omega) h (by omega)
  exact ⟨x, by omega, x3⟩
def alS (g : Nat → Int32) : Nat → Int32 → Int32 := fun k s => s + g (18 + k)
theorem allR_loop {σ : Sg} {a : Nat} (hN : rI σ 113 0 = nI a) (ha : a ≤ 7) : ∀ (t i fu : Nat) (s : Int32), t + i = a → t < fu → b_X12_allStones_4 σ fu s (nI i) = some (fo (alS (rI σ 113)) i t s) := by
  intro t
  induction t with
  | zero =>
    intro i fu s ht hf
    obtain ⟨fu, rfl⟩ : ∃ q, fu = q + 1 := ⟨fu - 1, by omega⟩
    rw [b_X12_allStones_4, if_pos (show inb 0 (kLen 113) = true from i113 (n := 0) (by omega)), show rI σ 113 (ix 0) = nI a from hN, if_pos (nI_le (by omega) (by omega))]
    rfl
  | succ t ih =>
    intro i fu s ht hf
    obtain ⟨fu, rfl⟩ : ∃ q, fu = q + 1 := ⟨fu - 1, by omega⟩
    rw [b_X12_allStones_4, if_pos (show inb 0 (kLen 113) = true from i113 (n := 0) (by omega)), show rI σ 113 (ix 0) = nI a from hN, if_neg (nI_ge (by omega) (by omega)), fo_s]
    simp (disch := omega) only [L18, nI_add, i113, if_true, ix_nI, nam_e, nI_1]
    exact ih (i + 1) fu _ (by omega) (by omega)
theorem allR {σ : Sg} {a : Nat} (hN : rI σ 113 0 = nI a) (ha : a ≤ 7) : f_X12_allStones σ = some (fo (alS (rI σ 113)) 0 a 0) := allR_loop hN ha a 0 FU 0 (by omega) (by unfold FU; omega)
theorem allC {σ : Sg} {k a : Nat} {g : Nat → Int32} (h : rowIs σ k a (fun j => g (18 + j))) (ha : a ≤ 7) : f_X7_sumOf σ k ((1 <<< (nI a &&& 31)) - 1) = some (fo (alS g) 0 a 0) := by
  rw [sumOf_in _ h (by omega)]
  unfold sm
  congr 1
  exact fo_cong a 0 0 (fun j _ hj x => if_neg (by rw [all_has a (by omega) j (by omega)]; decide))
def cntG (σ : Sg) (w : Nat) : Int32 := if w = 0 then rI σ 113 0 else if w = 1 then rI σ 113 1 else if w = 2 then rI σ 113 2 else if w = 3 then f_J6_bitCount_0f7a4 (rI σ 113 3) else if w = 4 then fo (alS (rI σ 113)) 0 (ix (rI σ 113 0)) 0 else if w = 5 then rI σ 113 43 else if w = 6 then rI σ 113 62 else if w = 7 then rI σ 113 87 else if w = 8 then rI σ 113 112 else rI σ 112 3
theorem kd0 (w n : Nat) (hw : w < 2 ^ 31) (hn : n < 2 ^ 31) : (nI w = nI n) = (w = n) := propext (nI_eq hw hn)
theorem div_c {n m : Nat} (hn : n ≤ 8) (hm : 1 ≤ m) (hm2 : m ≤ 16) : nI (m * n) / nI m = nI n := by
  have : m * n ≤ 16 * 8 := Nat.mul_le_mul hm2 hn
  rw [pk_div (by omega) (by omega) (by omega), Nat.mul_div_cancel_left n (by omega)]
theorem many_c {σ : Sg} (h : Inv σ) {w : Nat} (hw : w ≤ 9) : f_X11_howMany σ (nI w) = some (cntG σ w) := by
  obtain ⟨a, b, c, d, e, u, hn, hwf, hr⟩ := h.1
  obtain ⟨⟨n0, ha⟩, ⟨n1, hb⟩, ⟨n2, hc⟩, ⟨n3, hd⟩, ⟨n4, he⟩, n5, hu⟩ := hn
  have hal : f_X7_sumOf σ 19 (f_X3_allStones σ 1) = some (fo (alS (rI σ 113)) 0 (ix (rI σ 113 0)) 0) := by
    rw [all_c h, n0, ix_nI (by omega)]
    exact allC (k := 19) hr.2.2.2.2.2.2.2.2.2.2.1 ha
  obtain ⟨n, _, tx, ty, _⟩ := h.2.1
  obtain ⟨r1, r2, r3, r4, r5, r6, r7, r8, r9, r10, r11, r12⟩ := hr
  have f1 : f_X3_keeperCount σ 1 = rI σ 113 0 := h.1.n0
  have f2 : f_X7_size σ 8 = rI σ 113 1 := h.1.n1
  have f3 : rI σ 18 0 = rI σ 113 2 := r9
  have f4 : rI σ 18 1 = rI σ 113 3 := r10
  have f5 : f_X3_readingCount σ 1 = rI σ 113 43 := by
    rw [n2, ← div_c (n := c) (m := 3) (by omega) (by omega) (by omega)]
    show rI σ 10 1 / 3 = _
    rw [show rI σ 10 1 = _ from r5.2.1]; rfl
  have f6 : f_X3_noteCount σ 1 = rI σ 113 62 := by
    rw [n3, ← div_c (n := d) (m := 4) (by omega) (by omega) (by omega)]
    show rI σ 12 1 / 4 = _
    rw [show rI σ 12 1 = _ from r6.2.1]; rfl
  have f7 : f_X3_tippingCount σ 1 = rI σ 113 87 := by
    rw [n4, ← div_c (n := e) (m := 4) (by omega) (by omega) (by omega)]
    show rI σ 14 1 / 4 = _
    rw [show rI σ 14 1 = _ from r7.2.1]; rfl
  have f8 : f_X3_undoable σ 1 = rI σ 113 112 := by
    rw [n5, ← div_c (n := u) (m := 16) (by omega) (by omega) (by omega)]
    show rI σ 16 1 / 16 = _
    rw [show rI σ 16 1 = _ from r8.2.1]; rfl
  have f9 : f_X7_size σ 67 = rI σ 112 3 := ty.2.1.trans tx.symm
  unfold f_X11_howMany cntG
  rw [hal, f1, f2, f3, f4, f5, f6, f7, f8, f9]
  simp (disch := omega) only [L0, L1, L2, L3, L4, L5, L6, L7, L8, kd0, ob_some]
  repeat' split
  all_goals rfl
theorem many_r {σ : Sg} (h : Inv σ) {w : Nat} (hw : w ≤ 9) : f_X12_countOf σ (nI w) = some (cntG σ w) := by
  obtain ⟨a, b, c, d, e, u, hn, hwf, hr⟩ := h.1
  obtain ⟨⟨n0, ha⟩, _⟩ := hn
  obtain ⟨l, _, l2, l3⟩ := hwf.2.2.2.2.1.2.1
  have ho : f_X12_ones (rI σ 113 3) = some (f_J6_bitCount_0f7a4 (rI σ 113 3)) := by rw [l3]; exact ones_bc l (by omega)
  have hal : f_X12_allStones σ = some (fo (alS (rI σ 113)) 0 (ix (rI σ 113 0)) 0) := by
    rw [n0, ix_nI (by omega)]; exact allR n0 ha
  unfold f_X12_countOf cntG
  simp (disch := omega) only [L0, L1, L2, L3, L4, L5, L6, L7, L8, L43, L62, L87, L112, kd0, ob_some, i113, if_true, ix_nI, ho, hal]
  repeat' split
  all_goals rfl
theorem m_count {σ : Sg} (h : Inv σ) (v : Int32) : Sim (fun s => f_X11_count s v) (fun s => f_X12_count s v) σ := by
  by_cases q1 : f_X11_between v 0 9 = 0
  · refine ref_bad h (-2) id ?_ (fun τ ht => ?_)
    · show f_X11_count σ v = _
      unfold f_X11_count; rw [if_pos q1]; rfl
    · show f_X12_count τ v = _
      unfold f_X12_count; rw [in_0_9, if_pos q1]; rfl
  obtain ⟨w, p5, p6, rfl⟩ := btw_of (lo := 0) (hi := 9) (by omega) q1 (by omega)
  refine Sim.pure h (cntG σ w) ?_ ?_
  · show f_X11_count σ (nI w) = _
    unfold f_X11_count
    rw [if_neg q1, many_c h p6, ob_some]
  · show f_X12_count σ (nI w) = _
    unfold f_X12_count
    rw [in_0_9, if_neg q1, many_r h p6, ob_some]
theorem least_loop (kd d m : Int32) {kdn : Nat} (hk : kd = nI kdn) (h5 : kdn ≤ 5) : ∀ (t i fu : Nat), t + i = 10 → t < fu → ∃ f, f ≤ 10 ∧ i ≤ f ∧ (∀ j, i ≤ j → j < f → f_X12_lends kd d m (nI j) = 0) ∧ (f < 10 → ¬ f_X12_lends kd d m (nI f) = 0) ∧ b_X2_leastGift_2 kd d m fu (nI i) = some (if f = 10 then -1 else nI f) := by
  subst hk
  intro t
  induction t with
  | zero =>
    intro i fu ht hf
    obtain ⟨fu, rfl⟩ : ∃ q, fu = q + 1 := ⟨fu - 1, by omega⟩
    have : i = 10 := by omega
    subst this
    refine ⟨10, by omega, by omega, fun j h1 h2 => absurd h2 (by omega), fun h => absurd h (by omega), ?_⟩
    rw [b_X2_leastGift_2, if_pos (show (9 : Int32) < nI 10 from nI_lt (a := 9) (by omega) (by omega)), if_pos rfl]
  | succ t ih =>
    intro i fu ht hf
    obtain ⟨fu, rfl⟩ : ∃ q, fu = q + 1 := ⟨fu - 1, by omega⟩
    have e1 : ¬ (9 : Int32) < nI i := nI_nlt (a := 9) (b := i) (by omega) (by omega)
    by_cases q : f_X12_lends (nI kdn) d m (nI i) = 0
    · obtain ⟨f, f1, f2, f3, f4, f5⟩ := ih (i + 1) fu (by omega) (by omega)
      refine ⟨f, f1, by omega, fun j h1 h2 => ?_, f4, ?_⟩
      · by_cases w : j = i
        · rw [w]; exact q
        · exact f3 j (by omega) h2
      · rw [b_X2_leastGift_2, if_neg e1, lends_same d m (nI i) h5, if_pos q, nam_e, nI_1]
        exact f5
    · refine ⟨i, by omega, by omega, fun j h1 h2 => absurd h2 (by omega), fun _ => q, ?_⟩
      rw [b_X2_leastGift_2, if_neg e1, lends_same d m (nI i) h5, if_neg q, if_neg (by omega)]
theorem would_r {σ : Sg} {k : Nat} (v : Int32) (hk : k < 7) : f_X12_wouldLend σ (nI k) v = some (f_X12_lends (rI σ 113 (4 + k)) (rI σ 113 2) (rI σ 113 (32 + k)) v) := by
  unfold f_X12_wouldLend
  simp (disch := omega) only [L2, L4, L32, nI_add, i113, if_true, ix_nI]
theorem gifts_in {σ : Sg} {k : Nat} (b : Int32) (c : Sg → Int32 → Int32 → Option (Int32 × Sg)) (s : Int32) (hk : k < 7) {f : Nat} (h10 : f ≤ 10) (hb : ∀ j, j < f → f_X12_lends (rI σ 113 (4 + k)) (rI σ 113 2) (rI σ 113 (32 + k)) (nI j) = 0) (he : f < 10 → ¬ f_X12_lends (rI σ 113 (4 + k)) (rI σ 113 2) (rI σ 113 (32 + k)) (nI f) = 0) : ∀ (t i fu : Nat), t + i = f → t < fu → b_X12_gifts_53 b c fu σ s (nI k) (nI i) = b_X12_gifts_76 b c σ s (nI k) (nI f) := by
  intro t
  induction t with
  | zero =>
    intro i fu ht hf
    obtain ⟨fu, rfl⟩ : ∃ q, fu = q + 1 := ⟨fu - 1, by omega⟩
    have : i = f := by omega
    subst this
    rw [b_X12_gifts_53]
    by_cases q : i = 10
    · subst q
      rw [if_pos (show (10 : Int32) ≤ nI 10 from nI_le (a := 10) (by omega) (by omega))]
    · rw [if_neg (show ¬ (10 : Int32) ≤ nI i from nI_ge (b := 10) (by omega) (by omega)), would_r _ hk, ob_some, if_neg (he (by omega))]
  | succ t ih =>
    intro i fu ht hf
    obtain ⟨fu, rfl⟩ : ∃ q, fu = q + 1 := ⟨fu - 1, by omega⟩
    rw [b_X12_gifts_53, if_neg (show ¬ (10 : Int32) ≤ nI i from nI_ge (b := 10) (by omega) (by omega)), would_r _ hk, ob_some, if_pos (hb i (by omega)), nam_e, nI_1]
    exact ih (i + 1) fu (by omega) (by omega)
theorem gifts_tail {σ : Sg} {a x : Nat} (ha : a ≤ 7) (hx : x < 2 ^ a) : ∀ (t i fu : Nat) (s : Int32), t + i = 7 → a ≤ i → t < fu → b_X11_gifts_22 (nI x) fu σ s (nI i) = some (s, σ) := by
  intro t
  induction t with
  | zero =>
    intro i fu s ht hi hf
    obtain ⟨fu, rfl⟩ : ∃ q, fu = q + 1 := ⟨fu - 1, by omega⟩
    rw [b_X11_gifts_22, if_pos (show (7 : Int32) ≤ nI i from nI_le (a := 7) (by omega) (by omega))]
  | succ t ih =>
    intro i fu s ht hi hf
    obtain ⟨fu, rfl⟩ : ∃ q, fu = q + 1 := ⟨fu - 1, by omega⟩
    rw [b_X11_gifts_22, if_neg (show ¬ (7 : Int32) ≤ nI i from nI_ge (b := 7) (by omega) (by omega)), hasBit_has _ (by omega), has_out a (by omega) x hx i (by omega) hi, if_pos rfl]
    unfold b_X11_gifts_103
    rw [nam_e, nI_1]
    exact ih (i + 1) fu s (by omega) (by omega) (by omega)
theorem gifts_loop {σ : Sg} {a b c d e u x : Nat} (hN : rI σ 113 0 = nI a) (hr : Rw σ 1 (rI σ 113) a b c d e u) (hw : Wf (rI σ 113) a b d e u) (ha : a ≤ 7) (hx : x < 2 ^ a) : ∀ (t i fu fu' : Nat) (s : Int32), t + i = a → 7 < fu + i → t < fu' → ∃ r, b_X11_gifts_22 (nI x) fu σ s (nI i) = some (r, σ) ∧ b_X12_gifts_19 (nI x) fu' σ s (nI i) = some (r, σ) := by
  obtain ⟨r1, r2, r3, r4, r5, r6, r7, r8, r9, r10, r11, r12⟩ := hr
  have r9' : rI σ 18 0 = rI σ 113 2 := r9
  have r10' : rI σ 18 1 = rI σ 113 3 := r10
  intro t
  induction t with
  | zero =>
    intro i fu fu' s ht hf hf'
    obtain ⟨fu', rfl⟩ : ∃ q, fu' = q + 1 := ⟨fu' - 1, by omega⟩
    refine ⟨s, gifts_tail ha hx (7 - i) i fu s (by omega) (by omega) (by omega), ?_⟩
    rw [b_X12_gifts_19, if_pos (show inb 0 (kLen 113) = true from i113 (n := 0) (by omega)), show rI σ 113 (ix 0) = nI a from hN, if_pos (nI_le (by omega) (by omega))]
  | succ t ih =>
    intro i fu fu' s ht hf hf'
    obtain ⟨fu, rfl⟩ : ∃ q, fu = q + 1 := ⟨fu - 1, by omega⟩
    obtain ⟨fu', rfl⟩ : ∃ q, fu' = q + 1 := ⟨fu' - 1, by omega⟩
    have hi : i < a := by omega
    have ec : ¬ (7 : Int32) ≤ nI i := nI_ge (b := 7) (by omega) (by omega)
    have hl : f_X4_isLent σ 18 (nI i) = f_X12_has (rI σ 113 3) (nI i) := by
      unfold f_X4_isLent; rw [r10', hasBit_has _ (by omega)]
    rw [b_X11_gifts_22, if_neg ec, hasBit_has _ (by omega), hl, b_X12_gifts_19, if_pos (show inb 0 (kLen 113) = true from i113 (n := 0) (by omega)), show rI σ 113 (ix 0) = nI a from hN, if_neg (nI_ge (by omega) (by omega)), if_pos (show inb 3 (kLen 113) = true from i113 (n := 3) (by omega)), show rI σ 113 (ix 3) = rI σ 113 3 from rfl]
    unfold b_X11_gifts_103 b_X12_gifts_90
    simp only [nam_e, nI_1]
    by_cases q1 : f_X12_has (nI x) (nI i) = 0
    · rw [if_pos q1, if_pos q1]
      exact ih (i + 1) fu fu' s (by omega) (by omega) (by omega)
    rw [if_neg q1, if_neg q1]
    by_cases q2 : f_X12_has (rI σ 113 3) (nI i) = 0
    · rw [if_pos q2, if_pos q2, show f_X7_at σ 2 (nI i) = _ from at_in r1 hi, ob_some, show f_X7_at σ 21 (nI i) = _ from at_in r12 hi, ob_some, r9']
      obtain ⟨kd, _, z2, z3⟩ := (hw.1 i hi).1
      obtain ⟨f, f1, f2, f3, f4, f5⟩ := least_loop (rI σ 113 (4 + i)) (rI σ 113 2) (rI σ 113 (32 + i)) z3 z2 10 0 FU (by omega) (by unfold FU; omega)
      have f6 : f_X2_leastGift (rI σ 113 (4 + i)) (rI σ 113 2) (rI σ 113 (32 + i)) = _ := f5
      rw [show b_X12_gifts_53 (nI x) (b_X12_gifts_19 (nI x) fu') FU σ s (nI i) 0 = _ from gifts_in (nI x) (b_X12_gifts_19 (nI x) fu') s (by omega) f1 (fun j hj => f3 j (by omega) hj) f4 f 0 FU (by omega) (by unfold FU; omega), f6, ob_some]
      unfold b_X12_gifts_76 b_X12_gifts_90
      by_cases q3 : f = 10
      · subst q3
        rw [if_pos rfl, if_pos rfl, if_pos (show nI 10 = 10 from rfl)]
        exact ⟨-1, rfl, rfl⟩
      · have g1 : ¬ nI f = 10 := fun z => q3 (nIinj (b := 10) (by omega) (by omega) z)
        have g2 : ¬ nI f = -1 := fun z => by
          have := congrArg Int32.toInt z
          rw [tN (by omega)] at this
          have h1 : (-1 : Int32).toInt = -1 := rfl
          omega
        rw [if_neg q3, if_neg g2, if_neg g1]
        simp only [nam_e, nI_1]
        exact ih (i + 1) fu fu' (s + nI f) (by omega) (by omega) (by omega)
    · rw [if_neg q2, if_neg q2]
      exact ih (i + 1) fu fu' s (by omega) (by omega) (by omega)
theorem m_gifts {σ : Sg} (h : Inv σ) (v : Int32) : Sim (fun s => f_X11_gifts s v) (fun s => f_X12_gifts s v) σ := by
  by_cases q1 : f_X11_between v 0 ((1 <<< (rI σ 113 0 &&& 31)) - 1) = 0
  · refine ref_bad h (-2) id ?_ (fun τ ht => ?_)
    · show f_X11_gifts σ v = _
      unfold f_X11_gifts; rw [hasS_c h, if_pos q1]; rfl
    · show f_X12_gifts τ v = _
      unfold f_X12_gifts; rw [areK_r, ht 113 0 (by omega), ob_some, if_pos q1]; rfl
  obtain ⟨a, b, c, d, e, u, hn, hw, hr⟩ := h.1
  obtain ⟨⟨n0, ha⟩, _⟩ := hn
  have q1' := q1
  rw [n0] at q1'
  obtain ⟨x, hx, rfl⟩ := hs_of ha q1'
  obtain ⟨r, e1, e2⟩ := gifts_loop n0 hr hw ha hx a 0 FU FU 0 (by omega) (by unfold FU; omega) (by unfold FU; omega)
  refine Sim.pure h r ?_ ?_
  · show f_X11_gifts σ (nI x) = _
    unfold f_X11_gifts
    rw [hasS_c h, if_neg q1]
    exact e1
  · show f_X12_gifts σ (nI x) = _
    unfold f_X12_gifts
    rw [areK_r, ob_some, if_neg q1]
    exact e2
