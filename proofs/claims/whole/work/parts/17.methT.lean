theorem refu_tail {σ : Sg} {a x : Nat} (l2 l3 : Int32) (ha : a ≤ 7) (hx : x < 2 ^ a) : ∀ (t i fu : Nat) (up down : Int64), t + i = 7 → a ≤ i → t < fu → b_X11_refusals_47 (nI x) l2 l3 fu σ up down (nI i) = (f_X11_keepFraction σ up down).bind fun s3 => some (1, s3) := by
  intro t
  induction t with
  | zero =>
    intro i fu up down ht hi hf
    obtain ⟨fu, rfl⟩ : ∃ q, fu = q + 1 := ⟨fu - 1, by omega⟩
    rw [b_X11_refusals_47, if_pos (show (7 : Int32) ≤ nI i from nI_le (a := 7) (by omega) (by omega))]
  | succ t ih =>
    intro i fu up down ht hi hf
    obtain ⟨fu, rfl⟩ : ∃ q, fu = q + 1 := ⟨fu - 1, by omega⟩
    rw [b_X11_refusals_47, if_neg (show ¬ (7 : Int32) ≤ nI i from nI_ge (b := 7) (by omega) (by omega)), hasBit_has _ (by omega), has_out a (by omega) x hx i (by omega) hi, if_pos rfl]
    unfold b_X11_refusals_113
    rw [nam_e, nI_1]
    exact ih (i + 1) fu up down (by omega) (by omega) (by omega)
theorem refu_loop {σ σ' : Sg} (hσ : rI σ' 113 = rI σ 113) {a b c d e u x f cc : Nat} (hN : rI σ 113 0 = nI a) (hr : Rw σ 1 (rI σ 113) a b c d e u) (hw : Wf (rI σ 113) a b d e u) (ha : a ≤ 7) (hx : x < 2 ^ a) (hcc : cc ≤ 10) : ∀ (t i n fu fu' : Nat) (up down : Int64), t + i = a → n ≤ i → 7 < fu + i → t < fu' → frOk cc n up down → ∃ up' down' m, m ≤ 7 ∧ frOk cc m up' down' ∧ b_X11_refusals_47 (nI x) (nI f) (nI cc) fu σ up down (nI i) = ((f_X11_keepFraction σ up' down').bind fun s3 => some (1, s3)) ∧ b_X12_refusals_48 (nI x) (nI f) (nI cc) fu' σ' up down (nI i) = b_X12_refusals_128 (nI x) (nI f) (nI cc) FU σ' up' down' up' down' := by
  obtain ⟨r1, r2, r3, r4, r5, r6, r7, r8, r9, r10, r11, r12⟩ := hr
  have r9' : rI σ (1 + 17) 0 = rI σ 113 2 := r9
  have r10' : rI σ 18 1 = rI σ 113 3 := r10
  intro t
  induction t with
  | zero =>
    intro i n fu fu' up down ht hni hf hf' hfr
    obtain ⟨fu', rfl⟩ : ∃ q, fu' = q + 1 := ⟨fu' - 1, by omega⟩
    refine ⟨up, down, n, by omega, hfr, refu_tail _ _ ha hx (7 - i) i fu up down (by omega) (by omega) (by omega), ?_⟩
    rw [b_X12_refusals_48, if_pos (show inb 0 (kLen 113) = true from i113 (n := 0) (by omega)), show rI σ' 113 (ix 0) = nI a from (congrFun hσ 0).trans hN, if_pos (nI_le (by omega) (by omega))]
  | succ t ih =>
    intro i n fu fu' up down ht hni hf hf' hfr
    obtain ⟨fu, rfl⟩ : ∃ q, fu = q + 1 := ⟨fu - 1, by omega⟩
    obtain ⟨fu', rfl⟩ : ∃ q, fu' = q + 1 := ⟨fu' - 1, by omega⟩
    have hi : i < a := by omega
    have hl : f_X4_isLent σ 18 (nI i) = f_X12_has (rI σ 113 3) (nI i) := by
      unfold f_X4_isLent; rw [r10', hasBit_has _ (by omega)]
    obtain ⟨kd, _, z2, z3⟩ := (hw.1 i hi).1
    have hwl : f_X3_wouldLend σ 1 (nI i) (nI f) = some (f_X12_lends (rI σ 113 (4 + i)) (rI σ 113 2) (rI σ 113 (32 + i)) (nI f)) := by
      unfold f_X3_wouldLend
      rw [at_in r1 hi, ob_some, at_in r12 hi, ob_some, r9', z3, lends_same _ _ _ z2]
    rw [b_X11_refusals_47, if_neg (show ¬ (7 : Int32) ≤ nI i from nI_ge (b := 7) (by omega) (by omega)), hasBit_has _ (by omega), hl, hwl, ob_some, b_X12_refusals_48, if_pos (show inb 0 (kLen 113) = true from i113 (n := 0) (by omega)), show rI σ' 113 (ix 0) = nI a from (congrFun hσ 0).trans hN, if_neg (nI_ge (by omega) (by omega)), if_pos (show inb 3 (kLen 113) = true from i113 (n := 3) (by omega)), show rI σ' 113 (ix 3) = rI σ 113 3 from congrFun hσ 3, would_r _ (by omega), hσ, ob_some]
    unfold b_X11_refusals_102 b_X11_refusals_113 b_X12_refusals_103 b_X12_refusals_114
    simp only [nam_e, nI_1]
    by_cases q1 : f_X12_has (nI x) (nI i) = 0
    · rw [if_pos q1, if_pos q1]
      exact ih (i + 1) n fu fu' up down (by omega) (by omega) (by omega) (by omega) hfr
    rw [if_neg q1, if_neg q1]
    by_cases q2 : f_X12_has (rI σ 113 3) (nI i) = 0
    · rw [if_pos q2, if_pos q2]
      by_cases q3 : f_X12_lends (rI σ 113 (4 + i)) (rI σ 113 2) (rI σ 113 (32 + i)) (nI f) = 0
      · rw [if_pos q3, if_pos q3]
        exact ih (i + 1) (n + 1) fu fu' _ _ (by omega) (by omega) (by omega) (by omega) (fr_no hfr)
      · rw [if_neg q3, if_neg q3]
        exact ih (i + 1) (n + 1) fu fu' _ _ (by omega) (by omega) (by omega) (by omega) (fr_yes hcc hfr)
    · rw [if_neg q2, if_neg q2]
      exact ih (i + 1) n fu fu' up down (by omega) (by omega) (by omega) (by omega) hfr
theorem Inv_part {σ : Sg} (h : Inv σ) (x y : Int64) : Inv (stL (stL (stL (stL σ 0 10 x) 0 11 y) 112 4 x) 112 5 y) := by
  obtain ⟨hr, ht, hk, _, hs⟩ := h
  exact ⟨hr, ht, hk, ⟨rfl, rfl⟩, hs⟩
