def pQ (p : Nat → Bool) (i j e : Nat) : Bool := decide (¬ getG p i (decide (j ≤ i)) < getG p e (decide (j ≤ e))) && decide (¬ getG p j (decide (i < j)) < getG p e (decide (i < e)))
theorem rests_c (p : Nat → Bool) {i j : Nat} (hi : i < 10) (hj : j < 10) : ∀ (t e fu : Nat), t + e = 10 → t < fu → b_X9_rests_18 (fo (biS p) 0 10 0) (nI i) (nI j) fu (getG p i (decide (j ≤ i))) (getG p j (decide (i < j))) (nI e) = some (b2i (allF (pQ p i j) e t)) := by
  intro t
  induction t with
  | zero =>
    intro e fu ht hf
    obtain ⟨fu, rfl⟩ : ∃ q, fu = q + 1 := ⟨fu - 1, by omega⟩
    rw [b_X9_rests_18, if_pos (show (9 : Int32) < nI e from nI_lt (a := 9) (by omega) (by omega))]
    rfl
  | succ t ih =>
    intro e fu ht hf
    obtain ⟨fu, rfl⟩ : ∃ q, fu = q + 1 := ⟨fu - 1, by omega⟩
    rw [b_X9_rests_18, if_neg (show ¬ (9 : Int32) < nI e from nI_nlt (a := 9) (b := e) (by omega) (by omega)), first_c p (i := e) (by omega) hj, second_c p hi (j := e) (by omega), nam_e, nI_1, ih (e + 1) fu (by omega) (by omega), allF_s]
    unfold pQ
    by_cases q1 : getG p i (decide (j ≤ i)) < getG p e (decide (j ≤ e))
    · rw [if_pos q1, decide_eq_false (fun z => z q1), Bool.false_and, Bool.false_and]
      rfl
    · rw [if_neg q1, decide_eq_true q1, Bool.true_and]
      by_cases q2 : getG p j (decide (i < j)) < getG p e (decide (i < e))
      · rw [if_neg (fun z => by rw [li_le] at z; rw [li_lt] at q2; omega), decide_eq_false (fun z => z q2), Bool.false_and]
        rfl
      · rw [if_pos (by rw [li_le]; rw [li_lt] at q2; omega), decide_eq_true q2, Bool.true_and]
theorem rests_r {σ : Sg} {k i j : Nat} (hk : k < 7) (hi : i < 10) (hj : j < 10) : ∀ (t e fu : Nat) (s : Bool), t + e = 10 → t < fu → b_X12_rests_6 σ (nI k) (nI i) (nI j) fu (b2i s) (nI e) = some (b2i (s && allF (pQ (pL (rI σ 113 (4 + k)) (rI σ 113 2) (rI σ 113 (32 + k))) i j) e t)) := by
  intro t
  induction t with
  | zero =>
    intro e fu s ht hf
    obtain ⟨fu, rfl⟩ : ∃ q, fu = q + 1 := ⟨fu - 1, by omega⟩
    rw [b_X12_rests_6, if_pos (show (10 : Int32) ≤ nI e from nI_le (a := 10) (by omega) (by omega))]
    cases s <;> rfl
  | succ t ih =>
    intro e fu s ht hf
    obtain ⟨fu, rfl⟩ : ∃ q, fu = q + 1 := ⟨fu - 1, by omega⟩
    have iT := ih (e + 1) fu true (by omega) (by omega)
    have iF := ih (e + 1) fu false (by omega) (by omega)
    rw [show b2i true = 1 from rfl, Bool.true_and] at iT
    rw [show b2i false = 0 from rfl, Bool.false_and] at iF
    have g1 : f_X12_getsBy σ (nI k) (nI e) (nI j) 1 = _ := gets_r true hk (by omega) hj
    have g2 : f_X12_getsBy σ (nI k) (nI i) (nI j) 1 = _ := gets_r true hk hi hj
    have g3 : f_X12_getsBy σ (nI k) (nI e) (nI i) 0 = _ := gets_r false hk (by omega) hi
    have g4 : f_X12_getsBy σ (nI k) (nI j) (nI i) 0 = _ := gets_r false hk hj hi
    simp only [if_true] at g1 g2
    rw [if_neg (by decide)] at g3 g4
    rw [b_X12_rests_6, if_neg (show ¬ (10 : Int32) ≤ nI e from nI_ge (b := 10) (by omega) (by omega)), g1, ob_some, g2, ob_some, g3, ob_some, g4, ob_some, allF_s]
    unfold b_X12_rests_62 b_X12_rests_63
    simp only [nam_e, nI_1, iT, iF]
    cases s with
    | false => rw [if_pos (show b2i false = 0 from rfl), Bool.false_and]
    | true =>
      rw [if_neg (show ¬ b2i true = 0 by decide), Bool.true_and]
      unfold pQ
      by_cases q1 : getG (pL (rI σ 113 (4 + k)) (rI σ 113 2) (rI σ 113 (32 + k))) i (decide (j ≤ i)) < getG (pL (rI σ 113 (4 + k)) (rI σ 113 2) (rI σ 113 (32 + k))) e (decide (j ≤ e))
      · rw [if_pos q1, decide_eq_false (fun z => z q1), Bool.false_and, Bool.false_and]
      · rw [if_neg q1, decide_eq_true q1, Bool.true_and]
        by_cases q2 : getG (pL (rI σ 113 (4 + k)) (rI σ 113 2) (rI σ 113 (32 + k))) j (decide (i < j)) < getG (pL (rI σ 113 (4 + k)) (rI σ 113 2) (rI σ 113 (32 + k))) e (decide (i < e))
        · rw [if_pos q2, decide_eq_false (fun z => z q2), Bool.false_and]
        · rw [if_neg q2, decide_eq_true q2, Bool.true_and]
