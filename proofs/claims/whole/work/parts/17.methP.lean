theorem pair_in (p : Nat → Bool) (num : Int32) (C : Int32 → Int32 → Option Int32) {i : Nat} (hi : i < 10) : ∀ (t j fu : Nat) (s : Int32), t + j = 10 → t < fu → b_X9_restingPair_13 (fo (biS p) 0 10 0) num C fu s (nI i) (nI j) = (match fd (pB p) num (10 * i + j) t s with | some r => some (nI r) | none => C (fo (cS p) (10 * i + j) t s) (nI (i + 1))) := by
  intro t
  induction t with
  | zero =>
    intro j fu s ht hf
    obtain ⟨fu, rfl⟩ : ∃ q, fu = q + 1 := ⟨fu - 1, by omega⟩
    rw [b_X9_restingPair_13, if_pos (show (9 : Int32) < nI j from nI_lt (a := 9) (by omega) (by omega)), nam_e, nI_1]
    rfl
  | succ t ih =>
    intro j fu s ht hf
    obtain ⟨fu, rfl⟩ : ∃ q, fu = q + 1 := ⟨fu - 1, by omega⟩
    rw [b_X9_restingPair_13, if_neg (show ¬ (9 : Int32) < nI j from nI_nlt (a := 9) (b := j) (by omega) (by omega)), restsC p hi (by omega), ob_some, fo_s (cS p), fd_s]
    unfold b_X9_restingPair_46
    simp only [nam_e, nI_1]
    cases hb : pB p (10 * i + j) with
    | false =>
      have : cS p (10 * i + j) s = s := if_neg (by rw [hb]; decide)
      rw [if_pos (show b2i false = 0 from rfl), this, if_neg (by decide)]
      exact ih (j + 1) fu s (by omega) (by omega)
    | true =>
      have : cS p (10 * i + j) s = s + 1 := if_pos hb
      rw [if_neg (show ¬ b2i true = 0 by decide), this, if_pos rfl]
      by_cases w : s = num
      · rw [if_pos w, if_pos w, L10, pk_mul, nI_add]
      · rw [if_neg w, if_neg w]
        exact ih (j + 1) fu _ (by omega) (by omega)
theorem pair_out (p : Nat → Bool) (num : Int32) : ∀ (t i fu : Nat) (s : Int32), t + i = 10 → t < fu → b_X9_restingPair_4 (fo (biS p) 0 10 0) num fu s (nI i) = (match fd (pB p) num (10 * i) (10 * t) s with | some r => some (nI r) | none => some (-1)) := by
  intro t
  induction t with
  | zero =>
    intro i fu s ht hf
    obtain ⟨fu, rfl⟩ : ∃ q, fu = q + 1 := ⟨fu - 1, by omega⟩
    rw [b_X9_restingPair_4, if_pos (show (9 : Int32) < nI i from nI_lt (a := 9) (by omega) (by omega))]
    rfl
  | succ t ih =>
    intro i fu s ht hf
    obtain ⟨fu, rfl⟩ : ∃ q, fu = q + 1 := ⟨fu - 1, by omega⟩
    rw [b_X9_restingPair_4, if_neg (show ¬ (9 : Int32) < nI i from nI_nlt (a := 9) (b := i) (by omega) (by omega)), show b_X9_restingPair_13 _ num (b_X9_restingPair_4 (fo (biS p) 0 10 0) num fu) FU s (nI i) 0 = _ from pair_in p num (b_X9_restingPair_4 (fo (biS p) 0 10 0) num fu) (by omega) 10 0 FU s rfl (by unfold FU; omega), show 10 * (t + 1) = 10 + 10 * t by omega, fd_add, Nat.add_zero]
    cases hd : fd (pB p) num (10 * i) 10 s with
    | some r => rfl
    | none => exact ih (i + 1) fu _ (by omega) (by omega)
theorem buy_r {σ : Sg} {k : Nat} (num : Int32) (hk : k < 7) : ∀ (t n fu : Nat) (s : Int32), t + n = 100 → t < fu → b_X12_buyers_43 (nI k) num fu σ s (nI n) = (match fd (pB (pL (rI σ 113 (4 + k)) (rI σ 113 2) (rI σ 113 (32 + k)))) num n t s with | some r => some (nI r, σ) | none => (if num = (-1) then some (fo (cS (pL (rI σ 113 (4 + k)) (rI σ 113 2) (rI σ 113 (32 + k)))) n t s, σ) else some ((-5), σ))) := by
  intro t
  induction t with
  | zero =>
    intro n fu s ht hf
    obtain ⟨fu, rfl⟩ : ∃ q, fu = q + 1 := ⟨fu - 1, by omega⟩
    rw [b_X12_buyers_43, if_pos (show (100 : Int32) ≤ nI n from nI_le (a := 100) (by omega) (by omega))]
    rfl
  | succ t ih =>
    intro n fu s ht hf
    obtain ⟨fu, rfl⟩ : ∃ q, fu = q + 1 := ⟨fu - 1, by omega⟩
    have e1 : nI n / 10 = nI (n / 10) := pk_div (d := 10) (by omega) (by omega) (by omega)
    have e2 : nI n - nI n / 10 * 10 = nI (n % 10) := pk_rem (d := 10) (by omega) (by omega) (by omega)
    have e3 : f_X12_rests σ (nI k) (nI (n / 10)) (nI (n % 10)) = some (b2i (pB (pL (rI σ 113 (4 + k)) (rI σ 113 2) (rI σ 113 (32 + k))) n)) := by
      have := rests_r (σ := σ) hk (i := n / 10) (j := n % 10) (by omega) (by omega) 10 0 FU true rfl (by unfold FU; omega)
      rw [Bool.true_and] at this
      exact this
    rw [b_X12_buyers_43, if_neg (show ¬ (100 : Int32) ≤ nI n from nI_ge (b := 100) (by omega) (by omega)), e2, e1, e3, ob_some, fo_s (cS _), fd_s]
    unfold b_X12_buyers_79
    simp only [nam_e, nI_1]
    cases hb : pB (pL (rI σ 113 (4 + k)) (rI σ 113 2) (rI σ 113 (32 + k))) n with
    | false =>
      have : cS (pL (rI σ 113 (4 + k)) (rI σ 113 2) (rI σ 113 (32 + k))) n s = s := if_neg (by rw [hb]; decide)
      rw [if_pos (show b2i false = 0 from rfl), this, if_neg (by decide)]
      exact ih (n + 1) fu s (by omega) (by omega)
    | true =>
      have : cS (pL (rI σ 113 (4 + k)) (rI σ 113 2) (rI σ 113 (32 + k))) n s = s + 1 := if_pos hb
      rw [if_neg (show ¬ b2i true = 0 by decide), this, if_pos rfl]
      by_cases w : s = num
      · rw [if_pos w, if_pos w]
      · rw [if_neg w, if_neg w]
        exact ih (n + 1) fu _ (by omega) (by omega)
