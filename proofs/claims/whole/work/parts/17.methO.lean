theorem fo_add {α : Type} (st : Nat → α → α) : ∀ (m k n : Nat) (a : α), fo st k (m + n) a = fo st (k + m) n (fo st k m a)
  | 0, k, n, a => by rw [Nat.zero_add]; rfl
  | m + 1, k, n, a => by
    rw [show m + 1 + n = (m + n) + 1 by omega, fo_s, fo_add st m (k + 1) n, fo_s, show k + 1 + m = k + (m + 1) by omega]
def pB (p : Nat → Bool) (n : Nat) : Bool := allF (pQ p (n / 10) (n % 10)) 0 10
def cS (p : Nat → Bool) : Nat → Int32 → Int32 := fun n s => if pB p n = true then s + 1 else s
theorem restsC (p : Nat → Bool) {i j : Nat} (hi : i < 10) (hj : j < 10) : f_X9_rests (fo (biS p) 0 10 0) (nI i) (nI j) = some (b2i (pB p (10 * i + j))) := by
  unfold f_X9_rests pB
  rw [first_c p hi hj, second_c p hi hj, nam_e, nam_e, show (10 * i + j) / 10 = i by omega, show (10 * i + j) % 10 = j by omega]
  exact rests_c p hi hj 10 0 FU rfl (by unfold FU; omega)
theorem cnt_in (p : Nat → Bool) (C : Int32 → Int32 → Option Int32) {i : Nat} (hi : i < 10) : ∀ (t j fu : Nat) (s : Int32), t + j = 10 → t < fu → b_X9_restCount_12 (fo (biS p) 0 10 0) C fu s (nI i) (nI j) = C (fo (cS p) (10 * i + j) t s) (nI (i + 1)) := by
  intro t
  induction t with
  | zero =>
    intro j fu s ht hf
    obtain ⟨fu, rfl⟩ : ∃ q, fu = q + 1 := ⟨fu - 1, by omega⟩
    rw [b_X9_restCount_12, if_pos (show (9 : Int32) < nI j from nI_lt (a := 9) (by omega) (by omega)), nam_e, nI_1]
    rfl
  | succ t ih =>
    intro j fu s ht hf
    obtain ⟨fu, rfl⟩ : ∃ q, fu = q + 1 := ⟨fu - 1, by omega⟩
    rw [b_X9_restCount_12, if_neg (show ¬ (9 : Int32) < nI j from nI_nlt (a := 9) (b := j) (by omega) (by omega)), restsC p hi (by omega), ob_some, fo_s (cS p)]
    unfold b_X9_restCount_30
    simp only [nam_e, nI_1]
    cases hb : pB p (10 * i + j) with
    | false =>
      have : cS p (10 * i + j) s = s := if_neg (by rw [hb]; decide)
      rw [if_pos (show b2i false = 0 from rfl), this]
      exact ih (j + 1) fu s (by omega) (by omega)
    | true =>
      have : cS p (10 * i + j) s = s + 1 := if_pos hb
      rw [if_neg (show ¬ b2i true = 0 by decide), this]
      exact ih (j + 1) fu _ (by omega) (by omega)
theorem cnt_out (p : Nat → Bool) : ∀ (t i fu : Nat) (s : Int32), t + i = 10 → t < fu → b_X9_restCount_4 (fo (biS p) 0 10 0) fu s (nI i) = some (fo (cS p) (10 * i) (10 * t) s) := by
  intro t
  induction t with
  | zero =>
    intro i fu s ht hf
    obtain ⟨fu, rfl⟩ : ∃ q, fu = q + 1 := ⟨fu - 1, by omega⟩
    rw [b_X9_restCount_4, if_pos (show (9 : Int32) < nI i from nI_lt (a := 9) (by omega) (by omega))]
    rfl
  | succ t ih =>
    intro i fu s ht hf
    obtain ⟨fu, rfl⟩ : ∃ q, fu = q + 1 := ⟨fu - 1, by omega⟩
    rw [b_X9_restCount_4, if_neg (show ¬ (9 : Int32) < nI i from nI_nlt (a := 9) (b := i) (by omega) (by omega)), show b_X9_restCount_12 _ (b_X9_restCount_4 (fo (biS p) 0 10 0) fu) FU s (nI i) 0 = _ from cnt_in p (b_X9_restCount_4 (fo (biS p) 0 10 0) fu) (by omega) 10 0 FU s rfl (by unfold FU; omega), ih (i + 1) fu _ (by omega) (by omega), show 10 * (t + 1) = 10 + 10 * t by omega, fo_add]
    rfl
/-- the num-th (from s on) of those for which p holds -/
def fd (p : Nat → Bool) (num : Int32) : Nat → Nat → Int32 → Option Nat
  | _, 0, _ => none
  | k, m + 1, s => if p k = true then (if s = num then some k else fd p num (k + 1) m (s + 1)) else fd p num (k + 1) m s
theorem fd_s (p : Nat → Bool) (num : Int32) (k m : Nat) (s : Int32) : fd p num k (m + 1) s = if p k = true then (if s = num then some k else fd p num (k + 1) m (s + 1)) else fd p num (k + 1) m s := rfl
theorem fd_add (p : Nat → Bool) (num : Int32) : ∀ (m k n : Nat) (s : Int32), fd p num k (m + n) s = (match fd p num k m s with | some r => some r | none => fd p num (k + m) n (fo (fun n s => if p n = true then s + 1 else s) k m s))
  | 0, k, n, s => by rw [Nat.zero_add]; rfl
  | m + 1, k, n, s => by
    rw [show m + 1 + n = (m + n) + 1 by omega, fd_s, fd_s, fo_s, show k + (m + 1) = k + 1 + m by omega]
    by_cases q : p k = true
    · rw [if_pos q, if_pos q, if_pos q]
      by_cases w : s = num
      · rw [if_pos w, if_pos w]
      · rw [if_neg w, if_neg w]
        exact fd_add p num m (k + 1) n (s + 1)
    · rw [if_neg q, if_neg q, if_neg q]
      exact fd_add p num m (k + 1) n s
