/-- the reference's Euclid, without the rest -/
def gR : Nat → Int64 → Int64 → Option Int64
  | 0, _, _ => none
  | f + 1, a, b => if lg_cmp b 0 = 0 then some a else if b = 0 then none else gR f b (a - a / b * b)
theorem ref_gR {σ : Sg} (l1 l2 l3 : Int32) (up down : Int64) : ∀ (fu : Nat) (a b r : Int64), gR fu a b = some r → r ≠ 0 → b_X12_refusals_128 l1 l2 l3 fu σ up down a b = some (1, stL (stL σ 112 4 (up / r)) 112 5 (down / r))
  | 0, _, _, _, h, _ => by cases h
  | f + 1, a, b, r, h, hr => by
    unfold gR at h
    rw [b_X12_refusals_128]
    by_cases q : lg_cmp b 0 = 0
    · rw [if_pos q] at h ⊢
      cases h
      rw [if_neg hr, nam_e, if_neg hr, nam_e]
    · rw [if_neg q] at h ⊢
      by_cases w : b = 0
      · rw [if_pos w] at h; cases h
      · rw [if_neg w] at h ⊢
        rw [nam_e]
        exact ref_gR l1 l2 l3 up down f _ _ r h hr
theorem gcd_all : ∀ c, c < 11 → ∀ j, j < 8 → ∃ r, f_X11_greatestDivisor (lN ((10 - c) ^ j)) (lN (10 ^ j)) = some (lN r) ∧ gR FU (lN ((10 - c) ^ j)) (lN (10 ^ j)) = some (lN r) ∧ 0 < r ∧ r < 2 ^ 31 := by
  have key : ∀ c, c < 11 → ∀ j, j < 8 → f_X11_greatestDivisor (lN ((10 - c) ^ j)) (lN (10 ^ j)) = some (lN (Nat.gcd ((10 - c) ^ j) (10 ^ j))) ∧ gR FU (lN ((10 - c) ^ j)) (lN (10 ^ j)) = some (lN (Nat.gcd ((10 - c) ^ j) (10 ^ j))) ∧ 0 < Nat.gcd ((10 - c) ^ j) (10 ^ j) ∧ Nat.gcd ((10 - c) ^ j) (10 ^ j) < 2 ^ 31 := by decide +kernel
  exact fun c hc j hj => ⟨_, key c hc j hj⟩
