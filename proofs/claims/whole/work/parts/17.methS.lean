/-- up and down after n of those asked: all lend (c' = c) or one does not (c' = 10) -/
def frOk (c n : Nat) (up down : Int64) : Prop := ∃ c', (c' = c ∨ c' = 10) ∧ up = lN ((10 - c') ^ n) ∧ down = lN (10 ^ n)
theorem fr_0 (c : Nat) : frOk c 0 1 1 := ⟨c, Or.inl rfl, rfl, rfl⟩
theorem fr_yes {c n : Nat} {up down : Int64} (hc : c ≤ 10) (h : frOk c n up down) : frOk c (n + 1) (up * Int32.toInt64 (10 - nI c)) (down * 10) := by
  obtain ⟨c', h1, h2, h3⟩ := h
  have e1 : Int32.toInt64 (10 - nI c) = lN (10 - c) := by rw [L10, pk_sub hc, nI_l (by omega)]
  have e2 : (10 : Int64) = lN 10 := rfl
  have e3 : down * 10 = lN (10 ^ (n + 1)) := by rw [h3, e2, lN_mul, Nat.pow_succ]
  rw [e1, e3, h2, lN_mul]
  rcases h1 with rfl | rfl
  · exact ⟨c', Or.inl rfl, by rw [Nat.pow_succ], rfl⟩
  · by_cases q : n = 0
    · subst q
      exact ⟨c, Or.inl rfl, by simp only [Nat.pow_zero, Nat.one_mul, Nat.zero_add, Nat.pow_one], rfl⟩
    · refine ⟨10, Or.inr rfl, ?_, rfl⟩
      rw [Nat.sub_self, Nat.zero_pow (by omega), Nat.zero_pow (by omega), Nat.zero_mul]
theorem fr_no {c n : Nat} {up down : Int64} (h : frOk c n up down) : frOk c (n + 1) (up * 0) (down * 10) := by
  obtain ⟨c', h1, h2, h3⟩ := h
  have e2 : (10 : Int64) = lN 10 := rfl
  refine ⟨10, Or.inr rfl, ?_, by rw [h3, e2, lN_mul, Nat.pow_succ]⟩
  rw [Nat.sub_self, Nat.zero_pow (by omega), Int64.mul_zero]
  rfl
