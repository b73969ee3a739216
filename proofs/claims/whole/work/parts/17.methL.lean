/-- bits of a fold over ten -/
theorem bit_or (x : Int32) {k i : Nat} (hk : k < 10) (hi : i < 10) : f_X12_has (x ||| (1 <<< (nI k &&& 31))) (nI i) = if i = k then 1 else f_X12_has x (nI i) := by
  have e1 : ∀ k, k < 10 → ∀ i, i < 10 → (((1 : Int32) <<< (nI k &&& 31)) >>> (nI i &&& 31)) &&& 1 = if i = k then (1 : Int32) else 0 := by decide +kernel
  have e2 : ((x ||| (1 <<< (nI k &&& 31))) >>> (nI i &&& 31)) &&& 1 = ((x >>> (nI i &&& 31)) &&& 1) ||| ((((1 : Int32) <<< (nI k &&& 31)) >>> (nI i &&& 31)) &&& 1) := by
    generalize (1 : Int32) <<< (nI k &&& 31) = y
    generalize nI i &&& 31 = s
    apply Int32.toBitVec_inj.mp
    simp only [Int32.toBitVec_and, Int32.toBitVec_or, Int32.toBitVec_shiftRight, BitVec.sshiftRight_eq', BitVec.sshiftRight_or_distrib]
    ext j hj
    simp only [BitVec.getElem_and, BitVec.getElem_or, Bool.and_or_distrib_right]
  rw [← has_and, ← has_and, e2, e1 k hk i hi]
  by_cases q : i = k
  · rw [if_pos q, if_pos q]
    rcases and01 (x >>> (nI i &&& 31)) with w | w <;> rw [w] <;> decide
  · rw [if_neg q, if_neg q, or_0]
