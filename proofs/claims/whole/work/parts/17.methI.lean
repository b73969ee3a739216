def hS (σ : Sg) (x : Int64) : Sg := stL σ 112 19 x
theorem mix_h (σ : Sg) (x v : Int64) : f_X12_mix (hS σ x) v = some (hS σ (31 * x + v)) := by
  unfold f_X12_mix hS
  rw [nam_e]
  congr 1
  unfold stL rL
  refine Prod.ext rfl (funext fun a => funext fun j => ?_)
  by_cases q : a = 112
  · subst q
    simp only [if_true]
    unfold vp_updL
    by_cases w : j = 19
    · subst w
      simp only [if_true]
    · simp only [w, if_false]
  · simp only [q, if_false]
theorem Inv_h {σ : Sg} (h : Inv σ) (x : Int64) : Inv (hS σ x) := Inv_pass h (Un.stL _ _ _ _ (by unfold Pc; omega))
def mxK (g : Nat → Int32) : Nat → Int64 → Int64 := fun k s => fo (mxS (toldG g k)) 0 6 s
theorem dg_row {σ : Sg} {n cell base m : Nat} (L : Nat → Sg → Int32 → Option (Int64 × Sg)) (K : Sg → Option (Int64 × Sg)) (hL : ∀ (fu i : Nat) (x : Int64), i ≤ n → L (fu + 1) (hS σ x) (nI i) = if n ≤ i then K (hS σ x) else L fu (hS σ (31 * x + Int32.toInt64 (rI σ 113 (base + i)))) (nI (i + 1))) : ∀ (t i fu : Nat) (x : Int64), t + i = n → t < fu → L fu (hS σ x) (nI i) = K (hS σ (fo (mxS (fun j => rI σ 113 (base + j))) i t x)) := by
  intro t
  induction t with
  | zero =>
    intro i fu x ht hf
    obtain ⟨fu, rfl⟩ : ∃ q, fu = q + 1 := ⟨fu - 1, by omega⟩
    rw [hL fu i x (by omega), if_pos (by omega)]
    rfl
  | succ t ih =>
    intro i fu x ht hf
    obtain ⟨fu, rfl⟩ : ∃ q, fu = q + 1 := ⟨fu - 1, by omega⟩
    rw [hL fu i x (by omega), if_neg (by omega), ih (i + 1) fu _ (by omega) (by omega), fo_s]
    rfl
theorem dg_178 {σ : Sg} {e : Nat} (hE : rI σ 113 87 = nI e) (he : e ≤ 6) (x : Int64) : b_X12_digest_178 FU (hS σ x) 0 = some (31 * (31 * (fo (mxS (fun j => rI σ 113 (88 + j))) 0 (4 * e) x) + rL σ 112 4) + rL σ 112 5, hS σ (31 * (31 * (fo (mxS (fun j => rI σ 113 (88 + j))) 0 (4 * e) x) + rL σ 112 4) + rL σ 112 5)) := by
  have key := dg_row (σ := σ) (n := 4 * e) (cell := 87) (base := 88) (m := 4) b_X12_digest_178 (fun s => (f_X12_mix s (rL s 112 4)).bind fun s2 => (f_X12_mix s2 (rL s2 112 5)).bind fun s3 => some (rL s3 112 19, s3)) (fun fu i x hi => by
    rw [b_X12_digest_178, if_pos (show inb 87 (kLen 113) = true from i113 (n := 87) (by omega)), show rI (hS σ x) 113 (ix 87) = nI e from hE, L4, pk_mul]
    by_cases q : 4 * e ≤ i
    · rw [if_pos (nI_le q (by omega)), if_pos q]
    · rw [if_neg (nI_ge (by omega) (by omega)), if_neg q, L88, nI_add, if_pos (i113 (by omega)), ix_nI (by omega), mix_h, ob_some, nam_e, nI_1]
      rfl) (4 * e) 0 FU x (by omega) (by unfold FU; omega)
  refine (show b_X12_digest_178 FU (hS σ x) (nI 0) = _ from key).trans ?_
  simp only [mix_h, ob_some]
  rfl
