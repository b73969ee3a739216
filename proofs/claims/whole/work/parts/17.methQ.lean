theorem nIm1 {n : Nat} (h : n < 2 ^ 31) : ¬ nI n = -1 := fun z => by
  have := congrArg Int32.toInt z
  rw [tN h] at this
  have h1 : (-1 : Int32).toInt = -1 := rfl
  omega
theorem fd_none (p : Nat → Bool) : ∀ (m k c : Nat), c + m < 2 ^ 31 → fd p (-1) k m (nI c) = none
  | 0, _, _, _ => rfl
  | m + 1, k, c, h => by
    rw [fd_s, if_neg (nIm1 (by omega)), nI_1, fd_none p m (k + 1) (c + 1) (by omega), fd_none p m (k + 1) c (by omega)]
    split <;> rfl
theorem fd_lt (p : Nat → Bool) (num : Int32) : ∀ (m k : Nat) (s : Int32) (r : Nat), fd p num k m s = some r → r < k + m
  | 0, _, _, _, h => by cases h
  | m + 1, k, s, r, h => by
    rw [fd_s] at h
    split at h
    · split at h
      · cases h; omega
      · have := fd_lt p num m (k + 1) _ r h; omega
    · have := fd_lt p num m (k + 1) _ r h; omega
theorem m_buyers {σ : Sg} (h : Inv σ) (v1 v2 : Int32) : Sim (fun s => f_X11_buyers s v1 v2) (fun s => f_X12_buyers s v1 v2) σ := by
  by_cases q1 : f_X11_between v1 0 (rI σ 113 0 - 1) = 0
  · refine ref_bad h (-10) id ?_ (fun τ ht => ?_)
    · show f_X11_buyers σ v1 v2 = _
      unfold f_X11_buyers; rw [hasK_c h, if_pos q1]; rfl
    · show f_X12_buyers τ v1 v2 = _
      unfold f_X12_buyers; rw [isK_r, ht 113 0 (by omega), ob_some, if_pos q1]; rfl
  by_cases q2 : (-1) ≤ v2
  rotate_left
  · refine ref_bad h (-10) id ?_ (fun τ ht => ?_)
    · show f_X11_buyers σ v1 v2 = _
      unfold f_X11_buyers; rw [hasK_c h, if_neg q1, if_neg q2]; rfl
    · show f_X12_buyers τ v1 v2 = _
      unfold f_X12_buyers; rw [isK_r, ht 113 0 (by omega), ob_some, if_neg q1, if_neg q2]; rfl
  obtain ⟨a, b, c, d, e, u, hn, hw, hr⟩ := h.1
  obtain ⟨⟨n0, ha⟩, _⟩ := id hn
  have q1' := q1
  rw [n0] at q1'
  obtain ⟨k, hk, rfl⟩ := hk_of (by omega) q1'
  have hl : f_X4_isLent σ 18 (nI k) = f_X12_has (rI σ 113 3) (nI k) := by
    unfold f_X4_isLent; rw [show rI σ 18 1 = _ from hr.2.2.2.2.2.2.2.2.2.1, hasBit_has _ (by omega)]
  have i3 : inb 3 (kLen 113) = true := i113 (n := 3) (by omega)
  by_cases q3 : f_X12_has (rI σ 113 3) (nI k) = 0
  rotate_left
  · refine ref_no h ?_ (fun τ ht => ?_)
    · show f_X11_buyers σ (nI k) v2 = _
      unfold f_X11_buyers
      rw [hasK_c h, if_neg q1, if_pos q2, hl, if_neg q3]
    · show f_X12_buyers τ (nI k) v2 = _
      unfold f_X12_buyers
      rw [isK_r, ht 113 0 (by omega), ob_some, if_neg q1, if_pos q2, if_pos i3, show rI τ 113 (ix 3) = rI σ 113 3 from ht 113 3 (by omega), if_neg q3]
  obtain ⟨r1, r2, r3, r4, r5, r6, r7, r8, r9, r10, r11, r12⟩ := hr
  obtain ⟨kd, _, z2, z3⟩ := (hw.1 k hk).1
  have en : f_X2_giftsEnough (rI σ 113 (4 + k)) (rI σ 113 2) (rI σ 113 (32 + k)) = some (fo (biS (pL (rI σ 113 (4 + k)) (rI σ 113 2) (rI σ 113 (32 + k)))) 0 10 0) := by
    rw [z3]; exact enough_c _ _ z2 10 0 FU 0 rfl (by unfold FU; omega)
  have ec : f_X11_buyers σ (nI k) v2 = (if v2 = (-1) then (f_X9_restCount (fo (biS (pL (rI σ 113 (4 + k)) (rI σ 113 2) (rI σ 113 (32 + k)))) 0 10 0)).bind fun x7 => (some (x7, σ)) else (f_X9_restingPair (fo (biS (pL (rI σ 113 (4 + k)) (rI σ 113 2) (rI σ 113 (32 + k)))) 0 10 0) v2).bind fun x6 => (if x6 = (-1) then (some ((-5), σ)) else (some (x6, σ)))) := by
    unfold f_X11_buyers
    rw [hasK_c h, if_neg q1, if_pos q2, hl, if_pos q3, show f_X7_at σ 2 (nI k) = _ from at_in r1 hk, ob_some, show f_X7_at σ 21 (nI k) = _ from at_in r12 hk, ob_some, show rI σ 18 0 = _ from r9, en, ob_some]
  have e0 : f_X12_buyers σ (nI k) v2 = b_X12_buyers_43 (nI k) v2 FU σ 0 0 := by
    unfold f_X12_buyers
    rw [isK_r, ob_some, if_neg q1, if_pos q2, if_pos i3, show rI σ 113 (ix 3) = rI σ 113 3 from rfl, if_pos q3]
  have er := e0.trans (buy_r (σ := σ) (k := k) v2 (by omega) 100 0 FU 0 rfl (by unfold FU; omega))
  by_cases q4 : v2 = -1
  · subst q4
    have x1 : f_X9_restCount (fo (biS (pL (rI σ 113 (4 + k)) (rI σ 113 2) (rI σ 113 (32 + k)))) 0 10 0) = _ := cnt_out (pL (rI σ 113 (4 + k)) (rI σ 113 2) (rI σ 113 (32 + k))) 10 0 FU 0 rfl (by unfold FU; omega)
    rw [if_pos rfl, x1, ob_some] at ec
    rw [show (0 : Int32) = nI 0 from rfl, fd_none _ 100 0 0 (by omega), if_pos rfl] at er
    exact Sim.pure h _ ec er
  · have x1 : f_X9_restingPair (fo (biS (pL (rI σ 113 (4 + k)) (rI σ 113 2) (rI σ 113 (32 + k)))) 0 10 0) v2 = _ := pair_out (pL (rI σ 113 (4 + k)) (rI σ 113 2) (rI σ 113 (32 + k))) v2 10 0 FU 0 rfl (by unfold FU; omega)
    rw [if_neg q4, x1] at ec
    rw [if_neg q4] at er
    cases hf : fd (pB (pL (rI σ 113 (4 + k)) (rI σ 113 2) (rI σ 113 (32 + k)))) v2 0 100 0 with
    | none =>
      rw [show 10 * 0 = 0 from rfl, show 10 * 10 = 100 from rfl, hf] at ec
      rw [hf] at er
      exact Sim.pure h (-5) ec er
    | some r =>
      have hr := fd_lt _ _ 100 0 _ r hf
      rw [show 10 * 0 = 0 from rfl, show 10 * 10 = 100 from rfl, hf] at ec
      rw [hf] at er
      exact Sim.pure h (nI r) (ec.trans (if_neg (nIm1 (by omega)))) er
