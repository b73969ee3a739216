theorem keep_c {σ : Sg} {r : Nat} (up down : Int64) (hg : f_X11_greatestDivisor up down = some (lN r)) (h0 : 0 < r) (h1 : r < 2 ^ 31) : f_X11_keepFraction σ up down = some (stL (stL σ 0 10 (up / lN r)) 0 11 (down / lN r)) := by
  have e1 : ¬ lg_cmp (lN r) 0 ≤ 0 := by
    rw [lg_cmp_le, show (0 : Int64) = lN 0 from rfl, lN_le h1 (by omega)]
    omega
  have e2 : ¬ lN r = 0 := by
    rw [show (0 : Int64) = lN 0 from rfl, lN_eq h1 (by omega)]
    omega
  unfold f_X11_keepFraction
  rw [hg, ob_some, if_neg e1, if_neg e2, nam_e, if_neg e2, nam_e]
theorem m_refusals {σ : Sg} (h : Inv σ) (v1 v2 v3 : Int32) : Sim (fun s => f_X11_refusals s v1 v2 v3) (fun s => f_X12_refusals s v1 v2 v3) σ := by
  by_cases q1 : f_X11_between v1 0 ((1 <<< (rI σ 113 0 &&& 31)) - 1) = 0
  · refine ref_bad h (-2) id ?_ (fun τ ht => ?_)
    · show f_X11_refusals σ v1 v2 v3 = _
      unfold f_X11_refusals; rw [hasS_c h, if_pos q1]; rfl
    · show f_X12_refusals τ v1 v2 v3 = _
      unfold f_X12_refusals; rw [areK_r, ht 113 0 (by omega), ob_some, if_pos q1]; rfl
  by_cases q2 : f_X11_between v2 0 9 = 0
  · refine ref_bad h (-2) id ?_ (fun τ ht => ?_)
    · show f_X11_refusals σ v1 v2 v3 = _
      unfold f_X11_refusals; rw [hasS_c h, if_neg q1, if_pos q2]; rfl
    · show f_X12_refusals τ v1 v2 v3 = _
      unfold f_X12_refusals; rw [areK_r, ht 113 0 (by omega), ob_some, if_neg q1, in_0_9, if_pos q2]; rfl
  by_cases q3 : f_X11_between v3 0 10 = 0
  · refine ref_bad h (-2) id ?_ (fun τ ht => ?_)
    · show f_X11_refusals σ v1 v2 v3 = _
      unfold f_X11_refusals; rw [hasS_c h, if_neg q1, if_neg q2, if_pos q3]; rfl
    · show f_X12_refusals τ v1 v2 v3 = _
      unfold f_X12_refusals; rw [areK_r, ht 113 0 (by omega), ob_some, if_neg q1, in_0_9, if_neg q2, in_0_10, if_pos q3]; rfl
  obtain ⟨a, b, c, d, e, u, hn, hw, hr⟩ := h.1
  obtain ⟨⟨n0, ha⟩, _⟩ := hn
  have q1' := q1
  rw [n0] at q1'
  obtain ⟨x, hx, rfl⟩ := hs_of ha q1'
  obtain ⟨f, _, _, rfl⟩ := btw_of (lo := 0) (hi := 9) (by omega) q2 (by omega)
  obtain ⟨cc, _, p6, rfl⟩ := btw_of (lo := 0) (hi := 10) (by omega) q3 (by omega)
  obtain ⟨up, down, m, hm, ⟨c', hc1, hc2, hc3⟩, e1, _⟩ := refu_loop (σ := σ) (σ' := σ) rfl (f := f) n0 hr hw ha hx p6 a 0 0 FU FU 1 1 (by omega) (by omega) (by unfold FU; omega) (by unfold FU; omega) (fr_0 cc)
  obtain ⟨r, g1, g2, g3, g4⟩ := gcd_all c' (by omega) m (by omega)
  rw [← hc2, ← hc3] at g1 g2
  have ek := keep_c (σ := σ) up down g1 g3 g4
  have hI := Inv_part h (up / lN r) (down / lN r)
  have hr1 : Rw (stL (stL σ 0 10 (up / lN r)) 0 11 (down / lN r)) 1 (rI σ 113) a b c d e u := hr
  have eC : f_X11_refusals σ (nI x) (nI f) (nI cc) = some (1, stL (stL σ 0 10 (up / lN r)) 0 11 (down / lN r)) := by
    unfold f_X11_refusals
    rw [hasS_c h, if_neg q1, if_neg q2, if_neg q3]
    refine (show b_X11_refusals_47 (nI x) (nI f) (nI cc) FU σ 1 1 (nI 0) = _ from e1).trans ?_
    rw [ek, ob_some]
  obtain ⟨up2, down2, m2, hm2, ⟨c2, hd1, hd2, hd3⟩, e3, e4⟩ := refu_loop (σ := σ) (σ' := stL (stL σ 0 10 (up / lN r)) 0 11 (down / lN r)) rfl (f := f) n0 hr hw ha hx p6 a 0 0 FU FU 1 1 (by omega) (by omega) (by unfold FU; omega) (by unfold FU; omega) (fr_0 cc)
  obtain ⟨r2, k1, k2, k3, k4⟩ := gcd_all c2 (by omega) m2 (by omega)
  rw [← hd2, ← hd3] at k1 k2
  have ek2 := keep_c (σ := σ) up2 down2 k1 k3 k4
  rw [ek, ob_some] at e1
  rw [ek2, ob_some] at e3
  have es := congrArg Prod.snd (Option.some.inj (e1.symm.trans e3))
  have f1 : up / lN r = up2 / lN r2 := by
    have z := congrArg (fun s => rL s 0 10) es
    exact z
  have f2 : down / lN r = down2 / lN r2 := by
    have z := congrArg (fun s => rL s 0 11) es
    exact z
  have hr2 : lN r2 ≠ 0 := by
    rw [show (0 : Int64) = lN 0 from rfl]
    intro z
    rw [lN_eq k4 (by omega)] at z
    omega
  refine ⟨1, stL (stL σ 0 10 (up / lN r)) 0 11 (down / lN r), stL (stL (stL (stL σ 0 10 (up / lN r)) 0 11 (down / lN r)) 112 4 (up / lN r)) 112 5 (down / lN r), eC, ?_, hI⟩
  show f_X12_refusals (stL (stL σ 0 10 (up / lN r)) 0 11 (down / lN r)) (nI x) (nI f) (nI cc) = _
  unfold f_X12_refusals
  rw [areK_r, show rI (stL (stL σ 0 10 (up / lN r)) 0 11 (down / lN r)) 113 0 = rI σ 113 0 from rfl, ob_some, if_neg q1, in_0_9, if_neg q2, in_0_10, if_neg q3]
  refine (show b_X12_refusals_48 (nI x) (nI f) (nI cc) FU (stL (stL σ 0 10 (up / lN r)) 0 11 (down / lN r)) 1 1 (nI 0) = _ from e4).trans ?_
  rw [ref_gR (nI x) (nI f) (nI cc) up2 down2 FU up2 down2 (lN r2) k2 hr2, ← f1, ← f2]
