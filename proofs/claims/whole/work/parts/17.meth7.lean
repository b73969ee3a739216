theorem then_loop {σ : Sg} {a b c d e u kd k m : Nat} (hr : Rw σ 1 (rI σ 113) a b c d e u) (hk : k < a) (ha : a ≤ 7) (hkd : rI σ 113 (4 + k) = nI kd) (h5 : kd ≤ 5) (hm : m ≤ 99) : ∀ (t i fu fu' x : Nat), t + i = m → t < fu → t < fu' → 1 ≤ x → x ≤ 250 → ∃ r, b_X11_then_46 (nI k) (nI m) fu σ (nI x) (nI i) = some (r, σ) ∧ b_X12_thenOf_13 σ (nI k) (nI m) fu' (nI x) (nI i) = some r := by
  obtain ⟨r1, r2, r3, r4, r5, r6, r7, r8, r9, r10, r11, r12⟩ := hr
  intro t
  induction t with
  | zero =>
    intro i fu fu' x ht hf hf' h1 h2
    obtain ⟨fu, rfl⟩ : ∃ q, fu = q + 1 := ⟨fu - 1, by omega⟩
    obtain ⟨fu', rfl⟩ : ∃ q, fu' = q + 1 := ⟨fu' - 1, by omega⟩
    refine ⟨nI x, ?_, ?_⟩
    · rw [b_X11_then_46, if_pos (nI_le (by omega) (by omega))]
    · rw [b_X12_thenOf_13, if_pos (nI_le (by omega) (by omega))]
  | succ t ih =>
    intro i fu fu' x ht hf hf' h1 h2
    obtain ⟨fu, rfl⟩ : ∃ q, fu = q + 1 := ⟨fu - 1, by omega⟩
    obtain ⟨fu', rfl⟩ : ∃ q, fu' = q + 1 := ⟨fu' - 1, by omega⟩
    obtain ⟨hg, y, y1, y2, y3⟩ := goes_same (rI σ 113 2 + nI i) h5 h1 h2
    obtain ⟨r, e1, e2⟩ := ih (i + 1) fu fu' y (by omega) (by omega) (by omega) y1 y2
    have r9' : rI σ 18 0 = rI σ 113 2 := r9
    refine ⟨r, ?_, ?_⟩
    · rw [b_X11_then_46, if_neg (nI_ge (by omega) (by omega)), show f_X7_at σ 2 (nI k) = _ from at_in r1 hk, ob_some, r9', hkd, hg, y3, nam_e, nam_e, nI_1]
      exact e1
    · rw [b_X12_thenOf_13, if_neg (nI_ge (by omega) (by omega))]
      simp (disch := omega) only [L4, nI_add, i113, if_true, ix_nI]
      rw [if_pos (show inb 2 (kLen 113) = true from i113 (n := 2) (by omega)), show rI σ 113 (ix 2) = rI σ 113 2 from rfl, hkd, y3, nam_e, nam_e, nI_1]
      exact e2
theorem m_then {σ : Sg} (h : Inv σ) (v1 v2 : Int32) : Sim (fun s => f_X11_then s v1 v2) (fun s => f_X12_then s v1 v2) σ := by
  by_cases q1 : f_X11_between v1 0 (rI σ 113 0 - 1) = 0
  · refine ref_bad h (-2) id ?_ (fun τ ht => ?_)
    · show f_X11_then σ v1 v2 = _
      unfold f_X11_then; rw [hasK_c h, if_pos q1]; rfl
    · show f_X12_then τ v1 v2 = _
      unfold f_X12_then; rw [isK_r, ht 113 0 (by omega), ob_some, if_pos q1]; rfl
  by_cases q2 : f_X11_between v2 0 99 = 0
  · refine ref_bad h (-2) id ?_ (fun τ ht => ?_)
    · show f_X11_then σ v1 v2 = _
      unfold f_X11_then; rw [hasK_c h, if_neg q1, if_pos q2]; rfl
    · show f_X12_then τ v1 v2 = _
      unfold f_X12_then; rw [isK_r, ht 113 0 (by omega), ob_some, if_neg q1, in_0_99, if_pos q2]; rfl
  have h1 := h.1
  obtain ⟨a, b, c, d, e, u, hn, hw, hr⟩ := h1
  obtain ⟨⟨n0, ha⟩, _⟩ := hn
  have q1' := q1
  rw [n0] at q1'
  obtain ⟨k, hk, rfl⟩ := hk_of (by omega) q1'
  obtain ⟨m, p5, p6, rfl⟩ := btw_of (lo := 0) (hi := 99) (by omega) q2 (by omega)
  obtain ⟨kd, _, z2, z3⟩ := (hw.1 k hk).1
  obtain ⟨x, x1, x2, x3⟩ := ((hw.2.2.2.2.1.1 k (by omega)).1 hk).1
  obtain ⟨r, e1, e2⟩ := then_loop hr hk ha z3 z2 p6 m 0 FU FU x (by omega) (by unfold FU; omega) (by unfold FU; omega) x1 x2
  refine Sim.pure h r ?_ ?_
  · show f_X11_then σ (nI k) (nI m) = _
    unfold f_X11_then
    rw [hasK_c h, if_neg q1, if_neg q2, show f_X7_at σ 19 (nI k) = _ from at_in hr.2.2.2.2.2.2.2.2.2.2.1 hk, ob_some, x3]
    exact e1
  · show f_X12_then σ (nI k) (nI m) = _
    unfold f_X12_then f_X12_thenOf
    rw [isK_r, ob_some, if_neg q1, in_0_99, if_neg q2]
    simp (disch := omega) only [L18, nI_add, i113, if_true, ix_nI, x3, nam_e]
    rw [show b_X12_thenOf_13 σ (nI k) (nI m) FU (nI x) 0 = some r from e2, ob_some]
theorem off_loop {σ : Sg} {a b c d e u kd k m y : Nat} (hr : Rw σ 1 (rI σ 113) a b c d e u) (hk : k < a) (ha : a ≤ 7) (hkd : rI σ 113 (4 + k) = nI kd) (h5 : kd ≤ 5) (hy : rI σ 113 (25 + k) = nI y) (hy2 : y ≤ 250) (hm1 : 1 ≤ m) (hm : m ≤ 99) : ∀ (t i fu fu' x : Nat), t + i = 100 → t < fu → t < fu' → 1 ≤ x → x ≤ 250 → ∃ r, b_X11_off_46 (nI k) (nI m) fu σ (nI x) (nI i) = some (r, σ) ∧ b_X12_off_40 (nI k) (nI m) fu' σ (nI x) (nI i) = some (r, σ) := by
  obtain ⟨r1, r2, r3, r4, r5, r6, r7, r8, r9, r10, r11, r12⟩ := hr
  intro t
  induction t with
  | zero =>
    intro i fu fu' x ht hf hf' h1 h2
    obtain ⟨fu, rfl⟩ : ∃ q, fu = q + 1 := ⟨fu - 1, by omega⟩
    obtain ⟨fu', rfl⟩ : ∃ q, fu' = q + 1 := ⟨fu' - 1, by omega⟩
    refine ⟨-1, ?_, ?_⟩
    · rw [b_X11_off_46, if_pos (show (99 : Int32) < nI i from nI_lt (a := 99) (by omega) (by omega))]
    · rw [b_X12_off_40, if_pos (show (100 : Int32) ≤ nI i from nI_le (a := 100) (by omega) (by omega))]
  | succ t ih =>
    intro i fu fu' x ht hf hf' h1 h2
    obtain ⟨fu, rfl⟩ : ∃ q, fu = q + 1 := ⟨fu - 1, by omega⟩
    obtain ⟨fu', rfl⟩ : ∃ q, fu' = q + 1 := ⟨fu' - 1, by omega⟩
    obtain ⟨hg, z, z1, z2, z3⟩ := goes_same (rI σ 113 2 + nI i) h5 h1 h2
    obtain ⟨r, e1, e2⟩ := ih (i + 1) fu fu' z (by omega) (by omega) (by omega) z1 z2
    have r9' : rI σ 18 0 = rI σ 113 2 := r9
    have c0 : ¬ (99 : Int32) < nI i := nI_nlt (a := 99) (by omega) (by omega)
    have c1 : ¬ (100 : Int32) ≤ nI i := nI_ge (b := 100) (by omega) (by omega)
    have hd := pk_sub_toInt (a := x) (b := y) (by omega) (by omega)
    have e0 : (0 : Int32).toInt = 0 := rfl
    have hn : (0 - (nI x - nI y)).toInt = (y : Int) - x := by
      rw [tsub] <;> rw [e0, hd] <;> omega
    have hm' : (-nI m).toInt = -(m : Int) := by
      rw [tneg (by rw [tN (by omega)]; omega), tN (by omega)]
    have hc : ((if 0 ≤ (nI x - nI y) then (nI x - nI y) else 0 - (nI x - nI y)) < nI m) ↔ ¬ (nI m ≤ nI x - nI y) ∧ (-nI m < nI x - nI y) := by
      by_cases q : 0 ≤ nI x - nI y
      · rw [if_pos q, li_lt, li_le, li_lt, hd, hm', tN (by omega)]; rw [li_le, e0, hd] at q; omega
      · rw [if_neg q, li_lt, li_le, li_lt, hn, hd, hm', tN (by omega)]; rw [li_le, e0, hd] at q; omega
    have ec : b_X11_off_46 (nI k) (nI m) (fu + 1) σ (nI x) (nI i) = if (if 0 ≤ (nI x - nI y) then (nI x - nI y) else 0 - (nI x - nI y)) < nI m then b_X11_off_46 (nI k) (nI m) fu σ (nI z) (nI (i + 1)) else some (nI i, σ) := by
      rw [b_X11_off_46, if_neg c0, show f_X7_at σ 6 (nI k) = _ from at_in r3 hk, ob_some, hy, show f_X7_at σ 2 (nI k) = _ from at_in r1 hk, ob_some, r9', hkd, hg, z3, nam_e, nam_e, nI_1]
    have er : b_X12_off_40 (nI k) (nI m) (fu' + 1) σ (nI x) (nI i) = if nI m ≤ nI x - nI y then some (nI i, σ) else if -nI m < nI x - nI y then b_X12_off_40 (nI k) (nI m) fu' σ (nI z) (nI (i + 1)) else some (nI i, σ) := by
      rw [b_X12_off_40, if_neg c1]
      simp (disch := omega) only [L4, L25, L2, nI_add, i113, if_true, ix_nI, hy, nam_e, hkd, z3, nI_1]
    rw [ec, er]
    by_cases w1 : nI m ≤ nI x - nI y
    · rw [if_neg (fun q => (hc.mp q).1 w1), if_pos w1]
      exact ⟨nI i, rfl, rfl⟩
    · by_cases w2 : -nI m < nI x - nI y
      · rw [if_pos (hc.mpr ⟨w1, w2⟩), if_neg w1, if_pos w2]
        exact ⟨r, e1, e2⟩
      · rw [if_neg (fun q => w2 (hc.mp q).2), if_neg w1, if_neg w2]
        exact ⟨nI i, rfl, rfl⟩
theorem m_off {σ : Sg} (h : Inv σ) (v1 v2 : Int32) : Sim (fun s => f_X11_off s v1 v2) (fun s => f_X12_off s v1 v2) σ := by
  by_cases q1 : f_X11_between v1 0 (rI σ 113 0 - 1) = 0
  · refine ref_bad h (-2) id ?_ (fun τ ht => ?_)
    · show f_X11_off σ v1 v2 = _
      unfold f_X11_off; rw [hasK_c h, if_pos q1]; rfl
    · show f_X12_off τ v1 v2 = _
      unfold f_X12_off; rw [isK_r, ht 113 0 (by omega), ob_some, if_pos q1]; rfl
  by_cases q2 : f_X11_between v2 1 99 = 0
  · refine ref_bad h (-2) id ?_ (fun τ ht => ?_)
    · show f_X11_off σ v1 v2 = _
      unfold f_X11_off; rw [hasK_c h, if_neg q1, if_pos q2]; rfl
    · show f_X12_off τ v1 v2 = _
      unfold f_X12_off; rw [isK_r, ht 113 0 (by omega), ob_some, if_neg q1, in_1_99, if_pos q2]; rfl
  have h1 := h.1
  obtain ⟨a, b, c, d, e, u, hn, hw, hr⟩ := h1
  obtain ⟨⟨n0, ha⟩, _⟩ := hn
  have q1' := q1
  rw [n0] at q1'
  obtain ⟨k, hk, rfl⟩ := hk_of (by omega) q1'
  obtain ⟨m, p5, p6, rfl⟩ := btw_of (lo := 1) (hi := 99) (by omega) q2 (by omega)
  obtain ⟨kd, _, z2, z3⟩ := (hw.1 k hk).1
  obtain ⟨y, y1, y2, y3⟩ := (hw.1 k hk).2.2
  obtain ⟨x, x1, x2, x3⟩ := ((hw.2.2.2.2.1.1 k (by omega)).1 hk).1
  obtain ⟨r, e1, e2⟩ := off_loop hr hk ha z3 z2 y3 y2 p5 p6 100 0 FU FU x (by omega) (by unfold FU; omega) (by unfold FU; omega) x1 x2
  refine Sim.pure h r ?_ ?_
  · show f_X11_off σ (nI k) (nI m) = _
    unfold f_X11_off
    rw [hasK_c h, if_neg q1, if_neg q2, show f_X7_at σ 19 (nI k) = _ from at_in hr.2.2.2.2.2.2.2.2.2.2.1 hk, ob_some, x3]
    exact e1
  · show f_X12_off σ (nI k) (nI m) = _
    unfold f_X12_off
    rw [isK_r, ob_some, if_neg q1, in_1_99, if_neg q2]
    simp (disch := omega) only [L18, nI_add, i113, if_true, ix_nI, x3, nam_e]
    exact e2
/-- the sum of what the reference keeps from q on, of those in b -/
theorem sumR_loop {σ : Sg} {a q : Nat} (b : Int32) (hN : rI σ 113 0 = nI a) (ha : a ≤ 7) (hq : q ≤ 900) : ∀ (t i fu : Nat) (s : Int32), t + i = a → t < fu → b_X12_sumOf_5 σ (nI q) b fu s (nI i) = some (fo (smS (fun j => rI σ 113 (q + j)) b) i t s) := by
  intro t
  induction t with
  | zero =>
    intro i fu s ht hf
    obtain ⟨fu, rfl⟩ : ∃ q, fu = q + 1 := ⟨fu - 1, by omega⟩
    rw [b_X12_sumOf_5, if_pos (show inb 0 (kLen 113) = true from i113 (n := 0) (by omega)), show rI σ 113 (ix 0) = nI a from hN, if_pos (nI_le (by omega) (by omega))]
    rfl
  | succ t ih =>
    intro i fu s ht hf
    obtain ⟨fu, rfl⟩ : ∃ q, fu = q + 1 := ⟨fu - 1, by omega⟩
    rw [b_X12_sumOf_5, if_pos (show inb 0 (kLen 113) = true from i113 (n := 0) (by omega)), show rI σ 113 (ix 0) = nI a from hN, if_neg (nI_ge (by omega) (by omega)), fo_s, nI_add, if_pos (i113 (by omega)), ix_nI (by omega)]
    unfold b_X12_sumOf_39
    by_cases w : f_X12_has b (nI i) = 0
    · have e : smS (fun j => rI σ 113 (q + j)) b i s = s := if_pos w
      rw [if_pos w, nam_e, nam_e, nI_1, e, L0, show s + nI 0 = s from Int32.add_zero s]
      exact ih (i + 1) fu _ (by omega) (by omega)
    · have e : smS (fun j => rI σ 113 (q + j)) b i s = s + rI σ 113 (q + i) := if_neg w
      rw [if_neg w, nam_e, nam_e, nI_1, e]
      exact ih (i + 1) fu _ (by omega) (by omega)
theorem sumR {σ : Sg} {a q : Nat} (b : Int32) (hN : rI σ 113 0 = nI a) (ha : a ≤ 7) (hq : q ≤ 900) : f_X12_sumOf σ (nI q) b = some (sm (fun j => rI σ 113 (q + j)) b a) := sumR_loop b hN ha hq a 0 FU 0 (by omega) (by unfold FU; omega)
theorem sm_bound {f : Nat → Int32} (b : Int32) {n : Nat} (hf : ∀ j, j < n → vIn (f j) 1 250) (hn : n ≤ 7) : vIn (sm f b n) 0 1750 := by
  have key : vIn (sm f b n) 0 (250 * n) := by
    have := fo_inv (st := smS f b) (fun k s => vIn s 0 (250 * k)) n 0 0 ⟨0, by omega, by omega, rfl⟩ (fun j x h1 h2 ⟨y, y1, y2, y3⟩ => by
      obtain ⟨z, z1, z2, z3⟩ := hf j (by omega)
      unfold smS
      split
      · exact ⟨y, y1, by omega, y3⟩
      · rw [y3, z3, nI_add]
        exact vIn.mk (by omega) (by omega))
    rw [Nat.zero_add] at this
    exact this
  obtain ⟨y, y1, y2, y3⟩ := key
  exact ⟨y, y1, by omega, y3⟩
theorem m_tips {σ : Sg} (h : Inv σ) (v1 v2 v3 : Int32) : Sim (fun s => f_X11_tips s v1 v2 v3) (fun s => f_X12_tips s v1 v2 v3) σ := by
  by_cases q1 : f_X11_between v1 0 (rI σ 113 1 - 1) = 0
  · refine ref_bad h (-2) id ?_ (fun τ ht => ?_)
    · show f_X11_tips σ v1 v2 v3 = _
      unfold f_X11_tips; rw [hasB_c h, if_pos q1]; rfl
    · show f_X12_tips τ v1 v2 v3 = _
      unfold f_X12_tips; rw [isB_r, ht 113 1 (by omega), ob_some, if_pos q1]; rfl
  by_cases q2 : lays (rI σ 113 0) v2 v3 = 0
  · refine ref_bad h (-2) id ?_ (fun τ ht => ?_)
    · show f_X11_tips σ v1 v2 v3 = _
      unfold f_X11_tips; rw [hasB_c h, if_neg q1, lay_c h, if_pos q2]; rfl
    · show f_X12_tips τ v1 v2 v3 = _
      unfold f_X12_tips; rw [isB_r, ht 113 1 (by omega), ob_some, if_neg q1, pans_r, ht 113 0 (by omega), ob_some, if_pos q2]; rfl
  have h1 := h.1
  obtain ⟨a, b, c, d, e, u, hn, hw, hr⟩ := h1
  obtain ⟨⟨n0, ha⟩, ⟨n1, hb⟩, _⟩ := hn
  have q1' := q1
  rw [n1] at q1'
  obtain ⟨k, hk, rfl⟩ := hk_of (by omega) q1'
  obtain ⟨kd, _, z2, z3⟩ := hw.2.1 k hk
  have hg : ∀ j, j < a → vIn (rI σ 113 (18 + j)) 1 250 := fun j hj => ((hw.2.2.2.2.1.1 j (by omega)).1 hj).1
  obtain ⟨x, _, x2, x3⟩ := sm_bound v2 hg ha
  obtain ⟨y, _, y2, y3⟩ := sm_bound v3 hg ha
  have s2 := sumOf_in v2 hr.2.2.2.2.2.2.2.2.2.2.1 (by omega)
  have s3 := sumOf_in v3 hr.2.2.2.2.2.2.2.2.2.2.1 (by omega)
  rw [x3] at s2
  rw [y3] at s3
  refine Sim.pure h (f_X12_tipOf (nI kd) (nI x) (nI y)) ?_ ?_
  · show f_X11_tips σ (nI k) v2 v3 = _
    unfold f_X11_tips
    rw [hasB_c h, if_neg q1, lay_c h, if_neg q2, show f_X7_at σ 8 (nI k) = _ from at_in hr.2.2.2.1 hk, ob_some, show f_X7_sumOf σ 19 v2 = _ from s2, ob_some, show f_X7_sumOf σ 19 v3 = _ from s3, ob_some, z3, tip_kind z2 (by omega) (by omega)]
  · show f_X12_tips σ (nI k) v2 v3 = _
    have t2 := sumR (q := 18) v2 n0 ha (by omega)
    have t3 := sumR (q := 18) v3 n0 ha (by omega)
    rw [x3] at t2
    rw [y3] at t3
    unfold f_X12_tips
    rw [isB_r, ob_some, if_neg q1, pans_r, ob_some, if_neg q2]
    simp (disch := omega) only [L39, nI_add, i113, if_true, ix_nI, z3]
    rw [show f_X12_sumOf σ 18 v2 = _ from t2, ob_some, show f_X12_sumOf σ 18 v3 = _ from t3, ob_some]
