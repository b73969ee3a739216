theorem Rw_past {σ τ : Sg} {M a b c d e u u' : Nat} {g g' : Nat → Int32} (h : Rw σ M g a b c d e u) (ha : a ≤ 7) (hb : b ≤ 4) (hc : c ≤ 6) (hd : d ≤ 6) (he : e ≤ 6) (hs : ∀ k j, (k < M + 15 ∨ M + 17 ≤ k) → rI τ k j = rI σ k j) (hg : ∀ j, j < 112 → g' j = g j) (hp : rowIs τ (M + 15) (16 * u') (fun j => g' (113 + pp j))) : Rw τ M g' a b c d e u' := by
  obtain ⟨r1, r2, r3, r4, r5, r6, r7, r8, r9, r10, r11, r12⟩ := h
  refine ⟨?_, ?_, ?_, ?_, ?_, ?_, ?_, hp, ?_, ?_, ?_, ?_⟩
  · exact r1.res (fun k j hk => hs k j (by omega)) (fun j hj => (hg _ (by omega)).symm)
  · exact r2.res (fun k j hk => hs k j (by omega)) (fun j hj => (hg _ (by omega)).symm)
  · exact r3.res (fun k j hk => hs k j (by omega)) (fun j hj => (hg _ (by omega)).symm)
  · exact r4.res (fun k j hk => hs k j (by omega)) (fun j hj => (hg _ (by omega)).symm)
  · exact r5.res (fun k j hk => hs k j (by omega)) (fun j hj => (hg _ (by omega)).symm)
  · exact r6.res (fun k j hk => hs k j (by omega)) (fun j hj => (hg _ (by omega)).symm)
  · exact r7.res (fun k j hk => hs k j (by omega)) (fun j hj => (hg _ (by omega)).symm)
  · rw [hs _ _ (by omega), r9, hg 2 (by omega)]
  · rw [hs _ _ (by omega), r10, hg 3 (by omega)]
  · exact r11.res (fun k j hk => hs k j (by omega)) (fun j hj => (hg _ (by omega)).symm)
  · exact r12.res (fun k j hk => hs k j (by omega)) (fun j hj => (hg _ (by omega)).symm)
def shiftG (g : Nat → Int32) : Nat → Int32 := fun j => if 113 ≤ j ∧ j < 225 then g (j + 16) else if j = 112 then nI 7 else g j
theorem shiftG_o {j : Nat} (g : Nat → Int32) (h : j < 112) : shiftG g j = g j := by
  unfold shiftG
  rw [if_neg (by omega), if_neg (by omega)]
theorem shiftG_p {j : Nat} (g : Nat → Int32) (h : j < 112) : shiftG g (113 + j) = g (113 + j + 16) := by
  unfold shiftG
  rw [if_pos (by omega)]
def mind (u : Nat) (g : Nat → Int32) : Nat → Int32 := if u = 8 then storeG 7 (shiftG g) else storeG u g
def mu (u : Nat) : Nat := if u = 8 then 8 else u + 1
theorem Nm_past {g g' : Nat → Int32} {a b c d e u u' : Nat} (hn : Nm g a b c d e u) (hg : ∀ j, j < 112 → g' j = g j) (h : g' 112 = nI u') (hu : u' ≤ 8) : Nm g' a b c d e u' := by
  obtain ⟨⟨n0, ha⟩, ⟨n1, hb⟩, ⟨n2, hc⟩, ⟨n3, hd⟩, ⟨n4, he⟩, n5, hu⟩ := hn
  refine ⟨⟨?_, ha⟩, ⟨?_, hb⟩, ⟨?_, hc⟩, ⟨?_, hd⟩, ⟨?_, he⟩, h, by omega⟩
  · rw [hg _ (by omega), n0]
  · rw [hg _ (by omega), n1]
  · rw [hg _ (by omega), n2]
  · rw [hg _ (by omega), n3]
  · rw [hg _ (by omega), n4]
theorem mom_same {g g' : Nat → Int32} {p q l t p' q' l' t' a : Nat} (h : mom g p q l t a) (h1 : ∀ k, k < 7 → g' (p' + k) = g (p + k)) (h2 : ∀ k, k < 7 → g' (q' + k) = g (q + k)) (h3 : g' l' = g l) (h4 : g' t' = g t) : mom g' p' q' l' t' a := by
  refine ⟨fun k hk => ?_, ?_, ?_⟩
  · rw [h1 k hk, h2 k hk]; exact h.1 k hk
  · rw [h3]; exact h.2.1
  · rw [h4]; exact h.2.2
theorem Wf_past {g g' : Nat → Int32} {a b d e u u' : Nat} (hw : Wf g a b d e u) (ha : a ≤ 7) (hb : b ≤ 4) (hd : d ≤ 6) (he : e ≤ 6) (hg : ∀ j, j < 112 → g' j = g j) (hp : ∀ i, i < u' → mom g' (113 + 16 * i) (120 + 16 * i) (127 + 16 * i) (128 + 16 * i) a) : Wf g' a b d e u' := by
  obtain ⟨w1, w2, w3, w4, w5, w6⟩ := hw
  refine ⟨fun k hk => ?_, fun k hk => ?_, fun i hi => ?_, fun i hi => ?_, mom_same w5 (fun k hk => hg _ (by omega)) (fun k hk => hg _ (by omega)) (hg _ (by omega)) (hg _ (by omega)), hp⟩
  · rw [hg _ (by omega), hg _ (by omega), hg _ (by omega)]; exact w1 k hk
  · rw [hg _ (by omega)]; exact w2 k hk
  · rw [hg _ (by omega)]; exact w3 i hi
  · rw [hg _ (by omega), hg _ (by omega)]; exact w4 i hi
theorem store_wf {g : Nat → Int32} {a b d e u : Nat} (hw : Wf g a b d e u) (ha : a ≤ 7) (hb : b ≤ 4) (hd : d ≤ 6) (he : e ≤ 6) : Wf (storeG u g) a b d e (u + 1) := by
  refine Wf_past hw ha hb hd he (fun j hj => storeG_o g (by omega) (by omega)) (fun i hi => ?_)
  by_cases q : i = u
  · subst q
    refine mom_same hw.2.2.2.2.1 (fun k hk => ?_) (fun k hk => ?_) ?_ ?_
    · rw [show 113 + 16 * i + k = 113 + (16 * i + k) by omega, storeG_s g hk]
    · rw [show 120 + 16 * i + k = 113 + (16 * i + 7 + k) by omega, storeG_m g hk]
    · rw [show 127 + 16 * i = 113 + (16 * i + 14) by omega, storeG_l g]
    · rw [show 128 + 16 * i = 113 + (16 * i + 15) by omega, storeG_d g]
  · refine mom_same (hw.2.2.2.2.2 i (by omega)) (fun k hk => ?_) (fun k hk => ?_) ?_ ?_ <;> exact storeG_o g (by omega) (by omega)
theorem shift_wf {g : Nat → Int32} {a b d e : Nat} (hw : Wf g a b d e 8) (ha : a ≤ 7) (hb : b ≤ 4) (hd : d ≤ 6) (he : e ≤ 6) : Wf (shiftG g) a b d e 7 := by
  refine Wf_past hw ha hb hd he (fun j hj => shiftG_o g hj) (fun i hi => ?_)
  refine mom_same (hw.2.2.2.2.2 (i + 1) (by omega)) (fun k hk => ?_) (fun k hk => ?_) ?_ ?_
  · rw [show 113 + 16 * i + k = 113 + (16 * i + k) by omega, shiftG_p g (by omega)]; congr 1; omega
  · rw [show 120 + 16 * i + k = 113 + (16 * i + 7 + k) by omega, shiftG_p g (by omega)]; congr 1; omega
  · rw [show 127 + 16 * i = 113 + (16 * i + 14) by omega, shiftG_p g (by omega)]; congr 1; omega
  · rw [show 128 + 16 * i = 113 + (16 * i + 15) by omega, shiftG_p g (by omega)]; congr 1; omega
theorem mind_keep {g : Nat → Int32} {a b c d e u : Nat} (hn : Nm g a b c d e u) (hw : Wf g a b d e u) : Nm (mind u g) a b c d e (mu u) ∧ Wf (mind u g) a b d e (mu u) := by
  obtain ⟨⟨n0, ha⟩, ⟨n1, hb⟩, ⟨n2, hc⟩, ⟨n3, hd⟩, ⟨n4, he⟩, n5, hu⟩ := id hn
  unfold mind mu
  by_cases q : u = 8
  · subst q
    rw [if_pos rfl, if_pos rfl]
    exact ⟨Nm_past hn (fun j hj => (storeG_o _ (by omega) (by omega)).trans (shiftG_o g hj)) (if_pos rfl) (by omega), store_wf (shift_wf hw ha hb hd he) ha hb hd he⟩
  · rw [if_neg q, if_neg q]
    exact ⟨Nm_past hn (fun j hj => storeG_o _ (by omega) (by omega)) (if_pos rfl) (by omega), store_wf hw ha hb hd he⟩
theorem zs_of {g : Nat → Int32} {a b d e u : Nat} (hw : Wf g a b d e u) : ∀ k, k < 7 → a ≤ k → g (18 + k) = 0 ∧ g (32 + k) = 0 := fun k hk h => (hw.2.2.2.2.1.1 k hk).2 h
theorem remember_c {σ : Sg} {g : Nat → Int32} {a b c d e u : Nat} (hn : Nm g a b c d e u) (hw : Wf g a b d e u) (hr : Rw σ 1 g a b c d e u) : ∃ τ, f_X3_remember σ 1 = some τ ∧ Rw τ 1 (mind u g) a b c d e (mu u) ∧ Only 1 23 σ τ := by
  obtain ⟨⟨n0, ha⟩, ⟨n1, hb⟩, ⟨n2, hc⟩, ⟨n3, hd⟩, ⟨n4, he⟩, n5, hu⟩ := id hn
  have r8 := hr.2.2.2.2.2.2.2.1
  have hf : f_X7_isFull σ (1 + 15) = if 16 * u < 128 then 0 else 1 := full_c r8 rfl
  unfold mind mu f_X3_remember b_X3_remember_19
  by_cases q : u = 8
  · subst q
    obtain ⟨s1, a1, b1, c1⟩ := dropFirst_in (m := 16) r8 (by omega) (by omega)
    have hr1 : Rw s1 1 (shiftG g) a b c d e 7 := Rw_past hr ha hb hc hd he (fun k j hk => (c1 k (by omega)).1 j) (fun j hj => shiftG_o g hj) (b1.cong (fun j hj => by
      have := pp_lo (j := j) (u := 7) (by omega)
      rw [shiftG_p g (by omega), pp_16]; rfl))
    obtain ⟨s2, a2, b2, c2⟩ := store_c (k0 := 1 + 17) (k1 := 1 + 15) (g := shiftG g) (by omega) rfl ha (u := 7) (by omega) (zs_of (shift_wf hw ha hb hd he)) hr1.2.2.2.2.2.2.2.2.2.2.1 hr1.2.2.2.2.2.2.2.2.2.2.2 hr1.2.2.2.2.2.2.2.1 hr1.2.2.2.2.2.2.2.2.1 hr1.2.2.2.2.2.2.2.2.2.1
    refine ⟨s2, ?_, ?_, (c1.mono (by omega) (by omega)).trans (c2.mono (by omega) (by omega))⟩
    · rw [hf, if_neg (by decide), show f_X7_dropFirst σ (1 + 15) 16 = _ from a1, ob_some, a2, ob_some]
    · rw [if_pos rfl, if_pos rfl]
      exact Rw_past hr1 ha hb hc hd he (fun k j hk => (c2 k (by omega)).1 j) (fun j hj => storeG_o _ (by omega) (by omega)) b2
  · obtain ⟨s2, a2, b2, c2⟩ := store_c (k0 := 1 + 17) (k1 := 1 + 15) (g := g) (by omega) rfl ha (u := u) (by omega) (zs_of hw) hr.2.2.2.2.2.2.2.2.2.2.1 hr.2.2.2.2.2.2.2.2.2.2.2 r8 hr.2.2.2.2.2.2.2.2.1 hr.2.2.2.2.2.2.2.2.2.1
    refine ⟨s2, ?_, ?_, c2.mono (by omega) (by omega)⟩
    · rw [hf, if_pos (show (if 16 * u < 128 then (0 : Int32) else 1) = 0 from if_pos (by omega)), a2, ob_some]
    · rw [if_neg q, if_neg q]
      exact Rw_past hr ha hb hc hd he (fun k j hk => (c2 k (by omega)).1 j) (fun j hj => storeG_o _ (by omega) (by omega)) b2
def Pw (a j : Nat) : Prop := a = 113 ∧ j < 241
theorem minds_loop {u : Nat} {g : Nat → Int32} (hu : u < 8) (gu : g 112 = nI u) : ∀ (t i fu : Nat) (σ : Sg), t + i = 7 → t < fu → (∀ j, rI σ 113 j = if 113 + 16 * u ≤ j ∧ j < 113 + 16 * u + i then g (18 + (j - (113 + 16 * u))) else if 113 + 16 * u + 7 ≤ j ∧ j < 113 + 16 * u + 7 + i then g (32 + (j - (113 + 16 * u + 7))) else g j) → ∃ τ, b_X12_minds_74 fu σ (nI (113 + 16 * u)) (nI i) = some τ ∧ (∀ j, rI τ 113 j = storeG u g j) ∧ Un Pw σ τ := by
  intro t
  induction t with
  | zero =>
    intro i fu σ ht hf hg
    obtain ⟨fu, rfl⟩ : ∃ q, fu = q + 1 := ⟨fu - 1, by omega⟩
    have hi : i = 7 := by omega
    subst hi
    have e2 : rI σ 113 2 = g 2 := by rw [hg, if_neg (by omega), if_neg (by omega)]
    have e3 : rI σ 113 3 = g 3 := by rw [hg, if_neg (by omega), if_neg (by omega)]
    have e112 : rI σ 113 112 = nI u := by rw [hg, if_neg (by omega), if_neg (by omega), gu]
    refine ⟨stI (stI (stI σ 113 (113 + 16 * u + 14) (g 3)) 113 (113 + 16 * u + 15) (g 2)) 113 112 (nI (u + 1)), ?_, fun j => ?_, ((Un.stI _ _ _ _ ⟨rfl, by omega⟩).trans (Un.stI _ _ _ _ ⟨rfl, by omega⟩)).trans (Un.stI _ _ _ _ ⟨rfl, by omega⟩)⟩
    · rw [b_X12_minds_74]
      simp (disch := omega) only [L2, L3, L7, L14, L15, L112, nI_add, i113, if_true, ix_nI, leT, nam_e, rI_nj, e2, e3, e112, nI_1]
    · rw [rI_stI, rI_stI, rI_stI, hg]
      unfold storeG
      by_cases q1 : j = 112
      · rw [if_pos ⟨rfl, q1⟩, if_pos q1]
      · rw [if_neg (fun z => q1 z.2), if_neg q1]
        by_cases q2 : j = 113 + 16 * u + 15
        · rw [if_pos ⟨rfl, q2⟩, if_neg (by omega), if_neg (by omega), if_neg (by omega), if_pos q2]
        · rw [if_neg (fun z => q2 z.2)]
          by_cases q3 : j = 113 + 16 * u + 14
          · rw [if_pos ⟨rfl, q3⟩, if_neg (by omega), if_neg (by omega), if_pos q3]
          · rw [if_neg (fun z => q3 z.2), if_neg q3, if_neg q2]
  | succ t ih =>
    intro i fu σ ht hf hg
    obtain ⟨fu, rfl⟩ : ∃ q, fu = q + 1 := ⟨fu - 1, by omega⟩
    have e18 : rI σ 113 (18 + i) = g (18 + i) := by rw [hg, if_neg (by omega), if_neg (by omega)]
    have e32 : rI σ 113 (32 + i) = g (32 + i) := by rw [hg, if_neg (by omega), if_neg (by omega)]
    obtain ⟨τ, k1, k2, k3⟩ := ih (i + 1) fu (stI (stI σ 113 (113 + 16 * u + i) (g (18 + i))) 113 (113 + 16 * u + 7 + i) (g (32 + i))) (by omega) (by omega) (fun j => by
      rw [rI_stI, rI_stI, hg]
      by_cases q1 : j = 113 + 16 * u + 7 + i
      · subst q1
        rw [if_pos ⟨rfl, rfl⟩, if_neg (by omega), if_pos (by omega)]
        congr 1; omega
      · by_cases q2 : j = 113 + 16 * u + i
        · subst q2
          rw [if_neg (by omega), if_pos ⟨rfl, rfl⟩, if_pos (by omega)]
          congr 1; omega
        · rw [if_neg (by omega), if_neg (by omega)]
          by_cases q3 : 113 + 16 * u ≤ j ∧ j < 113 + 16 * u + i
          · rw [if_pos q3, if_pos (by omega)]
          · rw [if_neg q3, if_neg (show ¬ (113 + 16 * u ≤ j ∧ j < 113 + 16 * u + (i + 1)) by omega)]
            by_cases q4 : 113 + 16 * u + 7 ≤ j ∧ j < 113 + 16 * u + 7 + i
            · rw [if_pos q4, if_pos (by omega)]
            · rw [if_neg q4, if_neg (by omega)])
    refine ⟨τ, ?_, k2, ((Un.stI _ _ _ _ ⟨rfl, by omega⟩).trans (Un.stI _ _ _ _ ⟨rfl, by omega⟩)).trans k3⟩
    rw [b_X12_minds_74]
    simp (disch := omega) only [L7, L18, L32, nI_add, i113, if_true, if_false, ix_nI, leF, nam_e, rI_nj, e18, e32, nI_1]
    exact k1
theorem minds_58 {σ : Sg} {u : Nat} {g : Nat → Int32} (hu : u < 8) (gu : g 112 = nI u) (hg : ∀ j, rI σ 113 j = g j) : ∃ τ, b_X12_minds_58 σ = some τ ∧ (∀ j, rI τ 113 j = storeG u g j) ∧ Un Pw σ τ := by
  obtain ⟨τ, e1, e2, e3⟩ := minds_loop hu gu 7 0 FU σ rfl (by unfold FU; omega) (fun j => by rw [hg, if_neg (by omega), if_neg (by omega)])
  refine ⟨τ, ?_, e2, e3⟩
  unfold b_X12_minds_58
  simp (disch := omega) only [L112, L113, L16, i113, if_true, ix_nI, hg, gu, pk_mul, nI_add, nam_e]
  exact e1
theorem minds_shift {g : Nat → Int32} (gu : g 112 = nI 8) : ∀ (t i fu : Nat) (σ : Sg), t + i = 112 → t < fu → (∀ j, rI σ 113 j = if 113 ≤ j ∧ j < 113 + i then g (j + 16) else g j) → ∃ τ, b_X12_minds_14 fu σ (nI i) = some τ ∧ (∀ j, rI τ 113 j = storeG 7 (shiftG g) j) ∧ Un Pw σ τ := by
  intro t
  induction t with
  | zero =>
    intro i fu σ ht hf hg
    obtain ⟨fu, rfl⟩ : ∃ q, fu = q + 1 := ⟨fu - 1, by omega⟩
    have hi : i = 112 := by omega
    subst hi
    have e112 : rI σ 113 112 = nI 8 := by rw [hg, if_neg (by omega), gu]
    obtain ⟨τ, k1, k2, k3⟩ := minds_58 (σ := stI σ 113 112 (nI 7)) (u := 7) (g := shiftG g) (by omega) (by unfold shiftG; rw [if_neg (by omega), if_pos rfl]) (fun j => by
      rw [rI_stI, hg]
      unfold shiftG
      by_cases q : j = 112
      · rw [if_pos ⟨rfl, q⟩, if_neg (by omega), if_pos q]
      · rw [if_neg (fun z => q z.2), if_neg q])
    refine ⟨τ, ?_, k2, (Un.stI _ _ _ _ ⟨rfl, by omega⟩).trans k3⟩
    rw [b_X12_minds_14]
    simp (disch := omega) only [L112, i113, if_true, ix_nI, leT, e112, nam_e]
    exact k1
  | succ t ih =>
    intro i fu σ ht hf hg
    obtain ⟨fu, rfl⟩ : ∃ q, fu = q + 1 := ⟨fu - 1, by omega⟩
    have e16 : rI σ 113 (113 + i + 16) = g (113 + i + 16) := by rw [hg, if_neg (by omega)]
    obtain ⟨τ, k1, k2, k3⟩ := ih (i + 1) fu (stI σ 113 (113 + i) (g (113 + i + 16))) (by omega) (by omega) (fun j => by
      rw [rI_stI, hg]
      by_cases q : j = 113 + i
      · subst q
        rw [if_pos ⟨rfl, rfl⟩, if_pos (by omega)]
      · rw [if_neg (fun z => q z.2)]
        by_cases q3 : 113 ≤ j ∧ j < 113 + i
        · rw [if_pos q3, if_pos (by omega)]
        · rw [if_neg q3, if_neg (by omega)])
    refine ⟨τ, ?_, k2, (Un.stI _ _ _ _ ⟨rfl, by omega⟩).trans k3⟩
    rw [b_X12_minds_14]
    simp (disch := omega) only [L112, L113, L16, nI_add, i113, if_true, if_false, ix_nI, leF, e16, nam_e, nI_1]
    exact k1
theorem minds_r {σ : Sg} {u : Nat} {g : Nat → Int32} (hu : u ≤ 8) (gu : g 112 = nI u) (hg : ∀ j, rI σ 113 j = g j) : ∃ τ, f_X12_minds σ = some τ ∧ (∀ j, rI τ 113 j = mind u g j) ∧ Un Pw σ τ := by
  unfold f_X12_minds mind
  rw [if_pos (show inb 112 (kLen 113) = true from i113 (n := 112) (by omega)), show rI σ 113 (ix 112) = nI u from (hg 112).trans gu]
  by_cases q : u = 8
  · subst q
    rw [if_pos (show nI 8 = 8 from rfl), if_pos rfl]
    exact minds_shift gu 112 0 FU σ rfl (by unfold FU; omega) (fun j => by rw [hg, if_neg (by omega)])
  · rw [if_neg (show ¬ nI u = 8 from fun z => q (nIinj (b := 8) (by omega) (by omega) z)), if_neg q]
    exact minds_58 (by omega) gu hg
