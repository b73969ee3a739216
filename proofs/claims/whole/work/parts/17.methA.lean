def moodS (m : Int32) : Int32 := if m ≤ 5 then (if 5 ≤ m then 5 else m + 1) else m - 1
theorem moodS_c : ∀ m, m < 10 → nI m + f_J6_compare_7cf53 5 (nI m) = moodS (nI m) := by decide +kernel
theorem moodS_v : ∀ m, m < 10 → ∃ n, n < 10 ∧ moodS (nI m) = nI n := by decide +kernel
theorem moodS_in {x : Int32} (h : vIn x 0 9) : x + f_J6_compare_7cf53 5 x = moodS x ∧ vIn (moodS x) 0 9 := by
  obtain ⟨m, _, h2, rfl⟩ := h
  obtain ⟨n, n1, n2⟩ := moodS_v m (by omega)
  exact ⟨moodS_c m (by omega), n, by omega, by omega, n2⟩
theorem passDay_loop {k0 k1 a : Nat} {f m kd : Nat → Int32} {d : Int32} (hk : k1 + 1 < k0 ∨ k0 + 5 ≤ k1) (ha : a ≤ 7) (hf : ∀ j, j < a → vIn (f j) 1 250) (hm : ∀ j, j < a → vIn (m j) 0 9) (hkd : ∀ j, j < a → vIn (kd j) 0 5) : ∀ (t i fu : Nat) (σ : Sg), t + i = a → t < fu → rowIs σ (k0 + 1) a (fun j => if j < i then f_X12_goes (kd j) (f j) d else f j) → rowIs σ (k0 + 3) a (fun j => if j < i then moodS (m j) else m j) → rowIs σ k1 a kd → rI σ k0 0 = d → ∃ τ, b_X4_passDay_2 k0 k1 fu σ (nI i) = some τ ∧ rowIs τ (k0 + 1) a (fun j => f_X12_goes (kd j) (f j) d) ∧ rowIs τ (k0 + 3) a (fun j => moodS (m j)) ∧ rI τ k0 0 = d + 1 ∧ rI τ k0 1 = 0 ∧ Only k0 (k0 + 5) σ τ := by
  intro t
  induction t with
  | zero =>
    intro i fu σ ht hfu h1 h2 h3 h4
    obtain ⟨fu, rfl⟩ : ∃ q, fu = q + 1 := ⟨fu - 1, by omega⟩
    have o1 : Only k0 (k0 + 1) σ (stI (stI σ k0 1 0) k0 0 (d + 1)) := (Only.stI σ k0 1 0).trans (Only.stI _ k0 0 _)
    refine ⟨stI (stI σ k0 1 0) k0 0 (d + 1), ?_, (h1.keep o1 (by omega)).cong (fun j hj => if_pos (by omega)), (h2.keep o1 (by omega)).cong (fun j hj => if_pos (by omega)), rI_eq _ _ _ _, ?_, o1.mono (by omega) (by omega)⟩
    · rw [b_X4_passDay_2, show f_X7_size σ (k0 + 1) = _ from h1.2.1, if_pos (nI_le (by omega) (by omega)), nam_e, nam_e, rI_nj _ _ (by omega), h4]
    · rw [rI_nj _ _ (by omega), rI_eq]
  | succ t ih =>
    intro i fu σ ht hfu h1 h2 h3 h4
    obtain ⟨fu, rfl⟩ : ∃ q, fu = q + 1 := ⟨fu - 1, by omega⟩
    have hi : i < a := by omega
    obtain ⟨x, x1, x2, x3⟩ := hf i hi
    obtain ⟨y, _, y2, y3⟩ := hkd i hi
    obtain ⟨m1, _⟩ := moodS_in (hm i hi)
    have hg : f_X2_behind (kd i) (f i) d = f_X12_goes (kd i) (f i) d := by rw [x3, y3]; exact (goes_same d y2 x1 x2).1
    obtain ⟨s1, a1, b1, c1⟩ := put_c (g' := fun j => if j < i + 1 then f_X12_goes (kd j) (f j) d else f j) (f_X12_goes (kd i) (f i) d) h1 hi (fun j hj => by
      unfold upd
      by_cases q : j = i
      · rw [if_pos q, if_pos (by omega), q]
      · rw [if_neg q]
        by_cases w : j < i
        · exact (if_pos (by omega)).trans (if_pos w).symm
        · exact (if_neg (by omega)).trans (if_neg w).symm)
    obtain ⟨s2, a2, b2, c2⟩ := put_c (g' := fun j => if j < i + 1 then moodS (m j) else m j) (moodS (m i)) (h2.keep c1 (by omega)) hi (fun j hj => by
      unfold upd
      by_cases q : j = i
      · rw [if_pos q, if_pos (by omega), q]
      · rw [if_neg q]
        by_cases w : j < i
        · exact (if_pos (by omega)).trans (if_pos w).symm
        · exact (if_neg (by omega)).trans (if_neg w).symm)
    obtain ⟨τ, e1, e2, e3, e4, e5, e6⟩ := ih (i + 1) fu s2 (by omega) (by omega) (b1.keep c2 (by omega)) b2 ((h3.keep c1 (by omega)).keep c2 (by omega)) (by rw [(c2 k0 (by omega)).1, (c1 k0 (by omega)).1, h4])
    refine ⟨τ, ?_, e2, e3, e4, e5, ((c1.mono (by omega) (by omega)).trans (c2.mono (by omega) (by omega))).trans e6⟩
    have t1 := at_in h1 hi
    have t2 := at_in (h2.keep c1 (by omega)) hi
    simp only [Nat.lt_irrefl, if_false] at t1 t2
    rw [b_X4_passDay_2, show f_X7_size σ (k0 + 1) = _ from h1.2.1, if_neg (nI_ge (by omega) (by omega)), at_in h3 hi, ob_some, t1, ob_some, h4, hg, a1, ob_some, t2, ob_some, ob_some, m1, a2, ob_some, nam_e, nI_1]
    exact e1
def passG (a : Nat) (g : Nat → Int32) : Nat → Int32 := fun j => if j = 3 then 0 else if j = 2 then g 2 + 1 else if 18 ≤ j ∧ j < 18 + a then f_X12_goes (g (4 + (j - 18))) (g j) (g 2) else if 32 ≤ j ∧ j < 32 + a then moodS (g j) else g j
theorem passG_o {a j : Nat} (g : Nat → Int32) (h3 : j ≠ 3) (h2 : j ≠ 2) (h18 : j < 18 ∨ 18 + a ≤ j) (h32 : j < 32 ∨ 32 + a ≤ j) : passG a g j = g j := by
  unfold passG
  rw [if_neg h3, if_neg h2, if_neg (by omega), if_neg (by omega)]
theorem passG_s {a k : Nat} (g : Nat → Int32) (hk : k < a) (ha : a ≤ 7) : passG a g (18 + k) = f_X12_goes (g (4 + k)) (g (18 + k)) (g 2) := by
  unfold passG
  rw [if_neg (by omega), if_neg (by omega), if_pos (by omega), Nat.add_sub_cancel_left]
theorem passG_m {a k : Nat} (g : Nat → Int32) (hk : k < a) (ha : a ≤ 7) : passG a g (32 + k) = moodS (g (32 + k)) := by
  unfold passG
  rw [if_neg (by omega), if_neg (by omega), if_neg (by omega), if_pos (by omega)]
theorem passDay_M {σ : Sg} {M a b c d e u : Nat} {g : Nat → Int32} (hn : Nm g a b c d e u) (hw : Wf g a b d e u) (hr : Rw σ M g a b c d e u) : ∃ τ, f_X4_passDay σ (M + 17) (M + 1) = some τ ∧ Rw τ M (passG a g) a b c d e u ∧ Only M (M + 22) σ τ := by
  obtain ⟨⟨n0, ha⟩, ⟨n1, hb⟩, ⟨n2, hc⟩, ⟨n3, hd⟩, ⟨n4, he⟩, n5, hu⟩ := hn
  obtain ⟨r1, r2, r3, r4, r5, r6, r7, r8, r9, r10, r11, r12⟩ := hr
  obtain ⟨τ, e1, e2, e3, e4, e5, e6⟩ := passDay_loop (k0 := M + 17) (k1 := M + 1) (d := g 2) (by omega) ha (fun j hj => ((hw.2.2.2.2.1.1 j (by omega)).1 hj).1) (fun j hj => ((hw.2.2.2.2.1.1 j (by omega)).1 hj).2) (fun j hj => (hw.1 j hj).1) a 0 FU σ (by omega) (by unfold FU; omega) (r11.cong (fun j hj => (if_neg (by omega)).symm)) (r12.cong (fun j hj => (if_neg (by omega)).symm)) r1 r9
  have hs : ∀ k j, (k < M + 17 ∨ M + 22 ≤ k) → rI τ k j = rI σ k j := fun k j hk => (e6 k (by omega)).1 j
  refine ⟨τ, e1, ⟨?_, ?_, ?_, ?_, ?_, ?_, ?_, ?_, ?_, ?_, ?_, ?_⟩, e6.mono (by omega) (by omega)⟩
  · exact r1.res (fun k j hk => hs k j (by omega)) (fun j hj => (passG_o g (by omega) (by omega) (by omega) (by omega)).symm)
  · exact r2.res (fun k j hk => hs k j (by omega)) (fun j hj => (passG_o g (by omega) (by omega) (by omega) (by omega)).symm)
  · exact r3.res (fun k j hk => hs k j (by omega)) (fun j hj => (passG_o g (by omega) (by omega) (by omega) (by omega)).symm)
  · exact r4.res (fun k j hk => hs k j (by omega)) (fun j hj => (passG_o g (by omega) (by omega) (by omega) (by omega)).symm)
  · exact r5.res (fun k j hk => hs k j (by omega)) (fun j hj => (passG_o g (by omega) (by omega) (by omega) (by omega)).symm)
  · exact r6.res (fun k j hk => hs k j (by omega)) (fun j hj => (passG_o g (by omega) (by omega) (by omega) (by omega)).symm)
  · exact r7.res (fun k j hk => hs k j (by omega)) (fun j hj => (passG_o g (by omega) (by omega) (by omega) (by omega)).symm)
  · exact r8.res (fun k j hk => hs k j (by omega)) (fun j hj => (passG_o g (by omega) (by omega) (by omega) (by omega)).symm)
  · rw [e4]; rfl
  · rw [e5]; rfl
  · exact e2.cong (fun j hj => (passG_s g hj ha).symm)
  · exact e3.cong (fun j hj => (passG_m g hj ha).symm)
theorem pass_nm {g : Nat → Int32} {a b c d e u : Nat} (hn : Nm g a b c d e u) : Nm (passG a g) a b c d e u := by
  obtain ⟨⟨n0, ha⟩, ⟨n1, hb⟩, ⟨n2, hc⟩, ⟨n3, hd⟩, ⟨n4, he⟩, n5, hu⟩ := hn
  refine ⟨⟨?_, ha⟩, ⟨?_, hb⟩, ⟨?_, hc⟩, ⟨?_, hd⟩, ⟨?_, he⟩, ?_, hu⟩
  · rw [passG_o g (by omega) (by omega) (by omega) (by omega), n0]
  · rw [passG_o g (by omega) (by omega) (by omega) (by omega), n1]
  · rw [passG_o g (by omega) (by omega) (by omega) (by omega), n2]
  · rw [passG_o g (by omega) (by omega) (by omega) (by omega), n3]
  · rw [passG_o g (by omega) (by omega) (by omega) (by omega), n4]
  · rw [passG_o g (by omega) (by omega) (by omega) (by omega), n5]
theorem pass_wf {g : Nat → Int32} {a b d e u : Nat} (ha : a ≤ 7) (hb : b ≤ 4) (hd : d ≤ 6) (he : e ≤ 6) (hu : u ≤ 8) (hw : Wf g a b d e u) (hday : g 2 ≠ nI 9999) : Wf (passG a g) a b d e u := by
  obtain ⟨w1, w2, w3, w4, w5, w6⟩ := hw
  refine ⟨fun k hk => ?_, fun k hk => ?_, fun i hi => ?_, fun i hi => ?_, ⟨fun k hk => ⟨fun h5 => ?_, fun h5 => ?_⟩, ?_, ?_⟩, fun i hi => ?_⟩
  · rw [passG_o g (by omega) (by omega) (by omega) (by omega), passG_o g (by omega) (by omega) (by omega) (by omega), passG_o g (by omega) (by omega) (by omega) (by omega)]; exact w1 k hk
  · rw [passG_o g (by omega) (by omega) (by omega) (by omega)]; exact w2 k hk
  · rw [passG_o g (by omega) (by omega) (by omega) (by omega)]; exact w3 i hi
  · rw [passG_o g (by omega) (by omega) (by omega) (by omega), passG_o g (by omega) (by omega) (by omega) (by omega)]; exact w4 i hi
  · rw [passG_s g h5 ha, passG_m g h5 ha]
    obtain ⟨⟨x, x1, x2, x3⟩, hm⟩ := (w5.1 k hk).1 h5
    obtain ⟨y, _, y2, y3⟩ := (w1 k h5).1
    refine ⟨?_, (moodS_in hm).2⟩
    rw [x3, y3]
    exact (goes_same _ y2 x1 x2).2
  · rw [passG_o g (by omega) (by omega) (by omega) (by omega), passG_o g (by omega) (by omega) (by omega) (by omega)]
    exact (w5.1 k hk).2 h5
  · exact ⟨0, by omega, by omega, rfl⟩
  · obtain ⟨x, _, x2, x3⟩ := w5.2.2
    have : x ≠ 9999 := fun z => hday (by rw [x3, z])
    refine ⟨x + 1, by omega, by omega, ?_⟩
    show g 2 + 1 = _
    rw [x3, nI_1]
  · have w7 := w6 i hi
    refine ⟨fun k hk => ?_, ?_, ?_⟩
    · rw [passG_o g (by omega) (by omega) (by omega) (by omega), passG_o g (by omega) (by omega) (by omega) (by omega)]; exact w7.1 k hk
    · rw [passG_o g (by omega) (by omega) (by omega) (by omega)]; exact w7.2.1
    · rw [passG_o g (by omega) (by omega) (by omega) (by omega)]; exact w7.2.2
theorem passes_loop {r a : Nat} {g : Nat → Int32} (hr : r ≤ 723) (ha : a ≤ 7) (g0 : g 0 = nI a) : ∀ (t i fu : Nat) (σ : Sg), t + i = a → t < fu → (∀ j, rI σ 113 (r + j) = if 18 ≤ j ∧ j < 18 + i then f_X12_goes (g (4 + (j - 18))) (g j) (g 2) else if 32 ≤ j ∧ j < 32 + i then moodS (g j) else g j) → ∃ τ, b_X12_passes_17 (nI r) fu σ (nI i) = some τ ∧ (∀ j, rI τ 113 (r + j) = passG a g j) ∧ Un (fun a j => a = 113 ∧ r ≤ j ∧ j < r + 241) σ τ := by
  intro t
  induction t with
  | zero =>
    intro i fu σ ht hfu hg
    obtain ⟨fu, rfl⟩ : ∃ q, fu = q + 1 := ⟨fu - 1, by omega⟩
    have e0 : rI σ 113 r = nI a := by
      have := hg 0
      rw [if_neg (by omega), if_neg (by omega), g0] at this
      exact this
    have e2 : rI σ 113 (r + 2) = g 2 := by rw [hg, if_neg (by omega), if_neg (by omega)]
    refine ⟨stI (stI σ 113 (r + 3) 0) 113 (r + 2) (g 2 + 1), ?_, fun j => ?_, (Un.stI _ _ _ _ ⟨rfl, by omega, by omega⟩).trans (Un.stI _ _ _ _ ⟨rfl, by omega, by omega⟩)⟩
    · rw [b_X12_passes_17]
      simp (disch := omega) only [L0, L2, L3, nI_add, Nat.add_zero, i113, if_true, ix_nI, e0, leT, nam_e, rI_nj, e2]
    · rw [rI_stI, rI_stI, hg]
      unfold passG
      by_cases q3 : j = 3
      · rw [if_neg (by omega), if_pos (by omega), if_pos q3]
      · by_cases q2 : j = 2
        · rw [if_pos (by omega), if_neg q3, if_pos q2]
        · rw [if_neg (by omega), if_neg (by omega), if_neg q3, if_neg q2, show i = a by omega]
  | succ t ih =>
    intro i fu σ ht hfu hg
    obtain ⟨fu, rfl⟩ : ∃ q, fu = q + 1 := ⟨fu - 1, by omega⟩
    have e0 : rI σ 113 r = nI a := by
      have := hg 0
      rw [if_neg (by omega), if_neg (by omega), g0] at this
      exact this
    have e2 : rI σ 113 (r + 2) = g 2 := by rw [hg, if_neg (by omega), if_neg (by omega)]
    have e4 : rI σ 113 (r + (4 + i)) = g (4 + i) := by rw [hg, if_neg (by omega), if_neg (by omega)]
    have e18 : rI σ 113 (r + (18 + i)) = g (18 + i) := by rw [hg, if_neg (by omega), if_neg (by omega)]
    have e32 : rI σ 113 (r + (32 + i)) = g (32 + i) := by rw [hg, if_neg (by omega), if_neg (by omega)]
    obtain ⟨τ, k1, k2, k3⟩ := ih (i + 1) fu (stI (stI σ 113 (r + (18 + i)) (f_X12_goes (g (4 + i)) (g (18 + i)) (g 2))) 113 (r + (32 + i)) (moodS (g (32 + i)))) (by omega) (by omega) (fun j => by
      rw [rI_stI, rI_stI, hg]
      by_cases q1 : j = 32 + i
      · subst q1
        rw [if_pos ⟨rfl, rfl⟩, if_neg (by omega), if_pos (by omega)]
      · by_cases q2 : j = 18 + i
        · subst q2
          rw [if_neg (by omega), if_pos ⟨rfl, rfl⟩, if_pos (by omega), Nat.add_sub_cancel_left]
        · rw [if_neg (by omega), if_neg (by omega)]
          by_cases q3 : 18 ≤ j ∧ j < 18 + i
          · rw [if_pos q3, if_pos (by omega)]
          · rw [if_neg q3, if_neg (show ¬ (18 ≤ j ∧ j < 18 + (i + 1)) by omega)]
            by_cases q4 : 32 ≤ j ∧ j < 32 + i
            · rw [if_pos q4, if_pos (by omega)]
            · rw [if_neg q4, if_neg (by omega)])
    refine ⟨τ, ?_, k2, ((Un.stI _ _ _ _ ⟨rfl, by omega, by omega⟩).trans (Un.stI _ _ _ _ ⟨rfl, by omega, by omega⟩)).trans k3⟩
    rw [b_X12_passes_17]
    unfold b_X12_passes_117
    simp (disch := omega) only [L0, L2, L4, L18, L32, nI_add, Nat.add_assoc, Nat.add_zero, i113, if_true, ix_nI, e0, leF, if_false, nam_e, e2, e4, e18, e32, nI_1]
    by_cases p1 : g (32 + i) ≤ 5
    · by_cases p2 : 5 ≤ g (32 + i)
      · rw [if_pos p1, if_pos p2]
        rw [show moodS (g (32 + i)) = 5 by unfold moodS; rw [if_pos p1, if_pos p2]] at k1
        exact k1
      · rw [if_pos p1, if_neg p2]
        rw [show moodS (g (32 + i)) = g (32 + i) + 1 by unfold moodS; rw [if_pos p1, if_neg p2]] at k1
        exact k1
    · rw [if_neg p1]
      rw [show moodS (g (32 + i)) = g (32 + i) - 1 by unfold moodS; rw [if_neg p1]] at k1
      exact k1
def dayG (a : Nat) (g : Nat → Int32) : Nat → Int32 := if g 2 = nI 9999 then g else passG a g
theorem passes_r {σ : Sg} {r a : Nat} (hr : r ≤ 723) (ha : a ≤ 7) (g0 : rI σ 113 r = nI a) : ∃ τ, f_X12_passes σ (nI r) = some τ ∧ (∀ j, rI τ 113 (r + j) = dayG a (fun j => rI σ 113 (r + j)) j) ∧ Un (fun a j => a = 113 ∧ r ≤ j ∧ j < r + 241) σ τ := by
  unfold f_X12_passes dayG
  rw [L2, nI_add, if_pos (i113 (by omega)), ix_nI (by omega), L9999]
  by_cases q : rI σ 113 (r + 2) = nI 9999
  · rw [if_pos q, if_pos q]
    exact ⟨σ, rfl, fun _ => rfl, Un.rf⟩
  · rw [if_neg q, if_neg q]
    exact passes_loop hr ha (g := fun j => rI σ 113 (r + j)) g0 a 0 FU σ (by omega) (by unfold FU; omega) (fun j => by rw [if_neg (by omega), if_neg (by omega)])
