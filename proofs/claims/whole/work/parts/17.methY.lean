/-! ===== lay ===== -/
def tp3 (v : Int32) : Prop := v = 0 ∨ v = 1 ∨ v = -1
theorem tp3_true (x y : Int32) : tp3 (f_X12_trueTip x y) := by
  unfold f_X12_trueTip
  split
  · split
    · exact Or.inl rfl
    · exact Or.inr (Or.inr rfl)
  · exact Or.inr (Or.inl rfl)
theorem tp3_neg {v : Int32} (h : tp3 v) : tp3 (-v) := by
  rcases h with rfl | rfl | rfl
  · exact Or.inl (by decide)
  · exact Or.inr (Or.inr rfl)
  · exact Or.inr (Or.inl (by decide))
theorem tp3_stiff (x y : Int32) : tp3 (f_X12_stiffTip x y) := by
  unfold f_X12_stiffTip
  split
  · exact tp3_true x y
  · exact Or.inl rfl
theorem tp3_tip (k x y : Int32) : tp3 (f_X12_tipOf k x y) := by
  unfold f_X12_tipOf
  by_cases h1 : k = 1
  · rw [if_pos h1]; exact tp3_stiff _ _
  rw [if_neg h1]
  by_cases h2 : k = 2
  · rw [if_pos h2]; exact tp3_true _ _
  rw [if_neg h2]
  by_cases h3 : k = 3
  · rw [if_pos h3]
    by_cases w : (x + y) - (x + y) / 2 * 2 = 1
    · rw [if_pos w]; exact tp3_neg (tp3_true _ _)
    · rw [if_neg w]; exact tp3_true _ _
  rw [if_neg h3]
  by_cases h4 : k = 4
  · rw [if_pos h4]
    by_cases w : y = 0
    · rw [if_pos w]; exact Or.inl rfl
    · rw [if_neg w]; exact tp3_stiff _ _
  rw [if_neg h4]
  by_cases h5 : k = 5
  · rw [if_pos h5]; exact tp3_neg (tp3_true _ _)
  · rw [if_neg h5]; exact tp3_true _ _
theorem tp3_1 {v : Int32} (h : tp3 v) : ∃ j, j < 3 ∧ 1 + v = nI j := by
  rcases h with rfl | rfl | rfl
  · exact ⟨1, by omega, by decide⟩
  · exact ⟨2, by omega, by decide⟩
  · exact ⟨0, by omega, by decide⟩
def tS (d : Nat) : Nat → Int32 := fun k => f_X12_tipOf (nI k) (nI (d / 10)) (nI (d % 10))
theorem layC_add {l r : Nat} (b : Int32) (hl : l ≤ 9) (hr : r ≤ 9) : ∀ (t i fu : Nat) (σ : Sg) (L : List Int32), t + i = 6 → t < fu → PI σ L → L.length + t ≤ 14 → ∃ τ, b_X1_addTipsOfKinds_3 b (nI l) (nI r) fu σ (nI i) = some τ ∧ PI τ (fo (wL (tS (10 * l + r)) b) i t L) ∧ Only 107 112 σ τ := by
  intro t
  induction t with
  | zero =>
    intro i fu σ L ht hf h hL
    obtain ⟨fu, rfl⟩ : ∃ q, fu = q + 1 := ⟨fu - 1, by omega⟩
    refine ⟨σ, ?_, h, Only.rf⟩
    rw [b_X1_addTipsOfKinds_3, if_pos (show (6 : Int32) ≤ nI i from nI_le (a := 6) (by omega) (by omega))]
  | succ t ih =>
    intro i fu σ L ht hf h hL
    obtain ⟨fu, rfl⟩ : ∃ q, fu = q + 1 := ⟨fu - 1, by omega⟩
    have e1 : tS (10 * l + r) i = f_X12_tipOf (nI i) (nI l) (nI r) := by
      unfold tS
      rw [show (10 * l + r) / 10 = l by omega, show (10 * l + r) % 10 = r by omega]
    rw [b_X1_addTipsOfKinds_3, if_neg (show ¬ (6 : Int32) ≤ nI i from nI_ge (b := 6) (by omega) (by omega)), hasBit_has _ (by omega), fo_s]
    unfold b_X1_addTipsOfKinds_30
    simp only [nam_e, nI_1]
    by_cases q : f_X12_has b (nI i) = 0
    · rw [if_pos q, show wL (tS (10 * l + r)) b i L = L from if_pos q]
      exact ih (i + 1) fu σ L (by omega) (by omega) h (by omega)
    · obtain ⟨s1, a1, b1, c1⟩ := parts_add (tS (10 * l + r) i) h (by omega)
      obtain ⟨τ, k1, k2, k3⟩ := ih (i + 1) fu s1 (tS (10 * l + r) i :: L) (by omega) (by omega) b1 (by rw [List.length_cons]; omega)
      rw [if_neg q, show wL (tS (10 * l + r)) b i L = tS (10 * l + r) i :: L from if_neg q, tip_kind (show i ≤ 5 by omega) (show l ≤ 2000 by omega) (show r ≤ 2000 by omega), ← e1, a1, ob_some]
      exact ⟨τ, k1, k2, c1.trans k3⟩
/-- what the question d leaves at worst -/
def tM (b : Int32) (d : Nat) : Nat := gr (fo (wL (tS d) b) 0 6 [])
theorem tM_le (b : Int32) (d : Nat) : tM b d ≤ 6 := by
  have hl := wL_len (tS d) b 6 0 []
  have hl2 := gr_len (fo (wL (tS d) b) 0 6 [])
  rw [List.length_nil] at hl
  unfold tM
  omega
def oT (b : Int32) : Nat → Option (Nat × Nat) → Option (Nat × Nat) := fun d o => oS o d (tM b d)
theorem layC_in {l : Nat} (b : Int32) (c7 : Sg → Int32 → Int32 → Int32 → Option (Int32 × Sg)) (hl : l ≤ 9) : ∀ (t r fu : Nat) (σ : Sg) (o : Option (Nat × Nat)), t + r = 10 → t < fu → oG o → ∃ τ, b_X1_bestGrains_17 b c7 fu σ (oB o) (oC o) (nI l) (nI r) = c7 τ (oB (fo (oT b) (10 * l + r) t o)) (oC (fo (oT b) (10 * l + r) t o)) (nI (l + 1)) ∧ oG (fo (oT b) (10 * l + r) t o) ∧ Only 107 112 σ τ := by
  intro t
  induction t with
  | zero =>
    intro r fu σ o ht hf ho
    obtain ⟨fu, rfl⟩ : ∃ q, fu = q + 1 := ⟨fu - 1, by omega⟩
    refine ⟨σ, ?_, ho, Only.rf⟩
    rw [b_X1_bestGrains_17, if_pos (show (9 : Int32) < nI r from nI_lt (a := 9) (by omega) (by omega)), nam_e, nI_1]
    rfl
  | succ t ih =>
    intro r fu σ o ht hf ho
    obtain ⟨fu, rfl⟩ : ∃ q, fu = q + 1 := ⟨fu - 1, by omega⟩
    have hm := tM_le b (10 * l + r)
    obtain ⟨s1, a1, b1, c1⟩ := parts_restart σ
    obtain ⟨s2, a2, b2, c2⟩ := layC_add b hl (show r ≤ 9 by omega) 6 0 FU s1 [] (by omega) (by unfold FU; omega) b1 (by decide)
    obtain ⟨τ, k1, k2, k3⟩ := ih (r + 1) fu s2 (oT b (10 * l + r) o) (by omega) (by omega) (oG_S ho (by omega) (by omega))
    refine ⟨τ, ?_, k2, (c1.trans c2).trans k3⟩
    have hg : f_X6_greatestPart s2 = nI (tM b (10 * l + r)) := PI_gr b2
    rw [b_X1_bestGrains_17, if_neg (show ¬ (9 : Int32) < nI r from nI_nlt (a := 9) (b := r) (by omega) (by omega)), a1, ob_some, show f_X1_addTipsOfKinds s1 b (nI l) (nI r) = some s2 from a2, ob_some, hg, fo_s]
    unfold b_X1_bestGrains_50 b_X1_bestGrains_64
    simp only [nam_e, nI_1]
    rw [hg, L10, pk_mul, nI_add]
    exact (best_c (d := 10 * l + r) (m := tM b (10 * l + r)) (fun x y => b_X1_bestGrains_17 b c7 fu s2 x y (nI l) (nI (r + 1))) ho (by omega)).trans k1
theorem layC_out (b : Int32) : ∀ (t l fu : Nat) (σ : Sg) (o : Option (Nat × Nat)), t + l = 10 → t < fu → oG o → ∃ τ, b_X1_bestGrains_7 b fu σ (oB o) (oC o) (nI l) = some (oB (fo (oT b) (10 * l) (10 * t) o), τ) ∧ Only 107 112 σ τ := by
  intro t
  induction t with
  | zero =>
    intro l fu σ o ht hf ho
    obtain ⟨fu, rfl⟩ : ∃ q, fu = q + 1 := ⟨fu - 1, by omega⟩
    refine ⟨σ, ?_, Only.rf⟩
    rw [b_X1_bestGrains_7, if_pos (show (9 : Int32) < nI l from nI_lt (a := 9) (by omega) (by omega))]
    rfl
  | succ t ih =>
    intro l fu σ o ht hf ho
    obtain ⟨fu, rfl⟩ : ∃ q, fu = q + 1 := ⟨fu - 1, by omega⟩
    obtain ⟨s1, a1, b1, c1⟩ := layC_in b (b_X1_bestGrains_7 b fu) (show l ≤ 9 by omega) 10 0 FU σ o (by omega) (by unfold FU; omega) ho
    obtain ⟨τ, k1, k2⟩ := ih (l + 1) fu s1 (fo (oT b) (10 * l + 0) 10 o) (by omega) (by omega) b1
    refine ⟨τ, ?_, c1.trans k2⟩
    rw [b_X1_bestGrains_7, if_neg (show ¬ (9 : Int32) < nI l from nI_nlt (a := 9) (b := l) (by omega) (by omega)), show 10 * (t + 1) = 10 + 10 * t by omega, fo_add]
    exact (show b_X1_bestGrains_17 b (b_X1_bestGrains_7 b fu) FU σ (oB o) (oC o) (nI l) (nI 0) = _ from a1).trans k1
theorem layR_in {d : Nat} (l1 b : Int32) (c30 : Sg → Int32 → Int32 → Int32 → Int32 → Option (Int32 × Sg)) {o : Option (Nat × Nat)} (hd : d < 100) (ho : oG o) : ∀ (t i fu : Nat) (σ : Sg) (L : List Int32), t + i = 6 → t < fu → QI σ (L.map (fun v => 1 + v)) → L.length + t ≤ 14 → (∀ v, v ∈ L → tp3 v) → ∃ τ, b_X12_lay_48 l1 c30 fu σ b (oB o) (oR o) (nI d) (nI i) = c30 τ b (oB (oS o d (gr (fo (wL (tS d) b) i t L)))) (oR (oS o d (gr (fo (wL (tS d) b) i t L)))) (nI (d + 1)) ∧ Un Pz σ τ := by
  intro t
  induction t with
  | zero =>
    intro i fu σ L ht hf h hL hv
    obtain ⟨fu, rfl⟩ : ∃ q, fu = q + 1 := ⟨fu - 1, by omega⟩
    have hl := gr_len L
    refine ⟨σ, ?_, Un.rf⟩
    rw [b_X12_lay_48, if_pos (show (6 : Int32) ≤ nI i from nI_le (a := 6) (by omega) (by omega)), greatP h (by rw [List.length_map]; omega) (fun v hv2 => by
      obtain ⟨w, w1, rfl⟩ := List.mem_map.mp hv2
      obtain ⟨j, j1, j2⟩ := tp3_1 (hv w w1)
      exact ⟨j, by omega, j2⟩), ob_some, gr_map one_inj]
    unfold b_X12_lay_119 b_X12_lay_134
    simp only [nam_e, nI_1]
    exact best_r (m := gr L) (fun a b' => c30 σ b a b' (nI (d + 1))) ho (by omega)
  | succ t ih =>
    intro i fu σ L ht hf h hL hv
    obtain ⟨fu, rfl⟩ : ∃ q, fu = q + 1 := ⟨fu - 1, by omega⟩
    have ht3 : tp3 (tS d i) := tp3_tip _ _ _
    obtain ⟨y, y1, y2⟩ := tp3_1 ht3
    have e1 : 1 + f_X12_tipOf (nI i) (nI d / 10) (nI d - nI d / 10 * 10) = nI y := by
      rw [← y2, L10, pk_div (by omega) (by omega) (by omega), pk_mul, pk_sub (by omega)]
      unfold tS
      rw [show d - d / 10 * 10 = d % 10 by omega]
    rw [b_X12_lay_48, if_neg (show ¬ (6 : Int32) ≤ nI i from nI_ge (b := 6) (by omega) (by omega)), e1, if_pos (i120 (by omega)), ix_nI (by omega), fo_s]
    unfold b_X12_lay_92
    rw [if_pos (i120 (show y < 300 by omega)), if_pos (i120 (show y < 300 by omega)), ix_nI (by omega)]
    simp only [nam_e, nI_1]
    by_cases q : f_X12_has b (nI i) = 0
    · rw [if_pos q, show wL (tS d) b i L = L from if_pos q]
      obtain ⟨τ, k1, k2⟩ := ih (i + 1) fu (stI σ 120 y (rI σ 120 y + 0)) L (by omega) (by omega) (QI_zero h) (by omega) hv
      exact ⟨τ, k1, (Un.stI σ 120 y _ rfl).trans k2⟩
    · rw [if_neg q, show wL (tS d) b i L = tS d i :: L from if_neg q]
      obtain ⟨τ, k1, k2⟩ := ih (i + 1) fu (stI σ 120 y (rI σ 120 y + 1)) (tS d i :: L) (by omega) (by omega) (by rw [List.map_cons, y2]; exact QI_add h (by omega)) (by rw [List.length_cons]; omega) (fun v hv2 => by
        rcases List.mem_cons.mp hv2 with rfl | hv2
        · exact ht3
        · exact hv v hv2)
      exact ⟨τ, k1, (Un.stI σ 120 y _ rfl).trans k2⟩
theorem layR_out {z : Nat} (l1 : Int32) (hz : 0 < z) (hz2 : z < 64) : ∀ (t i fu : Nat) (σ : Sg) (o : Option (Nat × Nat)), t + i = 100 → t < fu → oG o → ∃ τ, b_X12_lay_30 l1 fu σ (nI z) (oB o) (oR o) (nI i) = some (oB (fo (oT (nI z)) i t o), τ) ∧ Un Pz σ τ := by
  intro t
  induction t with
  | zero =>
    intro i fu σ o ht hf ho
    obtain ⟨fu, rfl⟩ : ∃ q, fu = q + 1 := ⟨fu - 1, by omega⟩
    refine ⟨σ, ?_, Un.rf⟩
    rw [b_X12_lay_30, if_pos (show (100 : Int32) ≤ nI i from nI_le (a := 100) (by omega) (by omega))]
    rfl
  | succ t ih =>
    intro i fu σ o ht hf ho
    obtain ⟨fu, rfl⟩ : ∃ q, fu = q + 1 := ⟨fu - 1, by omega⟩
    have hm := tM_le (nI z) i
    obtain ⟨s1, a1, b1, c1⟩ := empP σ
    obtain ⟨s2, a2, c2⟩ := layR_in (d := i) l1 (nI z) (b_X12_lay_30 l1 fu) (by omega) ho 6 0 FU s1 [] (by omega) (by unfold FU; omega) b1 (by decide) (fun v hv => by cases hv)
    obtain ⟨τ, k1, k2⟩ := ih (i + 1) fu s2 (oT (nI z) i o) (by omega) (by omega) (oG_S ho (by omega) (by omega))
    refine ⟨τ, ?_, (c1.trans c2).trans k2⟩
    rw [b_X12_lay_30, if_neg (show ¬ (100 : Int32) ≤ nI i from nI_ge (b := 100) (by omega) (by omega)), if_neg (show ¬ nI z ≤ 0 from nI_nle hz (by omega)), a1, ob_some, fo_s]
    exact (show b_X12_lay_48 l1 (b_X12_lay_30 l1 fu) FU s1 (nI z) (oB o) (oR o) (nI i) (nI 0) = _ from a2).trans k1
theorem m_lay {σ : Sg} (h : Inv σ) (v : Int32) : Sim (fun s => f_X11_lay s v) (fun s => f_X12_lay s v) σ := by
  by_cases q1 : f_X11_between v 0 (rI σ 113 1 - 1) = 0
  · refine ref_bad h (-2) id ?_ (fun τ ht => ?_)
    · show f_X11_lay σ v = _
      unfold f_X11_lay; rw [hasB_c h, if_pos q1]; rfl
    · show f_X12_lay τ v = _
      unfold f_X12_lay; rw [isB_r, ht 113 1 (by omega), ob_some, if_pos q1]; rfl
  obtain ⟨z, z1, e1, e2⟩ := kindsT h v
  by_cases qz : z = 0
  · subst qz
    refine Sim.pure h (-1) ?_ ?_
    · show f_X11_lay σ v = _
      unfold f_X11_lay
      rw [hasB_c h, if_neg q1, e1, ob_some, if_pos (show nI 0 = 0 from rfl)]
    · show f_X12_lay σ v = _
      unfold f_X12_lay
      rw [isB_r, ob_some, if_neg q1, e2 σ (fun _ => rfl), ob_some]
      obtain ⟨fu, hfu⟩ : ∃ q, FU = q + 1 := ⟨999999, rfl⟩
      rw [hfu, b_X12_lay_30, if_neg (by decide), if_pos (show nI 0 ≤ 0 by decide)]
  obtain ⟨s1, a1, c1⟩ := layC_out (nI z) 10 0 FU σ none (by omega) (by unfold FU; omega) oG_0
  have hc : Un Pc σ s1 := c1.un (fun a j p q => by unfold Pc; omega)
  have hs : ∀ j, rI s1 113 j = rI σ 113 j := fun j => (c1 113 (by omega)).1 j
  obtain ⟨s2, a2, c2⟩ := layR_out (z := z) v (by omega) z1 100 0 FU s1 none (by omega) (by unfold FU; omega) oG_0
  refine ⟨oB (fo (oT (nI z)) 0 100 none), s1, s2, ?_, ?_, Inv_pass h (hc.trans (c2.mono (fun a j q => by unfold Pz at q; unfold Pc; omega)))⟩
  · show f_X11_lay σ v = _
    unfold f_X11_lay
    rw [hasB_c h, if_neg q1, e1, ob_some, if_neg (nI_ne0 (by omega) (by omega)), show f_X1_bestGrains σ (nI z) = _ from a1, bnd_some]
  · show f_X12_lay s1 v = _
    unfold f_X12_lay
    rw [isB_r, hs 1, ob_some, if_neg q1, e2 s1 hs, ob_some]
    exact a2
