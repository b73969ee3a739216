/-! ===== watch ===== -/
def stD (g : Int32) (d : Nat) : Nat → Int32 := fun k => f_X12_goes (nI k) g (nI d)
theorem PI_gr {σ : Sg} {L : List Int32} (h : PI σ L) : f_X6_greatestPart σ = nI (gr L) := by
  obtain ⟨n, f, c, _, _, _, _, _, _, h6⟩ := h
  exact h6
theorem dayC_in {x d : Nat} (b : Int32) (c8 : Sg → Int32 → Int32 → Int32 → Option (Int32 × Sg)) {o : Option (Nat × Nat)} (hx : 1 ≤ x) (hx2 : x ≤ 250) (ho : oG o) : ∀ (t i fu : Nat) (σ : Sg) (L : List Int32), t + i = 6 → t < fu → PI σ L → L.length + t ≤ 14 → ∃ τ, b_X1_bestDay_22 b (nI x) c8 fu σ (oB o) (oC o) (nI d) (nI i) = c8 τ (oB (oS o d (gr (fo (wL (stD (nI x) d) b) i t L)))) (oC (oS o d (gr (fo (wL (stD (nI x) d) b) i t L)))) (nI (d + 1)) ∧ Only 107 112 σ τ := by
  intro t
  induction t with
  | zero =>
    intro i fu σ L ht hf h hL
    obtain ⟨fu, rfl⟩ : ∃ q, fu = q + 1 := ⟨fu - 1, by omega⟩
    have hl := gr_len L
    refine ⟨σ, ?_, Only.rf⟩
    rw [b_X1_bestDay_22, if_pos (show (6 : Int32) ≤ nI i from nI_le (a := 6) (by omega) (by omega)), PI_gr h]
    unfold b_X1_bestDay_70 b_X1_bestDay_79
    simp only [nam_e, nI_1]
    rw [PI_gr h]
    exact best_c (m := gr L) (fun a b => c8 σ a b (nI (d + 1))) ho (by omega)
  | succ t ih =>
    intro i fu σ L ht hf h hL
    obtain ⟨fu, rfl⟩ : ∃ q, fu = q + 1 := ⟨fu - 1, by omega⟩
    rw [b_X1_bestDay_22, if_neg (show ¬ (6 : Int32) ≤ nI i from nI_ge (b := 6) (by omega) (by omega)), hasBit_has _ (by omega), fo_s]
    unfold b_X1_bestDay_50
    simp only [nam_e, nI_1]
    by_cases q : f_X12_has b (nI i) = 0
    · rw [if_pos q, show wL (stD (nI x) d) b i L = L from if_pos q]
      exact ih (i + 1) fu σ L (by omega) (by omega) h (by omega)
    · obtain ⟨s1, a1, b1, c1⟩ := parts_add (stD (nI x) d i) h (by omega)
      obtain ⟨τ, k1, k2⟩ := ih (i + 1) fu s1 (stD (nI x) d i :: L) (by omega) (by omega) b1 (by rw [List.length_cons]; omega)
      rw [if_neg q, show wL (stD (nI x) d) b i L = stD (nI x) d i :: L from if_neg q, (goes_same (nI d) (show i ≤ 5 by omega) hx hx2).1, show f_X6_add σ (f_X12_goes (nI i) (nI x) (nI d)) = some s1 from a1, ob_some]
      exact ⟨τ, k1, c1.trans k2⟩
theorem dayC_out {x : Nat} (b : Int32) (hx : 1 ≤ x) (hx2 : x ≤ 250) : ∀ (t i fu : Nat) (σ : Sg) (o : Option (Nat × Nat)), t + i = 12 → t < fu → oG o → ∃ τ, b_X1_bestDay_8 b (nI x) fu σ (oB o) (oC o) (nI i) = some (oB (fo (fun d o => oS o d (gr (fo (wL (stD (nI x) d) b) 0 6 []))) i t o), τ) ∧ Only 107 112 σ τ := by
  intro t
  induction t with
  | zero =>
    intro i fu σ o ht hf ho
    obtain ⟨fu, rfl⟩ : ∃ q, fu = q + 1 := ⟨fu - 1, by omega⟩
    refine ⟨σ, ?_, Only.rf⟩
    rw [b_X1_bestDay_8, if_pos (show (11 : Int32) < nI i from nI_lt (a := 11) (by omega) (by omega))]
    rfl
  | succ t ih =>
    intro i fu σ o ht hf ho
    obtain ⟨fu, rfl⟩ : ∃ q, fu = q + 1 := ⟨fu - 1, by omega⟩
    obtain ⟨s1, a1, b1, c1⟩ := parts_restart σ
    obtain ⟨s2, a2, c2⟩ := dayC_in (d := i) b (b_X1_bestDay_8 b (nI x) fu) hx hx2 ho 6 0 FU s1 [] (by omega) (by unfold FU; omega) b1 (by decide)
    have hl := wL_len (stD (nI x) i) b 6 0 []
    have hl2 := gr_len (fo (wL (stD (nI x) i) b) 0 6 [])
    rw [List.length_nil] at hl
    obtain ⟨τ, k1, k2⟩ := ih (i + 1) fu s2 (oS o i (gr (fo (wL (stD (nI x) i) b) 0 6 []))) (by omega) (by omega) (oG_S ho (by omega) (by omega))
    refine ⟨τ, ?_, (c1.trans c2).trans k2⟩
    rw [b_X1_bestDay_8, if_neg (show ¬ (11 : Int32) < nI i from nI_nlt (a := 11) (b := i) (by omega) (by omega)), a1, ob_some, fo_s]
    exact (show b_X1_bestDay_22 b (nI x) (b_X1_bestDay_8 b (nI x) fu) FU s1 (oB o) (oC o) (nI i) (nI 0) = _ from a2).trans k1
theorem Pz_w {σ τ : Sg} (h : Un Pz σ τ) (j : Nat) : rI τ 113 j = rI σ 113 j := (h 113 j (by unfold Pz; omega)).1
theorem dayR_in {x d k : Nat} (b : Int32) (c30 : Sg → Int32 → Int32 → Int32 → Int32 → Option (Int32 × Sg)) {o : Option (Nat × Nat)} (hk : k < 7) (hx : 1 ≤ x) (hx2 : x ≤ 250) (ho : oG o) : ∀ (t i fu : Nat) (σ : Sg) (L : List Int32), t + i = 6 → t < fu → QI σ L → rI σ 113 (18 + k) = nI x → L.length + t ≤ 14 → (∀ v, v ∈ L → ∃ j, j < 300 ∧ v = nI j) → ∃ τ, b_X12_watch_48 (nI k) c30 fu σ b (oB o) (oR o) (nI d) (nI i) = c30 τ b (oB (oS o d (gr (fo (wL (stD (nI x) d) b) i t L)))) (oR (oS o d (gr (fo (wL (stD (nI x) d) b) i t L)))) (nI (d + 1)) ∧ Un Pz σ τ := by
  intro t
  induction t with
  | zero =>
    intro i fu σ L ht hf h hg hL hv
    obtain ⟨fu, rfl⟩ : ∃ q, fu = q + 1 := ⟨fu - 1, by omega⟩
    have hl := gr_len L
    refine ⟨σ, ?_, Un.rf⟩
    rw [b_X12_watch_48, if_pos (show (6 : Int32) ≤ nI i from nI_le (a := 6) (by omega) (by omega)), greatP h (by omega) hv, ob_some]
    unfold b_X12_watch_118 b_X12_watch_133
    simp only [nam_e, nI_1]
    exact best_r (m := gr L) (fun a b' => c30 σ b a b' (nI (d + 1))) ho (by omega)
  | succ t ih =>
    intro i fu σ L ht hf h hg hL hv
    obtain ⟨fu, rfl⟩ : ∃ q, fu = q + 1 := ⟨fu - 1, by omega⟩
    obtain ⟨y, y1, y2, y3⟩ := (goes_same (nI d) (show i ≤ 5 by omega) hx hx2).2
    have e1 : inb (18 + nI k) (kLen 113) = true := by rw [L18, nI_add]; exact i113 (by omega)
    have e2 : rI σ 113 (ix (18 + nI k)) = nI x := by rw [L18, nI_add, ix_nI (by omega)]; exact hg
    have e3 : stD (nI x) d i = nI y := y3
    rw [b_X12_watch_48, if_neg (show ¬ (6 : Int32) ≤ nI i from nI_ge (b := 6) (by omega) (by omega)), if_pos e1, e2, y3, if_pos (i120 (by omega)), ix_nI (by omega), fo_s]
    unfold b_X12_watch_91
    rw [if_pos (i120 (show y < 300 by omega)), if_pos (i120 (show y < 300 by omega)), ix_nI (by omega)]
    simp only [nam_e, nI_1]
    by_cases q : f_X12_has b (nI i) = 0
    · rw [if_pos q, show wL (stD (nI x) d) b i L = L from if_pos q]
      obtain ⟨τ, k1, k2⟩ := ih (i + 1) fu (stI σ 120 y (rI σ 120 y + 0)) L (by omega) (by omega) (QI_zero h) (by rw [rI_ne _ _ (by omega)]; exact hg) (by omega) hv
      exact ⟨τ, k1, (Un.stI σ 120 y _ rfl).trans k2⟩
    · rw [if_neg q, show wL (stD (nI x) d) b i L = nI y :: L from (if_neg q).trans (by rw [e3])]
      obtain ⟨τ, k1, k2⟩ := ih (i + 1) fu (stI σ 120 y (rI σ 120 y + 1)) (nI y :: L) (by omega) (by omega) (QI_add h (by omega)) (by rw [rI_ne _ _ (by omega)]; exact hg) (by rw [List.length_cons]; omega) (fun v hv2 => by
        rcases List.mem_cons.mp hv2 with rfl | hv2
        · exact ⟨y, by omega, rfl⟩
        · exact hv v hv2)
      exact ⟨τ, k1, (Un.stI σ 120 y _ rfl).trans k2⟩
theorem dayR_out {x k z : Nat} (hz : 0 < z) (hz2 : z < 64) (hk : k < 7) (hx : 1 ≤ x) (hx2 : x ≤ 250) : ∀ (t i fu : Nat) (σ : Sg) (o : Option (Nat × Nat)), t + i = 12 → t < fu → oG o → rI σ 113 (18 + k) = nI x → ∃ τ, b_X12_watch_30 (nI k) fu σ (nI z) (oB o) (oR o) (nI i) = some (oB (fo (fun d o => oS o d (gr (fo (wL (stD (nI x) d) (nI z)) 0 6 []))) i t o), τ) ∧ Un Pz σ τ := by
  intro t
  induction t with
  | zero =>
    intro i fu σ o ht hf ho hg
    obtain ⟨fu, rfl⟩ : ∃ q, fu = q + 1 := ⟨fu - 1, by omega⟩
    refine ⟨σ, ?_, Un.rf⟩
    rw [b_X12_watch_30, if_pos (show (12 : Int32) ≤ nI i from nI_le (a := 12) (by omega) (by omega))]
    rfl
  | succ t ih =>
    intro i fu σ o ht hf ho hg
    obtain ⟨fu, rfl⟩ : ∃ q, fu = q + 1 := ⟨fu - 1, by omega⟩
    obtain ⟨s1, a1, b1, c1⟩ := empP σ
    obtain ⟨s2, a2, c2⟩ := dayR_in (d := i) (nI z) (b_X12_watch_30 (nI k) fu) hk hx hx2 ho 6 0 FU s1 [] (by omega) (by unfold FU; omega) b1 ((Pz_w c1 _).trans hg) (by decide) (fun v hv => by cases hv)
    have hl := wL_len (stD (nI x) i) (nI z) 6 0 []
    have hl2 := gr_len (fo (wL (stD (nI x) i) (nI z)) 0 6 [])
    rw [List.length_nil] at hl
    obtain ⟨τ, k1, k2⟩ := ih (i + 1) fu s2 (oS o i (gr (fo (wL (stD (nI x) i) (nI z)) 0 6 []))) (by omega) (by omega) (oG_S ho (by omega) (by omega)) ((Pz_w c2 _).trans ((Pz_w c1 _).trans hg))
    refine ⟨τ, ?_, (c1.trans c2).trans k2⟩
    rw [b_X12_watch_30, if_neg (show ¬ (12 : Int32) ≤ nI i from nI_ge (b := 12) (by omega) (by omega)), if_neg (show ¬ nI z ≤ 0 from nI_nle hz (by omega)), a1, ob_some, fo_s]
    exact (show b_X12_watch_48 (nI k) (b_X12_watch_30 (nI k) fu) FU s1 (nI z) (oB o) (oR o) (nI i) (nI 0) = _ from a2).trans k1
theorem m_watch {σ : Sg} (h : Inv σ) (v : Int32) : Sim (fun s => f_X11_watch s v) (fun s => f_X12_watch s v) σ := by
  by_cases q1 : f_X11_between v 0 (rI σ 113 0 - 1) = 0
  · refine ref_bad h (-2) id ?_ (fun τ ht => ?_)
    · show f_X11_watch σ v = _
      unfold f_X11_watch; rw [hasK_c h, if_pos q1]; rfl
    · show f_X12_watch τ v = _
      unfold f_X12_watch; rw [isK_r, ht 113 0 (by omega), ob_some, if_pos q1]; rfl
  obtain ⟨z, z1, e1, e2⟩ := kindsN h v
  by_cases qz : z = 0
  · subst qz
    refine Sim.pure h (-1) ?_ ?_
    · show f_X11_watch σ v = _
      unfold f_X11_watch
      rw [hasK_c h, if_neg q1, e1, ob_some, if_pos (show nI 0 = 0 from rfl)]
    · show f_X12_watch σ v = _
      unfold f_X12_watch
      rw [isK_r, ob_some, if_neg q1, e2 σ (fun _ => rfl), ob_some]
      obtain ⟨fu, hfu⟩ : ∃ q, FU = q + 1 := ⟨999999, rfl⟩
      rw [hfu, b_X12_watch_30, if_neg (by decide), if_pos (show nI 0 ≤ 0 by decide)]
  obtain ⟨a, b, c, d, e, u, hn, hw, hr⟩ := h.1
  obtain ⟨⟨n0, ha⟩, _⟩ := hn
  have q1' := q1
  rw [n0] at q1'
  obtain ⟨k, hk, rfl⟩ := hk_of (by omega) q1'
  obtain ⟨r1, r2, r3, r4, r5, r6, r7, r8, r9, r10, r11, r12⟩ := hr
  obtain ⟨x, x1, x2, x3⟩ := ((hw.2.2.2.2.1.1 k (by omega)).1 hk).1
  obtain ⟨s1, a1, c1⟩ := dayC_out (nI z) x1 x2 12 0 FU σ none (by omega) (by unfold FU; omega) oG_0
  have hc : Un Pc σ s1 := c1.un (fun a j p q => by unfold Pc; omega)
  have hs : ∀ j, rI s1 113 j = rI σ 113 j := fun j => (c1 113 (by omega)).1 j
  obtain ⟨s2, a2, c2⟩ := dayR_out (k := k) (z := z) (by omega) z1 (by omega) x1 x2 12 0 FU s1 none (by omega) (by unfold FU; omega) oG_0 ((hs _).trans x3)
  refine ⟨oB (fo (fun d o => oS o d (gr (fo (wL (stD (nI x) d) (nI z)) 0 6 []))) 0 12 none), s1, s2, ?_, ?_, Inv_pass h (hc.trans (c2.mono (fun a j q => by unfold Pz at q; unfold Pc; omega)))⟩
  · show f_X11_watch σ (nI k) = _
    unfold f_X11_watch
    rw [hasK_c h, if_neg q1, e1, ob_some, if_neg (nI_ne0 (by omega) (by omega)), show f_X7_at σ 19 (nI k) = some (rI σ 113 (18 + k)) from at_in r11 hk, ob_some, x3, show f_X1_bestDay σ (nI z) (nI x) = _ from a1, bnd_some]
  · show f_X12_watch s1 (nI k) = _
    unfold f_X12_watch
    rw [isK_r, hs 0, ob_some, if_neg q1, e2 s1 hs, ob_some]
    exact a2
