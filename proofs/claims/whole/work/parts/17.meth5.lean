def Pt (a j : Nat) : Prop := a = 67 ∨ a = 68 ∨ (a = 112 ∧ j = 3) ∨ a = 115
theorem Inv_text {σ τ : Sg} (h : Inv σ) (ht : Tx τ) (hu : Un Pt σ τ) : Inv τ := by
  obtain ⟨hr, _, hk, ⟨hs1, hs2⟩, hs3, hs4, hs5⟩ := h
  refine ⟨(hr.same ?_).cong ?_, ht, hk.same ?_ ?_ ?_ ?_, ⟨?_, ?_⟩, ?_, ?_, ?_⟩
  · exact fun k j _ _ => (hu _ _ (by unfold Pt; omega)).1
  · exact fun j _ => ((hu _ _ (by unfold Pt; omega)).1).symm
  · exact fun j => (hu _ _ (by unfold Pt; omega)).1
  · exact (hu _ _ (by unfold Pt; omega)).1
  · exact fun k j _ _ => (hu _ _ (by unfold Pt; omega)).1
  · exact fun j _ _ => (hu _ _ (by unfold Pt; omega)).1
  · rw [(hu 0 10 (by unfold Pt; omega)).2, (hu 112 4 (by unfold Pt; omega)).2]; exact hs1
  · rw [(hu 0 11 (by unfold Pt; omega)).2, (hu 112 5 (by unfold Pt; omega)).2]; exact hs2
  · rw [(hu 0 12 (by unfold Pt; omega)).1, (hu 116 0 (by unfold Pt; omega)).1]; exact hs3
  · rw [(hu 0 13 (by unfold Pt; omega)).1, (hu 116 1 (by unfold Pt; omega)).1]; exact hs4
  · rw [(hu 0 14 (by unfold Pt; omega)).1, (hu 116 2 (by unfold Pt; omega)).1]; exact hs5
theorem m_type {σ : Sg} (h : Inv σ) (v : Int32) : Sim (fun s => f_X11_type s v) (fun s => f_X12_type s v) σ := by
  by_cases q1 : f_X11_between v 0 127 = 0
  · refine ref_bad h (-2) id ?_ (fun τ ht => ?_)
    · show f_X11_type σ v = _
      unfold f_X11_type; rw [if_pos q1]; rfl
    · show f_X12_type τ v = _
      unfold f_X12_type; rw [in_0_127, if_pos q1]; rfl
  obtain ⟨n, hn, e1, e2, e3⟩ := h.2.1
  have hf : f_X7_isFull σ 67 = if n < 150 then 0 else 1 := full_c e2 rfl
  by_cases q2 : n < 150
  · obtain ⟨x, p1, p2, rfl⟩ := btw_of (lo := 0) (hi := 127) (by omega) q1 (by omega)
    obtain ⟨s1, a1, b1, c1⟩ := add_in (nI x) e2 (show n < 150 from q2)
    have hP : Un Pt σ s1 := c1.un (fun a j p q => by unfold Pt; omega)
    have k1 : rI s1 112 3 = nI n := ((c1 112 (by omega)).1 3).trans e1
    refine ⟨nI (n + 1), s1, stI (stI s1 115 n (nI x)) 112 3 (nI (n + 1)), ?_, ?_, Inv_text h ⟨n + 1, q2, rI_eq _ _ _ _, ?_, ?_⟩ (hP.trans ((Un.stI _ _ _ _ (by unfold Pt; omega)).trans (Un.stI _ _ _ _ (by unfold Pt; omega))))⟩
    · show f_X11_type σ (nI x) = _
      unfold f_X11_type
      rw [if_neg q1, hf, if_pos q2, if_pos rfl, a1, ob_some]
      show some (rI s1 67 1, s1) = _
      rw [b1.2.1]
    · show f_X12_type s1 (nI x) = _
      unfold f_X12_type
      rw [in_0_127, if_neg q1, k1, if_neg (show ¬ nI n = 150 from fun z => absurd (nIinj (b := 150) (by omega) (by omega) z) (by omega)), if_pos (show inb (nI n) (kLen 115) = true from inb_nI q2 (by decide)), ix_nI (by omega), nam_e, nam_e, rI_eq, show rI (stI s1 115 n (nI x)) 112 3 = nI n from (rI_ne s1 (nI x) (by omega)).trans k1, nI_1]
    · refine (b1.res (fun a j ha => ?_) (fun j hj => ?_))
      · rw [rI_ne _ _ (by omega), rI_ne _ _ (by omega)]
      · rw [rI_ne _ _ (by omega), rI_stI]
        unfold upd
        by_cases q : j = n
        · rw [if_pos q, if_pos ⟨rfl, q⟩]
        · rw [if_neg q, if_neg (fun z => q z.2)]
          exact ((c1 115 (by omega)).1 j).symm
    · intro j hj
      rw [rI_ne _ _ (by omega), rI_stI]
      by_cases q : j = n
      · rw [if_pos ⟨rfl, q⟩]; exact vIn.mk p1 p2
      · rw [if_neg (fun z => q z.2), (c1 115 (by omega)).1 j]
        exact e3 j (by omega)
  · have : n = 150 := by omega
    subst this
    refine ref_full h ?_ (fun τ ht => ?_)
    · show f_X11_type σ v = _
      unfold f_X11_type; rw [if_neg q1, hf, if_neg q2, if_neg (by decide)]
    · show f_X12_type τ v = _
      unfold f_X12_type; rw [in_0_127, if_neg q1, show rI τ 112 3 = 150 from (ht 112 3 (by omega)).trans e1, if_pos rfl]
theorem m_clear {σ : Sg} (h : Inv σ) : Sim f_X11_clear f_X12_clear σ := by
  obtain ⟨n, hn, e1, e2, e3⟩ := h.2.1
  obtain ⟨s1, a1, b1, c1⟩ := restart_in σ 67 (rI (stI σ 112 3 0) 115)
  refine ⟨nI n, s1, stI s1 112 3 0, ?_, ?_, Inv_text h ⟨0, by omega, rI_eq _ _ _ _, b1.res (fun a j ha => by rw [rI_ne _ _ (by omega)]) (fun j hj => absurd hj (by omega)), fun j hj => absurd hj (by omega)⟩ ((c1.un (fun a j p q => by unfold Pt; omega)).trans (Un.stI _ _ _ _ (by unfold Pt; omega)))⟩
  · unfold f_X11_clear
    rw [nam_e, a1, ob_some]
    show some (rI σ 67 1, s1) = _
    rw [e2.2.1]
  · unfold f_X12_clear
    rw [nam_e, nam_e, (c1 112 (by omega)).1, e1]
theorem and01 (z : Int32) : z &&& 1 = 0 ∨ z &&& 1 = 1 := by
  obtain ⟨j, h1, h2⟩ := pk_andE z (m := 1) 1 rfl
  rcases (show j = 0 ∨ j = 1 by omega) with rfl | rfl
  · exact Or.inl h2
  · exact Or.inr h2
theorem has_and (x k : Int32) : (x >>> (k &&& 31)) &&& 1 = f_X12_has x k := by
  unfold f_X12_has
  rcases and01 (x >>> (k &&& 31)) with q | q
  · rw [q, if_neg (by decide)]
  · rw [q, if_pos rfl]
def toldG (g : Nat → Int32) (k w : Nat) : Int32 := if w = 0 then g (4 + k) else if w = 1 then g (11 + k) else if w = 2 then g (18 + k) else if w = 3 then g (25 + k) else if w = 4 then g (32 + k) else f_X12_has (g 3) (nI k)
theorem told_c {σ : Sg} {a b c d e u k w : Nat} {g : Nat → Int32} (hr : Rw σ 1 g a b c d e u) (hk : k < a) (ha : a ≤ 7) (hw : w ≤ 5) : f_X3_toldOf σ 1 (nI k) (nI w) = some (toldG g k w) := by
  obtain ⟨r1, r2, r3, r4, r5, r6, r7, r8, r9, r10, r11, r12⟩ := hr
  unfold f_X3_toldOf toldG
  have hl : f_X4_isLent σ (1 + 17) (nI k) = f_X12_has (g 3) (nI k) := by
    unfold f_X4_isLent
    rw [r10, hasBit_has _ (by omega)]
  rcases (show w = 0 ∨ w = 1 ∨ w = 2 ∨ w = 3 ∨ w = 4 ∨ w = 5 by omega) with rfl | rfl | rfl | rfl | rfl | rfl
  · rw [if_pos (show nI 0 = 0 from rfl), at_in r1 hk, ob_some, if_pos rfl]
  · simp only [kd10, kd11, if_true, if_false, at_in r2 hk, ob_some]; rfl
  · simp only [kd20, kd21, kd22, if_true, if_false, at_in r11 hk, ob_some]; rfl
  · simp only [kd30, kd31, kd32, kd33, if_true, if_false, at_in r3 hk, ob_some]; rfl
  · simp only [kd40, kd41, kd42, kd43, kd44, if_true, if_false, at_in r12 hk, ob_some]; rfl
  · simp only [kd50, kd51, kd52, kd53, kd54, if_false, hl]
    rcases has01 (g 3) (nI k) with q | q
    · rw [q, if_pos rfl]; rfl
    · rw [q, if_neg (by decide)]; rfl
theorem told_r {σ : Sg} {k w : Nat} (hk : k < 7) (hw : w ≤ 5) : f_X12_ofKeeper σ (nI k) (nI w) = some (toldG (rI σ 113) k w) := by
  unfold f_X12_ofKeeper toldG
  rcases (show w = 0 ∨ w = 1 ∨ w = 2 ∨ w = 3 ∨ w = 4 ∨ w = 5 by omega) with rfl | rfl | rfl | rfl | rfl | rfl
  · simp (disch := omega) only [kd00, if_true, L4, nI_add, i113, ix_nI]
  · simp (disch := omega) only [kd10, kd11, if_true, if_false, L11, nI_add, i113, ix_nI]; rfl
  · simp (disch := omega) only [kd20, kd21, kd22, if_true, if_false, L18, nI_add, i113, ix_nI]; rfl
  · simp (disch := omega) only [kd30, kd31, kd32, kd33, if_true, if_false, L25, nI_add, i113, ix_nI]; rfl
  · simp (disch := omega) only [kd40, kd41, kd42, kd43, kd44, if_true, if_false, L32, nI_add, i113, ix_nI]; rfl
  · simp only [kd50, kd51, kd52, kd53, kd54, if_false, has_and, if_pos (show inb 3 (kLen 113) = true from i113 (n := 3) (by omega))]; rfl
theorem m_of {σ : Sg} (h : Inv σ) (v1 v2 : Int32) : Sim (fun s => f_X11_of s v1 v2) (fun s => f_X12_of s v1 v2) σ := by
  by_cases q1 : f_X11_between v1 0 (rI σ 113 0 - 1) = 0
  · refine ref_bad h (-2) id ?_ (fun τ ht => ?_)
    · show f_X11_of σ v1 v2 = _
      unfold f_X11_of; rw [hasK_c h, if_pos q1]; rfl
    · show f_X12_of τ v1 v2 = _
      unfold f_X12_of; rw [isK_r, ht 113 0 (by omega), ob_some, if_pos q1]; rfl
  by_cases q2 : f_X11_between v2 0 5 = 0
  · refine ref_bad h (-2) id ?_ (fun τ ht => ?_)
    · show f_X11_of σ v1 v2 = _
      unfold f_X11_of; rw [hasK_c h, if_neg q1, if_pos q2]; rfl
    · show f_X12_of τ v1 v2 = _
      unfold f_X12_of; rw [isK_r, ht 113 0 (by omega), ob_some, if_neg q1, in_0_5, if_pos q2]; rfl
  have h1 := h.1
  obtain ⟨a, b, c, d, e, u, hn, hw, hr⟩ := h1
  obtain ⟨⟨n0, ha⟩, _⟩ := hn
  have q1' := q1
  rw [n0] at q1'
  obtain ⟨k, hk, rfl⟩ := hk_of (by omega) q1'
  obtain ⟨w, p5, p6, rfl⟩ := btw_of (lo := 0) (hi := 5) (by omega) q2 (by omega)
  refine Sim.pure h (toldG (rI σ 113) k w) ?_ ?_
  · show f_X11_of σ (nI k) (nI w) = _
    unfold f_X11_of
    rw [hasK_c h, if_neg q1, if_neg q2, told_c hr hk ha p6, ob_some]
  · show f_X12_of σ (nI k) (nI w) = _
    unfold f_X12_of
    rw [isK_r, ob_some, if_neg q1, in_0_5, if_neg q2, told_r (by omega) p6, ob_some]
theorem m_part {σ : Sg} (h : Inv σ) (v : Int32) : Sim (fun s => f_X11_part s v) (fun s => f_X12_part s v) σ := by
  obtain ⟨_, _, _, ⟨hs1, hs2⟩, _⟩ := id h
  by_cases q1 : f_X11_between v 0 1 = 0
  · have z0 : ¬ v = 0 := fun z => by rw [z] at q1; exact absurd q1 (by decide)
    have z1 : ¬ v = 1 := fun z => by rw [z] at q1; exact absurd q1 (by decide)
    refine ref_bad h (-2) Int32.toInt64 ?_ (fun τ ht => ?_)
    · show f_X11_part σ v = _
      unfold f_X11_part; rw [if_pos q1]
    · show f_X12_part τ v = _
      unfold f_X12_part; rw [if_neg z0, if_neg z1]
  obtain ⟨w, p5, p6, rfl⟩ := btw_of (lo := 0) (hi := 1) (by omega) q1 (by omega)
  rcases (show w = 0 ∨ w = 1 by omega) with rfl | rfl
  · refine Sim.pure h (rL σ 112 4) ?_ ?_
    · show f_X11_part σ (nI 0) = _
      unfold f_X11_part; simp only [if_neg q1, kd00, if_true, hs1]
    · show f_X12_part σ (nI 0) = _
      unfold f_X12_part; simp only [kd00, if_true]
  · refine Sim.pure h (rL σ 112 5) ?_ ?_
    · show f_X11_part σ (nI 1) = _
      unfold f_X11_part; simp only [if_neg q1, kd10, if_false, hs2]
    · show f_X12_part σ (nI 1) = _
      unfold f_X12_part; simp only [kd10, kd11, if_true, if_false]
theorem m_status {σ : Sg} (h : Inv σ) (v : Int32) : Sim (fun s => f_X11_status s v) (fun s => f_X12_status s v) σ := by
  obtain ⟨_, _, _, _, hs3, hs4, hs5⟩ := id h
  by_cases q1 : f_X11_between v 0 2 = 0
  · have z0 : ¬ v = 0 := fun z => by rw [z] at q1; exact absurd q1 (by decide)
    have z1 : ¬ v = 1 := fun z => by rw [z] at q1; exact absurd q1 (by decide)
    have z2 : ¬ v = 2 := fun z => by rw [z] at q1; exact absurd q1 (by decide)
    refine ref_bad h (-1) id ?_ (fun τ ht => ?_)
    · show f_X11_status σ v = _
      unfold f_X11_status; rw [if_neg z0, if_neg z1, if_neg z2]; rfl
    · show f_X12_status τ v = _
      unfold f_X12_status; rw [in_0_2, if_pos q1]; rfl
  obtain ⟨w, p5, p6, rfl⟩ := btw_of (lo := 0) (hi := 2) (by omega) q1 (by omega)
  have hi : inb (nI w) (kLen 116) = true := inb_nI (show w < 3 by omega) (by decide)
  refine Sim.pure h (rI σ 116 w) ?_ ?_
  · show f_X11_status σ (nI w) = _
    unfold f_X11_status
    rcases (show w = 0 ∨ w = 1 ∨ w = 2 by omega) with rfl | rfl | rfl
    · simp only [kd00, if_true, hs3]
    · simp only [kd10, kd11, if_true, if_false, hs4]
    · simp only [kd20, kd21, kd22, if_true, if_false, hs5]
  · show f_X12_status σ (nI w) = _
    unfold f_X12_status
    rw [in_0_2, if_neg q1, if_pos hi, ix_nI (by omega)]
