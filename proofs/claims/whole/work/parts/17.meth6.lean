theorem taken {σ τ : Sg} {k n : Nat} {f : Nat → Int32} (h : rowIs τ k n f) : rowIs τ k n f := h
theorem M_apart {M M' : Nat} (h : isM M) (h' : isM M') (hn : M ≠ M') : M + 22 ≤ M' ∨ M' + 22 ≤ M := by
  unfold isM at h h'
  omega
theorem take_M {σ : Sg} {M M' : Nat} {g : Nat → Int32} (hM : isM M) (hM' : isM M') (hn : M ≠ M') (h : Rep σ M' g) : ∃ τ, f_X3_take σ M M' = some τ ∧ Rep τ M g ∧ Only M (M + 22) σ τ := by
  have hd := M_apart hM hM' hn
  obtain ⟨l1, l2, l3, l4, l5, l6, l7, l8, l9, l10⟩ := mkl hM
  obtain ⟨a, b, c, d, e, u, hn, hw, hr⟩ := h
  have hn2 := hn
  obtain ⟨⟨n0, ha⟩, ⟨n1, hb⟩, ⟨n2, hc⟩, ⟨n3, hd2⟩, ⟨n4, he⟩, n5, hu⟩ := hn2
  obtain ⟨r1, r2, r3, r4, r5, r6, r7, r8, r9, r10, r11, r12⟩ := hr
  have o0 : Only M (M + 22) σ σ := Only.rf
  obtain ⟨s1, a1, b1, c1⟩ := take_in (k0 := M + 1) (by omega) (by omega) (r1.keep o0 (by omega))
  have o1 : Only M (M + 22) σ s1 := o0.trans (c1.mono (by omega) (by omega))
  obtain ⟨s2, a2, b2, c2⟩ := take_in (k0 := M + 3) (by omega) (by omega) (r2.keep o1 (by omega))
  have o2 : Only M (M + 22) σ s2 := o1.trans (c2.mono (by omega) (by omega))
  obtain ⟨s3, a3, b3, c3⟩ := take_in (k0 := M + 5) (by omega) (by omega) (r3.keep o2 (by omega))
  have o3 : Only M (M + 22) σ s3 := o2.trans (c3.mono (by omega) (by omega))
  obtain ⟨s4, a4, b4, c4⟩ := take_in (k0 := M + 7) (by omega) (by omega) (r4.keep o3 (by omega))
  have o4 : Only M (M + 22) σ s4 := o3.trans (c4.mono (by omega) (by omega))
  obtain ⟨s5, a5, b5, c5⟩ := take_in (k0 := M + 9) (by omega) (by omega) (r5.keep o4 (by omega))
  have o5 : Only M (M + 22) σ s5 := o4.trans (c5.mono (by omega) (by omega))
  obtain ⟨s6, a6, b6, c6⟩ := take_in (k0 := M + 11) (by omega) (by omega) (r6.keep o5 (by omega))
  have o6 : Only M (M + 22) σ s6 := o5.trans (c6.mono (by omega) (by omega))
  obtain ⟨s7, a7, b7, c7⟩ := take_in (k0 := M + 13) (by omega) (by omega) (r7.keep o6 (by omega))
  have o7 : Only M (M + 22) σ s7 := o6.trans (c7.mono (by omega) (by omega))
  obtain ⟨s8, a8, b8, c8⟩ := take_in (k0 := M + 15) (by omega) (by omega) (r8.keep o7 (by omega))
  have o8 : Only M (M + 22) σ s8 := o7.trans (c8.mono (by omega) (by omega))
  have c9 : Only (M + 17) (M + 18) s8 (stI (stI s8 (M + 17) 0 (rI s8 (M' + 17) 0)) (M + 17) 1 (rI (stI s8 (M + 17) 0 (rI s8 (M' + 17) 0)) (M' + 17) 1)) := (Only.stI s8 (M + 17) 0 _).trans (Only.stI _ (M + 17) 1 _)
  have o9 : Only M (M + 22) σ _ := o8.trans (c9.mono (by omega) (by omega))
  obtain ⟨sA, aA, bA, cA⟩ := take_in (k0 := M + 17 + 1) (by omega) (by omega) (r11.keep o9 (by omega))
  have oA : Only M (M + 22) σ sA := o9.trans (cA.mono (by omega) (by omega))
  obtain ⟨sB, aB, bB, cB⟩ := take_in (k0 := M + 17 + 3) (by omega) (by omega) (r12.keep oA (by omega))
  have oB : Only M (M + 22) σ sB := oA.trans (cB.mono (by omega) (by omega))
  refine ⟨sB, ?_, ⟨a, b, c, d, e, u, hn, hw, ((((((((((b1.keep c2 (by omega)).keep c3 (by omega)).keep c4 (by omega)).keep c5 (by omega)).keep c6 (by omega)).keep c7 (by omega)).keep c8 (by omega)).keep c9 (by omega)).keep cA (by omega)).keep cB (by omega)), (((((((((b2.keep c3 (by omega)).keep c4 (by omega)).keep c5 (by omega)).keep c6 (by omega)).keep c7 (by omega)).keep c8 (by omega)).keep c9 (by omega)).keep cA (by omega)).keep cB (by omega)), ((((((((b3.keep c4 (by omega)).keep c5 (by omega)).keep c6 (by omega)).keep c7 (by omega)).keep c8 (by omega)).keep c9 (by omega)).keep cA (by omega)).keep cB (by omega)), (((((((b4.keep c5 (by omega)).keep c6 (by omega)).keep c7 (by omega)).keep c8 (by omega)).keep c9 (by omega)).keep cA (by omega)).keep cB (by omega)), ((((((b5.keep c6 (by omega)).keep c7 (by omega)).keep c8 (by omega)).keep c9 (by omega)).keep cA (by omega)).keep cB (by omega)), (((((b6.keep c7 (by omega)).keep c8 (by omega)).keep c9 (by omega)).keep cA (by omega)).keep cB (by omega)), ((((b7.keep c8 (by omega)).keep c9 (by omega)).keep cA (by omega)).keep cB (by omega)), (((b8.keep c9 (by omega)).keep cA (by omega)).keep cB (by omega)), ?_, ?_, bA.keep cB (by omega), bB⟩, oB⟩
  · unfold f_X3_take f_X4_take
    simp only [a1, a2, a3, a4, a5, a6, a7, a8, nam_e, aA, aB, ob_some]
  · rw [(cB (M + 17) (by omega)).1, (cA (M + 17) (by omega)).1, rI_nj _ _ (by omega), rI_eq, (o8 (M' + 17) (by omega)).1, r9]
  · rw [(cB (M + 17) (by omega)).1, (cA (M + 17) (by omega)).1, rI_eq, rI_ne _ _ (by omega), (o8 (M' + 17) (by omega)).1, r10]
theorem Inv_image {σ τ : Sg} (h : Inv σ) (hk : Kp τ) (hu : Un (fun a j => (23 ≤ a ∧ a < 67) ∨ (a = 113 ∧ 241 ≤ j) ∨ a = 114 ∨ (a = 0 ∧ j = 3)) σ τ) : Inv τ := by
  obtain ⟨hr, ht, _, ⟨hs1, hs2⟩, hs3, hs4, hs5⟩ := h
  refine ⟨(hr.same ?_).cong ?_, ht.same ?_ ?_ ?_ ?_, hk, ⟨?_, ?_⟩, ?_, ?_, ?_⟩
  · exact fun k j _ _ => (hu _ _ (by omega)).1
  · exact fun j _ => ((hu _ _ (by omega)).1).symm
  · exact (hu _ _ (by omega)).1
  · exact fun j => (hu _ _ (by omega)).1
  · exact fun j => (hu _ _ (by omega)).1
  · exact fun j => (hu _ _ (by omega)).1
  · rw [(hu 0 10 (by omega)).2, (hu 112 4 (by omega)).2]; exact hs1
  · rw [(hu 0 11 (by omega)).2, (hu 112 5 (by omega)).2]; exact hs2
  · rw [(hu 0 12 (by omega)).1, (hu 116 0 (by omega)).1]; exact hs3
  · rw [(hu 0 13 (by omega)).1, (hu 116 1 (by omega)).1]; exact hs4
  · rw [(hu 0 14 (by omega)).1, (hu 116 2 (by omega)).1]; exact hs5
theorem bits01 : ∀ k0, k0 < 2 → ∀ k1, k1 < 2 → ∀ v, v < 2 → nI (k0 + 2 * k1) ||| (1 <<< (nI v &&& 31)) = nI ((if v = 0 then 1 else k0) + 2 * (if v = 1 then 1 else k1)) := by decide +kernel
theorem bits02 : ∀ k0, k0 < 2 → ∀ k1, k1 < 2 → f_X12_has (nI (k0 + 2 * k1)) (nI 0) = nI k0 ∧ f_X12_has (nI (k0 + 2 * k1)) (nI 1) = nI k1 := by decide +kernel
theorem nar1 : vp_nar .boolean 1 = 1 := rfl
theorem m_image {σ : Sg} (h : Inv σ) (v : Int32) : Sim (fun s => f_X11_image s v) (fun s => f_X12_image s v) σ := by
  by_cases q1 : f_X11_between v 0 1 = 0
  · refine ref_bad h (-2) id ?_ (fun τ ht => ?_)
    · show f_X11_image σ v = _
      unfold f_X11_image; rw [if_pos q1]; rfl
    · show f_X12_image τ v = _
      unfold f_X12_image; rw [in_0_1, if_pos q1]; rfl
  obtain ⟨w, p5, p6, rfl⟩ := btw_of (lo := 0) (hi := 1) (by omega) q1 (by omega)
  obtain ⟨k0, k1, z0, z1, y0, y1, y2, x0, x1⟩ := h.2.2.1
  have hb := bits01 k0 (by omega) k1 (by omega) w (by omega)
  have e0 : (fun j => rI σ 113 (0 + j)) = rI σ 113 := funext (fun j => by rw [Nat.zero_add])
  rcases (show w = 0 ∨ w = 1 by omega) with rfl | rfl
  · obtain ⟨s1, a1, b1, c1⟩ := take_M (M := 23) (M' := 1) (by unfold isM; omega) M1 (by omega) h.1
    have e1 : f_X11_imageNumber (nI 0) = 23 := by unfold f_X11_imageNumber; simp only [kd00, if_true, if_false]
    obtain ⟨s3, a3, b3, c3⟩ := copy_r (stI s1 0 3 (nI (1 + 2 * k1))) 0 241 (by omega) (by omega) (by omega)
    have hu : Un (fun a j => (23 ≤ a ∧ a < 67) ∨ (a = 113 ∧ 241 ≤ j) ∨ a = 114 ∨ (a = 0 ∧ j = 3)) σ (stI s3 114 0 1) := ((c1.un (fun a j p q => by omega)).trans (Un.stI _ _ _ _ (by omega))).trans ((c3.mono (fun a j q => by omega)).trans (Un.stI _ _ _ _ (by omega)))
    have t1 : ∀ j, rI (stI s1 0 3 (nI (1 + 2 * k1))) 113 j = rI σ 113 j := fun j => by rw [rI_ne _ _ (by omega), (c1 113 (by omega)).1]
    refine ⟨1, stI s1 0 3 (nI (1 + 2 * k1)), stI s3 114 0 1, ?_, ?_, Inv_image h ⟨1, k1, by omega, z1, ?_, ?_, ?_, fun _ => ?_, fun q => ?_⟩ hu⟩
    · show f_X11_image σ (nI 0) = _
      unfold f_X11_image
      rw [if_neg q1, e1, a1, ob_some, nam_e, (c1 0 (by omega)).1, y2, hb]
      rfl
    · show f_X12_image (stI s1 0 3 (nI (1 + 2 * k1))) (nI 0) = _
      have a4 : f_X12_copy (stI s1 0 3 (nI (1 + 2 * k1))) 0 (241 + 241 * nI 0) = some s3 := by
        rw [L241, pk_mul, nI_add]; exact a3
      unfold f_X12_image
      rw [in_0_1, if_neg q1, a4, ob_some, if_pos (show inb (nI 0) (kLen 114) = true from inb_nI (show 0 < 2 by omega) (by decide)), nam_e, nar1, ix_nI (by omega)]
    · rw [rI_eq]; rfl
    · rw [rI_nj _ _ (by omega), (c3 114 1 (by omega)).1, rI_ne _ _ (by omega), (c1 114 (by omega)).1, y1]
    · rw [rI_ne _ _ (by omega), (c3 0 3 (by omega)).1, rI_eq]
    · refine (b1.same (fun k j p q => ?_)).cong (fun j hj => ?_)
      · rw [rI_ne _ _ (by omega), (c3 k j (by omega)).1, rI_ne _ _ (by omega)]
      · rw [rI_ne _ _ (by omega), b3, if_pos (by omega), t1, show 0 + (241 + j - 241) = j by omega]
    · refine ((x1 q).same (fun k j p q => ?_)).cong (fun j hj => ?_)
      · rw [rI_ne _ _ (by omega), (c3 k j (by omega)).1, rI_ne _ _ (by omega), (c1 k (by omega)).1]
      · rw [rI_ne _ _ (by omega), b3, if_neg (by omega), t1]
  · obtain ⟨s1, a1, b1, c1⟩ := take_M (M := 45) (M' := 1) (by unfold isM; omega) M1 (by omega) h.1
    have e1 : f_X11_imageNumber (nI 1) = 45 := by unfold f_X11_imageNumber; simp only [kd10, if_true, if_false]
    obtain ⟨s3, a3, b3, c3⟩ := copy_r (stI s1 0 3 (nI (k0 + 2 * 1))) 0 482 (by omega) (by omega) (by omega)
    have hu : Un (fun a j => (23 ≤ a ∧ a < 67) ∨ (a = 113 ∧ 241 ≤ j) ∨ a = 114 ∨ (a = 0 ∧ j = 3)) σ (stI s3 114 1 1) := ((c1.un (fun a j p q => by omega)).trans (Un.stI _ _ _ _ (by omega))).trans ((c3.mono (fun a j q => by omega)).trans (Un.stI _ _ _ _ (by omega)))
    have t1 : ∀ j, rI (stI s1 0 3 (nI (k0 + 2 * 1))) 113 j = rI σ 113 j := fun j => by rw [rI_ne _ _ (by omega), (c1 113 (by omega)).1]
    refine ⟨1, stI s1 0 3 (nI (k0 + 2 * 1)), stI s3 114 1 1, ?_, ?_, Inv_image h ⟨k0, 1, z0, by omega, ?_, ?_, ?_, fun q => ?_, fun _ => ?_⟩ hu⟩
    · show f_X11_image σ (nI 1) = _
      unfold f_X11_image
      rw [if_neg q1, e1, a1, ob_some, nam_e, (c1 0 (by omega)).1, y2, hb]
      rfl
    · show f_X12_image (stI s1 0 3 (nI (k0 + 2 * 1))) (nI 1) = _
      have a4 : f_X12_copy (stI s1 0 3 (nI (k0 + 2 * 1))) 0 (241 + 241 * nI 1) = some s3 := by
        rw [L241, pk_mul, nI_add]; exact a3
      unfold f_X12_image
      rw [in_0_1, if_neg q1, a4, ob_some, if_pos (show inb (nI 1) (kLen 114) = true from inb_nI (show 1 < 2 by omega) (by decide)), nam_e, nar1, ix_nI (by omega)]
    · rw [rI_nj _ _ (by omega), (c3 114 0 (by omega)).1, rI_ne _ _ (by omega), (c1 114 (by omega)).1, y0]
    · rw [rI_eq]; rfl
    · rw [rI_ne _ _ (by omega), (c3 0 3 (by omega)).1, rI_eq]
    · refine ((x0 q).same (fun k j p q => ?_)).cong (fun j hj => ?_)
      · rw [rI_ne _ _ (by omega), (c3 k j (by omega)).1, rI_ne _ _ (by omega), (c1 k (by omega)).1]
      · rw [rI_ne _ _ (by omega), b3, if_neg (by omega), t1]
    · refine (b1.same (fun k j p q => ?_)).cong (fun j hj => ?_)
      · rw [rI_ne _ _ (by omega), (c3 k j (by omega)).1, rI_ne _ _ (by omega)]
      · rw [rI_ne _ _ (by omega), b3, if_pos (by omega), t1, show 0 + (482 + j - 482) = j by omega]
theorem m_from {σ : Sg} (h : Inv σ) (v : Int32) : Sim (fun s => f_X11_from s v) (fun s => f_X12_from s v) σ := by
  by_cases q1 : f_X11_between v 0 1 = 0
  · refine ref_bad h (-2) id ?_ (fun τ ht => ?_)
    · show f_X11_from σ v = _
      unfold f_X11_from; rw [if_pos q1]; rfl
    · show f_X12_from τ v = _
      unfold f_X12_from; rw [in_0_1, if_pos q1]; rfl
  obtain ⟨w, p5, p6, rfl⟩ := btw_of (lo := 0) (hi := 1) (by omega) q1 (by omega)
  obtain ⟨k0, k1, z0, z1, y0, y1, y2, x0, x1⟩ := h.2.2.1
  have hb := bits02 k0 (by omega) k1 (by omega)
  rcases (show w = 0 ∨ w = 1 by omega) with rfl | rfl
  · have e1 : f_X11_imageNumber (nI 0) = 23 := by unfold f_X11_imageNumber; simp only [kd00, if_true, if_false]
    have e2 : f_X11_hasBit (rI σ 0 3) (nI 0) = nI k0 := by rw [hasBit_has _ (by omega), y2]; exact hb.1
    have i1 : inb (nI 0) (kLen 114) = true := inb_nI (show 0 < 2 by omega) (by decide)
    rcases (show k0 = 0 ∨ k0 = 1 by omega) with rfl | rfl
    · refine ref_no h ?_ (fun τ ht => ?_)
      · show f_X11_from σ (nI 0) = _
        unfold f_X11_from
        rw [if_neg q1, e2, if_pos (show nI 0 = 0 from rfl)]
      · show f_X12_from τ (nI 0) = _
        unfold f_X12_from
        rw [in_0_1, if_neg q1, if_pos i1, ix_nI (by omega), ht 114 0 (by omega), y0, if_pos (show nI 0 = 0 from rfl)]
    · obtain ⟨s1, a1, b1, c1⟩ := take_M (M := 1) (M' := 23) M1 (by unfold isM; omega) (by omega) (x0 rfl)
      obtain ⟨s3, a3, b3, c3⟩ := copy_r s1 241 0 (by omega) (by omega) (by omega)
      have hP : Un Pk σ s1 := c1.un (fun a j p q => by unfold Pk; omega)
      refine ⟨1, s1, s3, ?_, ?_, Inv_two h b1 hP (c3.mono (fun a j q => by unfold Pr; omega)) (fun j hj => ?_)⟩
      · show f_X11_from σ (nI 0) = _
        unfold f_X11_from
        rw [if_neg q1, e2, if_neg (show ¬ nI 1 = 0 by decide), e1, a1, ob_some]
      · show f_X12_from s1 (nI 0) = _
        have a4 : f_X12_copy s1 (241 + 241 * nI 0) 0 = some s3 := by
          rw [L241, pk_mul, nI_add]; exact a3
        unfold f_X12_from
        rw [in_0_1, if_neg q1, if_pos i1, ix_nI (by omega), (c1 114 (by omega)).1, y0, if_neg (show ¬ nI 1 = 0 by decide), a4, ob_some]
      · rw [b3, if_pos (by omega), Pk_w hP, Nat.sub_zero]
  · have e1 : f_X11_imageNumber (nI 1) = 45 := by unfold f_X11_imageNumber; simp only [kd10, if_true, if_false]
    have e2 : f_X11_hasBit (rI σ 0 3) (nI 1) = nI k1 := by rw [hasBit_has _ (by omega), y2]; exact hb.2
    have i1 : inb (nI 1) (kLen 114) = true := inb_nI (show 1 < 2 by omega) (by decide)
    rcases (show k1 = 0 ∨ k1 = 1 by omega) with rfl | rfl
    · refine ref_no h ?_ (fun τ ht => ?_)
      · show f_X11_from σ (nI 1) = _
        unfold f_X11_from
        rw [if_neg q1, e2, if_pos (show nI 0 = 0 from rfl)]
      · show f_X12_from τ (nI 1) = _
        unfold f_X12_from
        rw [in_0_1, if_neg q1, if_pos i1, ix_nI (by omega), ht 114 1 (by omega), y1, if_pos (show nI 0 = 0 from rfl)]
    · obtain ⟨s1, a1, b1, c1⟩ := take_M (M := 1) (M' := 45) M1 (by unfold isM; omega) (by omega) (x1 rfl)
      obtain ⟨s3, a3, b3, c3⟩ := copy_r s1 482 0 (by omega) (by omega) (by omega)
      have hP : Un Pk σ s1 := c1.un (fun a j p q => by unfold Pk; omega)
      refine ⟨1, s1, s3, ?_, ?_, Inv_two h b1 hP (c3.mono (fun a j q => by unfold Pr; omega)) (fun j hj => ?_)⟩
      · show f_X11_from σ (nI 1) = _
        unfold f_X11_from
        rw [if_neg q1, e2, if_neg (show ¬ nI 1 = 0 by decide), e1, a1, ob_some]
      · show f_X12_from s1 (nI 1) = _
        have a4 : f_X12_copy s1 (241 + 241 * nI 1) 0 = some s3 := by
          rw [L241, pk_mul, nI_add]; exact a3
        unfold f_X12_from
        rw [in_0_1, if_neg q1, if_pos i1, ix_nI (by omega), (c1 114 (by omega)).1, y1, if_neg (show ¬ nI 1 = 0 by decide), a4, ob_some]
      · rw [b3, if_pos (by omega), Pk_w hP, Nat.sub_zero]
