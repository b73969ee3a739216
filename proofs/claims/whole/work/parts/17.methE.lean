theorem m_visit {σ : Sg} (h : Inv σ) (v1 v2 : Int32) : Sim (fun s => f_X11_visit s v1 v2) (fun s => f_X12_visit s v1 v2) σ := by
  by_cases q1 : f_X11_between v1 0 (rI σ 113 0 - 1) = 0
  · refine ref_bad h (-2) id ?_ (fun τ ht => ?_)
    · show f_X11_visit σ v1 v2 = _
      unfold f_X11_visit; rw [hasK_c h, if_pos q1]; rfl
    · show f_X12_visit τ v1 v2 = _
      unfold f_X12_visit; rw [isK_r, ht 113 0 (by omega), ob_some, if_pos q1]; rfl
  by_cases q2 : f_X11_between v2 0 9 = 0
  · refine ref_bad h (-2) id ?_ (fun τ ht => ?_)
    · show f_X11_visit σ v1 v2 = _
      unfold f_X11_visit; rw [hasK_c h, if_neg q1, if_pos q2]; rfl
    · show f_X12_visit τ v1 v2 = _
      unfold f_X12_visit; rw [isK_r, ht 113 0 (by omega), ob_some, if_neg q1, in_0_9, if_pos q2]; rfl
  obtain ⟨a, b, c, d, e, u, hn, hw, hr⟩ := h.1
  obtain ⟨⟨n0, ha⟩, ⟨n1, hb⟩, ⟨n2, hc⟩, ⟨n3, hd⟩, ⟨n4, he⟩, n5, hu⟩ := id hn
  have q1' := q1
  rw [n0] at q1'
  obtain ⟨k, hk, rfl⟩ := hk_of (by omega) q1'
  obtain ⟨f, _, p6, rfl⟩ := btw_of (lo := 0) (hi := 9) (by omega) q2 (by omega)
  have hl : f_X4_isLent σ 18 (nI k) = f_X12_has (rI σ 113 3) (nI k) := by
    unfold f_X4_isLent; rw [show rI σ 18 1 = _ from hr.2.2.2.2.2.2.2.2.2.1, hasBit_has _ (by omega)]
  by_cases q3 : f_X12_has (rI σ 113 3) (nI k) = 0
  · obtain ⟨s1, a1, b1, c1⟩ := remember_c hn hw hr
    obtain ⟨mn, mw⟩ := mind_keep hn hw
    have m4 : mind u (rI σ 113) (4 + k) = rI σ 113 (4 + k) := mind_lo _ (by omega)
    have m2 : mind u (rI σ 113) 2 = rI σ 113 2 := mind_lo _ (by omega)
    have m32 : mind u (rI σ 113) (32 + k) = rI σ 113 (32 + k) := mind_lo _ (by omega)
    obtain ⟨kd, _, z2, z3⟩ := (mw.1 k hk).1
    obtain ⟨r1, r2, r3, r4, r5, r6, r7, r8, r9, r10, r11, r12⟩ := id b1
    obtain ⟨s2, a2, b2, b3, b4, b5, c2⟩ := bring_c (k0 := 1 + 17) z3 z2 hk ha (f := f) (by omega) r12 ((mw.2.2.2.2.1.1 k (by omega)).1 hk).2 r9 r10
    have hle := lends01 (mind u (rI σ 113) (4 + k)) (mind u (rI σ 113) 2) (mind u (rI σ 113) (32 + k)) (nI f)
    obtain ⟨vn, vw⟩ := visit_keep hle hk (f := f) (by omega) mn mw
    have hs : ∀ a j, (a < 18 ∨ 18 < a ∧ a < 21 ∨ 23 ≤ a) → rI s2 a j = rI s1 a j := fun a j q => (b5 a j (by omega) (by omega) (by omega)).1
    have hr2 : Rw s2 1 (visitG k (nI f) (f_X12_lends (mind u (rI σ 113) (4 + k)) (mind u (rI σ 113) 2) (mind u (rI σ 113) (32 + k)) (nI f)) (mind u (rI σ 113))) a b c d e (mu u) := by
      unfold visitG
      refine ⟨?_, ?_, ?_, ?_, ?_, ?_, ?_, ?_, ?_, ?_, ?_, ?_⟩
      · refine r1.res (fun k j hk => hs k j (by omega)) (fun j hj => ?_); simp (disch := omega) only [pk_un]
      · refine r2.res (fun k j hk => hs k j (by omega)) (fun j hj => ?_); simp (disch := omega) only [pk_un]
      · refine r3.res (fun k j hk => hs k j (by omega)) (fun j hj => ?_); simp (disch := omega) only [pk_un]
      · refine r4.res (fun k j hk => hs k j (by omega)) (fun j hj => ?_); simp (disch := omega) only [pk_un]
      · refine r5.res (fun k j hk => hs k j (by omega)) (fun j hj => ?_); simp (disch := omega) only [pk_un]
      · refine r6.res (fun k j hk => hs k j (by omega)) (fun j hj => ?_); simp (disch := omega) only [pk_un]
      · refine r7.res (fun k j hk => hs k j (by omega)) (fun j hj => ?_); simp (disch := omega) only [pk_un]
      · refine r8.res (fun k j hk => hs k j (by omega)) (fun j hj => ?_); simp (disch := omega) only [pk_un]
      · rw [b3]; simp (disch := omega) only [pk_un]
      · rw [b4, pk_us]
      · refine r11.res (fun k j hk => hs k j (by omega)) (fun j hj => ?_); simp (disch := omega) only [pk_un]
      · refine b2.cong (fun j hj => ?_)
        simp (disch := omega) only [pk_un]
        unfold upd
        simp only [Nat.add_left_cancel_iff]
    have hP : Un Pk σ s2 := (c1.un (fun a j p q => by unfold Pk; omega)).trans (c2.un (fun a j p q => by unfold Pk; omega))
    obtain ⟨s3, a3, b3', c3⟩ := minds_r (σ := s2) hu n5 (Pk_w hP)
    refine ⟨f_X12_lends (mind u (rI σ 113) (4 + k)) (mind u (rI σ 113) 2) (mind u (rI σ 113) (32 + k)) (nI f), s2, stI (stI s3 113 (32 + k) (f_X12_moodBehind (mind u (rI σ 113) (32 + k)) (nI f) (f_X12_lends (mind u (rI σ 113) (4 + k)) (mind u (rI σ 113) 2) (mind u (rI σ 113) (32 + k)) (nI f)))) 113 3 (mind u (rI σ 113) 3 ||| (if f_X12_lends (mind u (rI σ 113) (4 + k)) (mind u (rI σ 113) 2) (mind u (rI σ 113) (32 + k)) (nI f) = 0 then (0 : Int32) else 1 <<< (nI k &&& 31))), ?_, ?_, Inv_two h ⟨_, _, _, _, _, _, vn, vw, hr2⟩ hP ((Pw_Pr c3).trans ((Un.stI _ _ _ _ (by unfold Pr; omega)).trans (Un.stI _ _ _ _ (by unfold Pr; omega)))) (fun j _ => ?_)⟩
    · show f_X11_visit σ (nI k) (nI f) = _
      unfold f_X11_visit
      rw [hasK_c h, if_neg q1, if_neg q2, hl, if_pos q3, a1, ob_some, show f_X7_at s1 2 (nI k) = _ from at_in r1 hk, ob_some, show f_X4_bringGift s1 18 (nI k) _ (nI f) = _ from a2, bnd_some]
      rcases hle with q | q
      · rw [q, if_pos rfl]
      · rw [q, if_neg (by decide)]
    · show f_X12_visit s2 (nI k) (nI f) = _
      unfold f_X12_visit
      rw [isK_r, Pk_w hP, ob_some, if_neg q1, in_0_9, if_neg q2, if_pos (show inb 3 (kLen 113) = true from i113 (n := 3) (by omega)), show rI s2 113 (ix 3) = rI σ 113 3 from Pk_w hP 3, if_pos q3, would_r _ (by omega), Pk_w hP, Pk_w hP, Pk_w hP, ob_some, a3, ob_some, ← m4, ← m2, ← m32]
      unfold b_X12_visit_97
      have i3 : inb 3 (kLen 113) = true := i113 (n := 3) (by omega)
      have e3 : ∀ w, rI (stI s3 113 (32 + k) w) 113 (ix 3) = mind u (rI σ 113) 3 := fun w => (rI_nj _ _ (show 3 ≠ 32 + k by omega)).trans (b3' 3)
      rw [L32, nI_add, if_pos (i113 (by omega)), if_pos (i113 (by omega)), ix_nI (by omega), nam_e, if_pos i3, b3', if_pos i3, if_pos i3, nam_e, nam_e, e3, show ix 3 = 3 from rfl]
      rcases hle with q | q
      · rw [q, if_pos rfl, if_pos rfl, if_pos rfl]
      · rw [q, if_neg (by decide), if_neg (by decide), if_neg (by decide)]
    · rw [rI_stI, rI_stI, b3']
      unfold visitG upd
      simp only [true_and]
  · refine ref_no h ?_ (fun τ ht => ?_)
    · show f_X11_visit σ (nI k) (nI f) = _
      unfold f_X11_visit
      rw [hasK_c h, if_neg q1, if_neg q2, hl, if_neg q3]
    · show f_X12_visit τ (nI k) (nI f) = _
      unfold f_X12_visit
      rw [isK_r, ht 113 0 (by omega), ob_some, if_neg q1, in_0_9, if_neg q2, if_pos (show inb 3 (kLen 113) = true from i113 (n := 3) (by omega)), show rI τ 113 (ix 3) = rI σ 113 3 from ht 113 3 (by omega), if_neg q3]
