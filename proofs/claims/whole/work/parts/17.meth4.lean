theorem m_balance {σ : Sg} (h : Inv σ) (v : Int32) : Sim (fun s => f_X11_balance s v) (fun s => f_X12_balance s v) σ := by
  by_cases q1 : f_X11_between v 0 5 = 0
  · refine ref_bad h (-2) id ?_ (fun τ ht => ?_)
    · show f_X11_balance σ v = _
      unfold f_X11_balance; rw [if_pos (show f_X11_isKind v = 0 from q1)]; rfl
    · show f_X12_balance τ v = _
      unfold f_X12_balance; rw [in_0_5, if_pos q1]; rfl
  have h1 := h.1
  obtain ⟨a, b, c, d, e, u, hn, hw, hr⟩ := h1
  have hn2 := hn
  obtain ⟨⟨n0, ha⟩, ⟨n1, hb⟩, ⟨n2, hc⟩, ⟨n3, hd⟩, ⟨n4, he⟩, n5, hu⟩ := hn2
  obtain ⟨r1, r2, r3, r4, r5, r6, r7, r8, r9, r10, r11, r12⟩ := hr
  have hf : f_X7_isFull σ 8 = if b < 4 then 0 else 1 := full_c r4 rfl
  by_cases q4 : b < 4
  · obtain ⟨x, p1, p2, rfl⟩ := btw_of (lo := 0) (hi := 5) (by omega) q1 (by omega)
    obtain ⟨s1, e1, e2, e3⟩ := add_in (nI x) r4 (show b < 4 from q4)
    have hs : ∀ a j, (a < 8 ∨ 10 ≤ a) → rI s1 a j = rI σ a j := fun a j ha => (e3 a (by omega)).1 j
    have hr1 : Rw s1 1 (upd (upd (rI σ 113) (39 + b) (nI x)) 1 (nI (b + 1))) a (b + 1) c d e u := by
      refine ⟨?_, ?_, ?_, ?_, ?_, ?_, ?_, ?_, ?_, ?_, ?_, ?_⟩
      · refine r1.res (fun k j hk => hs k j (by omega)) (fun j hj => ?_); simp (disch := omega) only [pk_un]
      · refine r2.res (fun k j hk => hs k j (by omega)) (fun j hj => ?_); simp (disch := omega) only [pk_un]
      · refine r3.res (fun k j hk => hs k j (by omega)) (fun j hj => ?_); simp (disch := omega) only [pk_un]
      · refine e2.ext ?_ (fun j hj => ?_) <;> simp (disch := omega) only [pk_un, pk_us]
      · refine r5.res (fun k j hk => hs k j (by omega)) (fun j hj => ?_); simp (disch := omega) only [pk_un]
      · refine r6.res (fun k j hk => hs k j (by omega)) (fun j hj => ?_); simp (disch := omega) only [pk_un]
      · refine r7.res (fun k j hk => hs k j (by omega)) (fun j hj => ?_); simp (disch := omega) only [pk_un]
      · refine r8.res (fun k j hk => hs k j (by omega)) (fun j hj => ?_); simp (disch := omega) only [pk_un]
      · rw [hs _ _ (by omega), r9]; simp (disch := omega) only [pk_un]
      · rw [hs _ _ (by omega), r10]; simp (disch := omega) only [pk_un]
      · refine r11.res (fun k j hk => hs k j (by omega)) (fun j hj => ?_); simp (disch := omega) only [pk_un]
      · refine r12.res (fun k j hk => hs k j (by omega)) (fun j hj => ?_); simp (disch := omega) only [pk_un]
    have hn1 : Nm (upd (upd (rI σ 113) (39 + b) (nI x)) 1 (nI (b + 1))) a (b + 1) c d e u := by
      refine ⟨⟨?_, ha⟩, ⟨?_, by omega⟩, ⟨?_, hc⟩, ⟨?_, hd⟩, ⟨?_, he⟩, ?_, hu⟩ <;> simp (disch := omega) only [pk_un, pk_us, n0, n1, n2, n3, n4, n5]
    have hw1 : Wf (upd (upd (rI σ 113) (39 + b) (nI x)) 1 (nI (b + 1))) a (b + 1) d e 0 := by
      obtain ⟨w1, w2, w3, w4, w5, w6⟩ := hw
      refine ⟨fun k hk => ?_, fun k hk => ?_, fun i hi => ?_, fun i hi => ?_, ⟨fun k hk => ?_, ?_, ?_⟩, fun i hi => absurd hi (by omega)⟩
      · simp (disch := omega) only [pk_un]; exact w1 k hk
      · simp (disch := omega) only [pk_un]
        exact upd_vIn _ (vIn.mk p1 p2) (fun _ => w2 k (by omega))
      · simp (disch := omega) only [pk_un]; exact w3 i hi
      · simp (disch := omega) only [pk_un]; exact w4 i hi
      · simp (disch := omega) only [pk_un]; exact w5.1 k hk
      · simp (disch := omega) only [pk_un]; exact w5.2.1
      · simp (disch := omega) only [pk_un]; exact w5.2.2
    obtain ⟨s2, g1, g2, g3⟩ := forget_c ha (by omega) hc hd he hr1
    have hP : Un Pk σ s2 := (e3.un (fun a j p q => by unfold Pk; omega)).trans (g3.un (fun a j p q => by unfold Pk; omega))
    refine ⟨nI b, s2, stI (stI (stI s2 113 (39 + b) (nI x)) 113 1 (nI (b + 1))) 113 112 0, ?_, ?_, Inv_two h ⟨a, b + 1, c, d, e, 0, forget_nm hn1, forget_wf ha (by omega) hd he hw1, g2⟩ hP (((Un.stI _ _ _ _ (by unfold Pr; omega)).trans (Un.stI _ _ _ _ (by unfold Pr; omega))).trans (Un.stI _ _ _ _ (by unfold Pr; omega))) (fun j hj => ?_)⟩
    · show f_X11_balance σ (nI x) = _
      unfold f_X11_balance
      rw [if_neg (show ¬ f_X11_isKind (nI x) = 0 from q1), hf, if_pos q4, if_pos rfl, show f_X7_add σ 8 (nI x) = _ from e1, ob_some, show f_X7_restart s1 16 = _ from g1, ob_some]
      show some (rI s2 8 1 - 1, s2) = _
      rw [show rI s2 8 1 = nI (b + 1) from g2.2.2.2.1.2.1, nI_pred]
    · show f_X12_balance s2 (nI x) = _
      unfold f_X12_balance
      rw [in_0_5, if_neg q1]
      simp (disch := omega) only [L0, L1, L4, L39, L112, nI_add, i113, if_true, if_false, nam_e, ix_nI, Pk_w hP, n1, eqF, rI_nj, rI_eq, pk_sub, Nat.add_sub_cancel]
    · simp only [noPast, rI_stI, upd, true_and, Pk_w hP]
  · have : b = 4 := by omega
    subst this
    refine ref_full h ?_ (fun τ ht => ?_)
    · show f_X11_balance σ v = _
      unfold f_X11_balance
      rw [if_neg (show ¬ f_X11_isKind v = 0 from q1), hf, if_neg q4, if_neg (by decide)]
    · show f_X12_balance τ v = _
      unfold f_X12_balance
      rw [in_0_5, if_neg q1, if_pos (show inb 1 (kLen 113) = true from i113 (n := 1) (by omega)), show rI τ 113 (ix 1) = 4 from (ht 113 1 (by omega)).trans n1, if_pos rfl]
theorem m_reading {σ : Sg} (h : Inv σ) (v1 v2 v3 : Int32) : Sim (fun s => f_X11_reading s v1 v2 v3) (fun s => f_X12_reading s v1 v2 v3) σ := by
  by_cases q1 : lays (rI σ 113 0) v1 v2 = 0
  · refine ref_bad h (-2) id ?_ (fun τ ht => ?_)
    · show f_X11_reading σ v1 v2 v3 = _
      unfold f_X11_reading; rw [lay_c h, if_pos q1]; rfl
    · show f_X12_reading τ v1 v2 v3 = _
      unfold f_X12_reading; rw [pans_r, ht 113 0 (by omega), ob_some, if_pos q1]; rfl
  by_cases q2 : f_X11_between v3 (-1) 1 = 0
  · refine ref_bad h (-2) id ?_ (fun τ ht => ?_)
    · show f_X11_reading σ v1 v2 v3 = _
      unfold f_X11_reading; rw [lay_c h, if_neg q1, if_pos q2]; rfl
    · show f_X12_reading τ v1 v2 v3 = _
      unfold f_X12_reading; rw [pans_r, ht 113 0 (by omega), ob_some, if_neg q1, in_m1_1, if_pos q2]; rfl
  have h1 := h.1
  obtain ⟨a, b, c, d, e, u, hn, hw, hr⟩ := h1
  have hn2 := hn
  obtain ⟨⟨n0, ha⟩, ⟨n1, hb⟩, ⟨n2, hc⟩, ⟨n3, hd⟩, ⟨n4, he⟩, n5, hu⟩ := hn2
  obtain ⟨r1, r2, r3, r4, r5, r6, r7, r8, r9, r10, r11, r12⟩ := hr
  have hf : f_X7_isFull σ 10 = if 3 * c < 18 then 0 else 1 := full_c r5 rfl
  by_cases q9 : c < 6
  · have l0 : 3 * c < 18 := by omega
    obtain ⟨s1, a1, b1, c1⟩ := add_in v1 r5 (show 3 * c < 18 by omega)
    obtain ⟨s2, a2, b2, c2⟩ := add_in v2 b1 (show 3 * c + 1 < 18 by omega)
    obtain ⟨s3, a3, b3, c3⟩ := add_in v3 b2 (show 3 * c + 2 < 18 by omega)
    have hs : ∀ a j, (a < 10 ∨ 12 ≤ a) → rI s3 a j = rI σ a j := fun a j ha => by rw [(c3 a (by omega)).1, (c2 a (by omega)).1, (c1 a (by omega)).1]
    have hr1 : Rw s3 1 (upd (upd (upd (upd (rI σ 113) (44 + 3 * c) v1) (44 + (3 * c + 1)) v2) (44 + (3 * c + 2)) v3) 43 (nI (c + 1))) a b (c + 1) d e u := by
      refine ⟨?_, ?_, ?_, ?_, ?_, ?_, ?_, ?_, ?_, ?_, ?_, ?_⟩
      · refine r1.res (fun k j hk => hs k j (by omega)) (fun j hj => ?_); simp (disch := omega) only [pk_un]
      · refine r2.res (fun k j hk => hs k j (by omega)) (fun j hj => ?_); simp (disch := omega) only [pk_un]
      · refine r3.res (fun k j hk => hs k j (by omega)) (fun j hj => ?_); simp (disch := omega) only [pk_un]
      · refine r4.res (fun k j hk => hs k j (by omega)) (fun j hj => ?_); simp (disch := omega) only [pk_un]
      · refine b3.cong (fun j hj => ?_)
        rcases (show j < 3 * c ∨ j = 3 * c ∨ j = 3 * c + 1 ∨ j = 3 * c + 2 by omega) with q | q | q | q
        · simp (disch := omega) only [pk_un]
        · subst q; simp (disch := omega) only [pk_un, pk_us]
        · subst q; simp (disch := omega) only [pk_un, pk_us]
        · subst q; simp (disch := omega) only [pk_un, pk_us]
      · refine r6.res (fun k j hk => hs k j (by omega)) (fun j hj => ?_); simp (disch := omega) only [pk_un]
      · refine r7.res (fun k j hk => hs k j (by omega)) (fun j hj => ?_); simp (disch := omega) only [pk_un]
      · refine r8.res (fun k j hk => hs k j (by omega)) (fun j hj => ?_); simp (disch := omega) only [pk_un]
      · rw [hs _ _ (by omega), r9]; simp (disch := omega) only [pk_un]
      · rw [hs _ _ (by omega), r10]; simp (disch := omega) only [pk_un]
      · refine r11.res (fun k j hk => hs k j (by omega)) (fun j hj => ?_); simp (disch := omega) only [pk_un]
      · refine r12.res (fun k j hk => hs k j (by omega)) (fun j hj => ?_); simp (disch := omega) only [pk_un]
    have hn1 : Nm (upd (upd (upd (upd (rI σ 113) (44 + 3 * c) v1) (44 + (3 * c + 1)) v2) (44 + (3 * c + 2)) v3) 43 (nI (c + 1))) a b (c + 1) d e u := by
      refine ⟨⟨?_, ha⟩, ⟨?_, hb⟩, ⟨?_, by omega⟩, ⟨?_, hd⟩, ⟨?_, he⟩, ?_, hu⟩ <;> simp (disch := omega) only [pk_un, pk_us, n0, n1, n2, n3, n4, n5]
    have hw1 : Wf (upd (upd (upd (upd (rI σ 113) (44 + 3 * c) v1) (44 + (3 * c + 1)) v2) (44 + (3 * c + 2)) v3) 43 (nI (c + 1))) a b d e u := by
      obtain ⟨w1, w2, w3, w4, w5, w6⟩ := hw
      refine ⟨fun k hk => ?_, fun k hk => ?_, fun i hi => ?_, fun i hi => ?_, ⟨fun k hk => ?_, ?_, ?_⟩, fun i hi => ?_⟩
      · simp (disch := omega) only [pk_un]; exact w1 k hk
      · simp (disch := omega) only [pk_un]; exact w2 k hk
      · simp (disch := omega) only [pk_un]; exact w3 i hi
      · simp (disch := omega) only [pk_un]; exact w4 i hi
      · simp (disch := omega) only [pk_un]; exact w5.1 k hk
      · simp (disch := omega) only [pk_un]; exact w5.2.1
      · simp (disch := omega) only [pk_un]; exact w5.2.2
      · have w7 := w6 i hi
        unfold mom at w7 ⊢
        simp (disch := omega) only [pk_un]
        exact w7
    have hP : Un Pk σ s3 := ((c1.un (fun a j p q => by unfold Pk; omega)).trans (c2.un (fun a j p q => by unfold Pk; omega))).trans (c3.un (fun a j p q => by unfold Pk; omega))
    refine ⟨nI (c + 1), s3, stI (stI (stI (stI (s3) 113 (44 + 3 * c) v1) 113 (44 + (3 * c + 1)) v2) 113 (44 + (3 * c + 2)) v3) 113 43 (nI (c + 1)), ?_, ?_, Inv_two h ⟨_, _, _, _, _, _, hn1, hw1, hr1⟩ hP ((((Un.stI _ _ _ _ (by unfold Pr; omega)).trans (Un.stI _ _ _ _ (by unfold Pr; omega))).trans (Un.stI _ _ _ _ (by unfold Pr; omega))).trans (Un.stI _ _ _ _ (by unfold Pr; omega))) (fun j hj => ?_)⟩
    · show f_X11_reading σ v1 v2 v3 = _
      unfold f_X11_reading
      rw [lay_c h, if_neg q1, if_neg q2, hf, if_pos l0, if_pos rfl, show f_X7_add σ 10 v1 = _ from a1, ob_some, show f_X7_add s1 10 v2 = _ from a2, ob_some, show f_X7_add s2 10 v3 = _ from a3, ob_some]
      show some (rI s3 10 1 / 3, s3) = _
      rw [b3.2.1, L3, pk_div (by omega) (by omega) (by omega)]
      congr 3
      omega
    · show f_X12_reading s3 v1 v2 v3 = _
      unfold f_X12_reading
      rw [pans_r, Pk_w hP, ob_some, if_neg q1, in_m1_1, if_neg q2]
      simp (disch := omega) only [L1, L2, L3, L4, L6, L43, L44, nI_add, pk_mul, Nat.add_assoc, i113, if_true, if_false, nam_e, ix_nI, Pk_w hP, n2, n3, n4, eqF, rI_nj, rI_eq]
    · simp only [rI_stI, upd, true_and, Pk_w hP]
  · have : c = 6 := by omega
    subst this
    refine ref_full h ?_ (fun τ ht => ?_)
    · show f_X11_reading σ v1 v2 v3 = _
      unfold f_X11_reading
      rw [lay_c h, if_neg q1, if_neg q2, hf, if_neg (by decide)]
    · show f_X12_reading τ v1 v2 v3 = _
      unfold f_X12_reading
      rw [pans_r, ht 113 0 (by omega), ob_some, if_neg q1, in_m1_1, if_neg q2, if_pos (show inb 43 (kLen 113) = true from i113 (n := 43) (by omega)), show rI τ 113 (ix 43) = 6 from (ht 113 43 (by omega)).trans n2, if_pos rfl]
theorem m_note {σ : Sg} (h : Inv σ) (v1 v2 v3 v4 : Int32) : Sim (fun s => f_X11_note s v1 v2 v3 v4) (fun s => f_X12_note s v1 v2 v3 v4) σ := by
  by_cases q1 : f_X11_between v1 0 (rI σ 113 0 - 1) = 0
  · refine ref_bad h (-2) id ?_ (fun τ ht => ?_)
    · show f_X11_note σ v1 v2 v3 v4 = _
      unfold f_X11_note; rw [hasK_c h, if_pos q1]; rfl
    · show f_X12_note τ v1 v2 v3 v4 = _
      unfold f_X12_note; rw [isK_r, ht 113 0 (by omega), ob_some, if_pos q1]; rfl
  by_cases q2 : f_X11_between v2 1 250 = 0
  · refine ref_bad h (-2) id ?_ (fun τ ht => ?_)
    · show f_X11_note σ v1 v2 v3 v4 = _
      unfold f_X11_note; rw [hasK_c h, if_neg q1, if_pos q2]; rfl
    · show f_X12_note τ v1 v2 v3 v4 = _
      unfold f_X12_note; rw [isK_r, ht 113 0 (by omega), ob_some, if_neg q1, in_1_250, if_pos q2]; rfl
  by_cases q3 : f_X11_between v3 0 99 = 0
  · refine ref_bad h (-2) id ?_ (fun τ ht => ?_)
    · show f_X11_note σ v1 v2 v3 v4 = _
      unfold f_X11_note; rw [hasK_c h, if_neg q1, if_neg q2, if_pos q3]; rfl
    · show f_X12_note τ v1 v2 v3 v4 = _
      unfold f_X12_note; rw [isK_r, ht 113 0 (by omega), ob_some, if_neg q1, in_1_250, if_neg q2, in_0_99, if_pos q3]; rfl
  by_cases q4 : f_X11_between v4 1 250 = 0
  · refine ref_bad h (-2) id ?_ (fun τ ht => ?_)
    · show f_X11_note σ v1 v2 v3 v4 = _
      unfold f_X11_note; rw [hasK_c h, if_neg q1, if_neg q2, if_neg q3, if_pos q4]; rfl
    · show f_X12_note τ v1 v2 v3 v4 = _
      unfold f_X12_note; rw [isK_r, ht 113 0 (by omega), ob_some, if_neg q1, in_1_250, if_neg q2, in_0_99, if_neg q3, in_1_250, if_pos q4]; rfl
  have h1 := h.1
  obtain ⟨a, b, c, d, e, u, hn, hw, hr⟩ := h1
  have hn2 := hn
  obtain ⟨⟨n0, ha⟩, ⟨n1, hb⟩, ⟨n2, hc⟩, ⟨n3, hd⟩, ⟨n4, he⟩, n5, hu⟩ := hn2
  obtain ⟨r1, r2, r3, r4, r5, r6, r7, r8, r9, r10, r11, r12⟩ := hr
  have hf : f_X7_isFull σ 12 = if 4 * d < 24 then 0 else 1 := full_c r6 rfl
  by_cases q9 : d < 6
  · have l0 : 4 * d < 24 := by omega
    obtain ⟨s1, a1, b1, c1⟩ := add_in v1 r6 (show 4 * d < 24 by omega)
    obtain ⟨s2, a2, b2, c2⟩ := add_in v2 b1 (show 4 * d + 1 < 24 by omega)
    obtain ⟨s3, a3, b3, c3⟩ := add_in v3 b2 (show 4 * d + 2 < 24 by omega)
    obtain ⟨s4, a4, b4, c4⟩ := add_in v4 b3 (show 4 * d + 3 < 24 by omega)
    have hs : ∀ a j, (a < 12 ∨ 14 ≤ a) → rI s4 a j = rI σ a j := fun a j ha => by rw [(c4 a (by omega)).1, (c3 a (by omega)).1, (c2 a (by omega)).1, (c1 a (by omega)).1]
    have hr1 : Rw s4 1 (upd (upd (upd (upd (upd (rI σ 113) (63 + 4 * d) v1) (63 + (4 * d + 1)) v2) (63 + (4 * d + 2)) v3) (63 + (4 * d + 3)) v4) 62 (nI (d + 1))) a b c (d + 1) e u := by
      refine ⟨?_, ?_, ?_, ?_, ?_, ?_, ?_, ?_, ?_, ?_, ?_, ?_⟩
      · refine r1.res (fun k j hk => hs k j (by omega)) (fun j hj => ?_); simp (disch := omega) only [pk_un]
      · refine r2.res (fun k j hk => hs k j (by omega)) (fun j hj => ?_); simp (disch := omega) only [pk_un]
      · refine r3.res (fun k j hk => hs k j (by omega)) (fun j hj => ?_); simp (disch := omega) only [pk_un]
      · refine r4.res (fun k j hk => hs k j (by omega)) (fun j hj => ?_); simp (disch := omega) only [pk_un]
      · refine r5.res (fun k j hk => hs k j (by omega)) (fun j hj => ?_); simp (disch := omega) only [pk_un]
      · refine b4.cong (fun j hj => ?_)
        rcases (show j < 4 * d ∨ j = 4 * d ∨ j = 4 * d + 1 ∨ j = 4 * d + 2 ∨ j = 4 * d + 3 by omega) with q | q | q | q | q
        · simp (disch := omega) only [pk_un]
        · subst q; simp (disch := omega) only [pk_un, pk_us]
        · subst q; simp (disch := omega) only [pk_un, pk_us]
        · subst q; simp (disch := omega) only [pk_un, pk_us]
        · subst q; simp (disch := omega) only [pk_un, pk_us]
      · refine r7.res (fun k j hk => hs k j (by omega)) (fun j hj => ?_); simp (disch := omega) only [pk_un]
      · refine r8.res (fun k j hk => hs k j (by omega)) (fun j hj => ?_); simp (disch := omega) only [pk_un]
      · rw [hs _ _ (by omega), r9]; simp (disch := omega) only [pk_un]
      · rw [hs _ _ (by omega), r10]; simp (disch := omega) only [pk_un]
      · refine r11.res (fun k j hk => hs k j (by omega)) (fun j hj => ?_); simp (disch := omega) only [pk_un]
      · refine r12.res (fun k j hk => hs k j (by omega)) (fun j hj => ?_); simp (disch := omega) only [pk_un]
    have hn1 : Nm (upd (upd (upd (upd (upd (rI σ 113) (63 + 4 * d) v1) (63 + (4 * d + 1)) v2) (63 + (4 * d + 2)) v3) (63 + (4 * d + 3)) v4) 62 (nI (d + 1))) a b c (d + 1) e u := by
      refine ⟨⟨?_, ha⟩, ⟨?_, hb⟩, ⟨?_, hc⟩, ⟨?_, by omega⟩, ⟨?_, he⟩, ?_, hu⟩ <;> simp (disch := omega) only [pk_un, pk_us, n0, n1, n2, n3, n4, n5]
    have hw1 : Wf (upd (upd (upd (upd (upd (rI σ 113) (63 + 4 * d) v1) (63 + (4 * d + 1)) v2) (63 + (4 * d + 2)) v3) (63 + (4 * d + 3)) v4) 62 (nI (d + 1))) a b (d + 1) e u := by
      obtain ⟨w1, w2, w3, w4, w5, w6⟩ := hw
      refine ⟨fun k hk => ?_, fun k hk => ?_, fun i hi => ?_, fun i hi => ?_, ⟨fun k hk => ?_, ?_, ?_⟩, fun i hi => ?_⟩
      · simp (disch := omega) only [pk_un]; exact w1 k hk
      · simp (disch := omega) only [pk_un]; exact w2 k hk
      · by_cases q : i = d
        · subst q
          simp (disch := omega) only [pk_un, pk_us]
          exact btw_of (lo := 1) (hi := 250) (by omega) q2 (by omega)
        · simp (disch := omega) only [pk_un]; exact w3 i (by omega)
      · simp (disch := omega) only [pk_un]; exact w4 i hi
      · simp (disch := omega) only [pk_un]; exact w5.1 k hk
      · simp (disch := omega) only [pk_un]; exact w5.2.1
      · simp (disch := omega) only [pk_un]; exact w5.2.2
      · have w7 := w6 i hi
        unfold mom at w7 ⊢
        simp (disch := omega) only [pk_un]
        exact w7
    have hP : Un Pk σ s4 := (((c1.un (fun a j p q => by unfold Pk; omega)).trans (c2.un (fun a j p q => by unfold Pk; omega))).trans (c3.un (fun a j p q => by unfold Pk; omega))).trans (c4.un (fun a j p q => by unfold Pk; omega))
    refine ⟨nI (d + 1), s4, stI (stI (stI (stI (stI (s4) 113 (63 + 4 * d) v1) 113 (63 + (4 * d + 1)) v2) 113 (63 + (4 * d + 2)) v3) 113 (63 + (4 * d + 3)) v4) 113 62 (nI (d + 1)), ?_, ?_, Inv_two h ⟨_, _, _, _, _, _, hn1, hw1, hr1⟩ hP (((((Un.stI _ _ _ _ (by unfold Pr; omega)).trans (Un.stI _ _ _ _ (by unfold Pr; omega))).trans (Un.stI _ _ _ _ (by unfold Pr; omega))).trans (Un.stI _ _ _ _ (by unfold Pr; omega))).trans (Un.stI _ _ _ _ (by unfold Pr; omega))) (fun j hj => ?_)⟩
    · show f_X11_note σ v1 v2 v3 v4 = _
      unfold f_X11_note
      rw [hasK_c h, if_neg q1, if_neg q2, if_neg q3, if_neg q4, hf, if_pos l0, if_pos rfl, show f_X7_add σ 12 v1 = _ from a1, ob_some, show f_X7_add s1 12 v2 = _ from a2, ob_some, show f_X7_add s2 12 v3 = _ from a3, ob_some, show f_X7_add s3 12 v4 = _ from a4, ob_some]
      show some (rI s4 12 1 / 4, s4) = _
      rw [b4.2.1, L4, pk_div (by omega) (by omega) (by omega)]
      congr 3
      omega
    · show f_X12_note s4 v1 v2 v3 v4 = _
      unfold f_X12_note
      rw [isK_r, Pk_w hP, ob_some, if_neg q1, in_1_250, if_neg q2, in_0_99, if_neg q3, in_1_250, if_neg q4]
      simp (disch := omega) only [L1, L2, L3, L4, L6, L62, L63, nI_add, pk_mul, Nat.add_assoc, i113, if_true, if_false, nam_e, ix_nI, Pk_w hP, n2, n3, n4, eqF, rI_nj, rI_eq]
    · simp only [rI_stI, upd, true_and, Pk_w hP]
  · have : d = 6 := by omega
    subst this
    refine ref_full h ?_ (fun τ ht => ?_)
    · show f_X11_note σ v1 v2 v3 v4 = _
      unfold f_X11_note
      rw [hasK_c h, if_neg q1, if_neg q2, if_neg q3, if_neg q4, hf, if_neg (by decide)]
    · show f_X12_note τ v1 v2 v3 v4 = _
      unfold f_X12_note
      rw [isK_r, ht 113 0 (by omega), ob_some, if_neg q1, in_1_250, if_neg q2, in_0_99, if_neg q3, in_1_250, if_neg q4, if_pos (show inb 62 (kLen 113) = true from i113 (n := 62) (by omega)), show rI τ 113 (ix 62) = 6 from (ht 113 62 (by omega)).trans n3, if_pos rfl]
theorem m_tipped {σ : Sg} (h : Inv σ) (v1 v2 v3 v4 : Int32) : Sim (fun s => f_X11_tipped s v1 v2 v3 v4) (fun s => f_X12_tipped s v1 v2 v3 v4) σ := by
  by_cases q1 : f_X11_between v1 0 (rI σ 113 1 - 1) = 0
  · refine ref_bad h (-2) id ?_ (fun τ ht => ?_)
    · show f_X11_tipped σ v1 v2 v3 v4 = _
      unfold f_X11_tipped; rw [hasB_c h, if_pos q1]; rfl
    · show f_X12_tipped τ v1 v2 v3 v4 = _
      unfold f_X12_tipped; rw [isB_r, ht 113 1 (by omega), ob_some, if_pos q1]; rfl
  by_cases q2 : f_X11_between v2 0 999 = 0
  · refine ref_bad h (-2) id ?_ (fun τ ht => ?_)
    · show f_X11_tipped σ v1 v2 v3 v4 = _
      unfold f_X11_tipped; rw [hasB_c h, if_neg q1, if_pos q2]; rfl
    · show f_X12_tipped τ v1 v2 v3 v4 = _
      unfold f_X12_tipped; rw [isB_r, ht 113 1 (by omega), ob_some, if_neg q1, in_0_999, if_pos q2]; rfl
  by_cases q3 : f_X11_between v3 0 999 = 0
  · refine ref_bad h (-2) id ?_ (fun τ ht => ?_)
    · show f_X11_tipped σ v1 v2 v3 v4 = _
      unfold f_X11_tipped; rw [hasB_c h, if_neg q1, if_neg q2, if_pos q3]; rfl
    · show f_X12_tipped τ v1 v2 v3 v4 = _
      unfold f_X12_tipped; rw [isB_r, ht 113 1 (by omega), ob_some, if_neg q1, in_0_999, if_neg q2, in_0_999, if_pos q3]; rfl
  by_cases q4 : f_X11_between v4 (-1) 1 = 0
  · refine ref_bad h (-2) id ?_ (fun τ ht => ?_)
    · show f_X11_tipped σ v1 v2 v3 v4 = _
      unfold f_X11_tipped; rw [hasB_c h, if_neg q1, if_neg q2, if_neg q3, if_pos q4]; rfl
    · show f_X12_tipped τ v1 v2 v3 v4 = _
      unfold f_X12_tipped; rw [isB_r, ht 113 1 (by omega), ob_some, if_neg q1, in_0_999, if_neg q2, in_0_999, if_neg q3, in_m1_1, if_pos q4]; rfl
  have h1 := h.1
  obtain ⟨a, b, c, d, e, u, hn, hw, hr⟩ := h1
  have hn2 := hn
  obtain ⟨⟨n0, ha⟩, ⟨n1, hb⟩, ⟨n2, hc⟩, ⟨n3, hd⟩, ⟨n4, he⟩, n5, hu⟩ := hn2
  obtain ⟨r1, r2, r3, r4, r5, r6, r7, r8, r9, r10, r11, r12⟩ := hr
  have hf : f_X7_isFull σ 14 = if 4 * e < 24 then 0 else 1 := full_c r7 rfl
  by_cases q9 : e < 6
  · have l0 : 4 * e < 24 := by omega
    obtain ⟨s1, a1, b1, c1⟩ := add_in v1 r7 (show 4 * e < 24 by omega)
    obtain ⟨s2, a2, b2, c2⟩ := add_in v2 b1 (show 4 * e + 1 < 24 by omega)
    obtain ⟨s3, a3, b3, c3⟩ := add_in v3 b2 (show 4 * e + 2 < 24 by omega)
    obtain ⟨s4, a4, b4, c4⟩ := add_in v4 b3 (show 4 * e + 3 < 24 by omega)
    have hs : ∀ a j, (a < 14 ∨ 16 ≤ a) → rI s4 a j = rI σ a j := fun a j ha => by rw [(c4 a (by omega)).1, (c3 a (by omega)).1, (c2 a (by omega)).1, (c1 a (by omega)).1]
    have hr1 : Rw s4 1 (upd (upd (upd (upd (upd (rI σ 113) (88 + 4 * e) v1) (88 + (4 * e + 1)) v2) (88 + (4 * e + 2)) v3) (88 + (4 * e + 3)) v4) 87 (nI (e + 1))) a b c d (e + 1) u := by
      refine ⟨?_, ?_, ?_, ?_, ?_, ?_, ?_, ?_, ?_, ?_, ?_, ?_⟩
      · refine r1.res (fun k j hk => hs k j (by omega)) (fun j hj => ?_); simp (disch := omega) only [pk_un]
      · refine r2.res (fun k j hk => hs k j (by omega)) (fun j hj => ?_); simp (disch := omega) only [pk_un]
      · refine r3.res (fun k j hk => hs k j (by omega)) (fun j hj => ?_); simp (disch := omega) only [pk_un]
      · refine r4.res (fun k j hk => hs k j (by omega)) (fun j hj => ?_); simp (disch := omega) only [pk_un]
      · refine r5.res (fun k j hk => hs k j (by omega)) (fun j hj => ?_); simp (disch := omega) only [pk_un]
      · refine r6.res (fun k j hk => hs k j (by omega)) (fun j hj => ?_); simp (disch := omega) only [pk_un]
      · refine b4.cong (fun j hj => ?_)
        rcases (show j < 4 * e ∨ j = 4 * e ∨ j = 4 * e + 1 ∨ j = 4 * e + 2 ∨ j = 4 * e + 3 by omega) with q | q | q | q | q
        · simp (disch := omega) only [pk_un]
        · subst q; simp (disch := omega) only [pk_un, pk_us]
        · subst q; simp (disch := omega) only [pk_un, pk_us]
        · subst q; simp (disch := omega) only [pk_un, pk_us]
        · subst q; simp (disch := omega) only [pk_un, pk_us]
      · refine r8.res (fun k j hk => hs k j (by omega)) (fun j hj => ?_); simp (disch := omega) only [pk_un]
      · rw [hs _ _ (by omega), r9]; simp (disch := omega) only [pk_un]
      · rw [hs _ _ (by omega), r10]; simp (disch := omega) only [pk_un]
      · refine r11.res (fun k j hk => hs k j (by omega)) (fun j hj => ?_); simp (disch := omega) only [pk_un]
      · refine r12.res (fun k j hk => hs k j (by omega)) (fun j hj => ?_); simp (disch := omega) only [pk_un]
    have hn1 : Nm (upd (upd (upd (upd (upd (rI σ 113) (88 + 4 * e) v1) (88 + (4 * e + 1)) v2) (88 + (4 * e + 2)) v3) (88 + (4 * e + 3)) v4) 87 (nI (e + 1))) a b c d (e + 1) u := by
      refine ⟨⟨?_, ha⟩, ⟨?_, hb⟩, ⟨?_, hc⟩, ⟨?_, hd⟩, ⟨?_, by omega⟩, ?_, hu⟩ <;> simp (disch := omega) only [pk_un, pk_us, n0, n1, n2, n3, n4, n5]
    have hw1 : Wf (upd (upd (upd (upd (upd (rI σ 113) (88 + 4 * e) v1) (88 + (4 * e + 1)) v2) (88 + (4 * e + 2)) v3) (88 + (4 * e + 3)) v4) 87 (nI (e + 1))) a b d (e + 1) u := by
      obtain ⟨w1, w2, w3, w4, w5, w6⟩ := hw
      refine ⟨fun k hk => ?_, fun k hk => ?_, fun i hi => ?_, fun i hi => ?_, ⟨fun k hk => ?_, ?_, ?_⟩, fun i hi => ?_⟩
      · simp (disch := omega) only [pk_un]; exact w1 k hk
      · simp (disch := omega) only [pk_un]; exact w2 k hk
      · simp (disch := omega) only [pk_un]; exact w3 i hi
      · by_cases q : i = e
        · subst q
          simp (disch := omega) only [pk_un, pk_us]
          exact ⟨btw_of (lo := 0) (hi := 999) (by omega) q2 (by omega), btw_of (lo := 0) (hi := 999) (by omega) q3 (by omega)⟩
        · simp (disch := omega) only [pk_un]; exact w4 i (by omega)
      · simp (disch := omega) only [pk_un]; exact w5.1 k hk
      · simp (disch := omega) only [pk_un]; exact w5.2.1
      · simp (disch := omega) only [pk_un]; exact w5.2.2
      · have w7 := w6 i hi
        unfold mom at w7 ⊢
        simp (disch := omega) only [pk_un]
        exact w7
    have hP : Un Pk σ s4 := (((c1.un (fun a j p q => by unfold Pk; omega)).trans (c2.un (fun a j p q => by unfold Pk; omega))).trans (c3.un (fun a j p q => by unfold Pk; omega))).trans (c4.un (fun a j p q => by unfold Pk; omega))
    refine ⟨nI (e + 1), s4, stI (stI (stI (stI (stI (s4) 113 (88 + 4 * e) v1) 113 (88 + (4 * e + 1)) v2) 113 (88 + (4 * e + 2)) v3) 113 (88 + (4 * e + 3)) v4) 113 87 (nI (e + 1)), ?_, ?_, Inv_two h ⟨_, _, _, _, _, _, hn1, hw1, hr1⟩ hP (((((Un.stI _ _ _ _ (by unfold Pr; omega)).trans (Un.stI _ _ _ _ (by unfold Pr; omega))).trans (Un.stI _ _ _ _ (by unfold Pr; omega))).trans (Un.stI _ _ _ _ (by unfold Pr; omega))).trans (Un.stI _ _ _ _ (by unfold Pr; omega))) (fun j hj => ?_)⟩
    · show f_X11_tipped σ v1 v2 v3 v4 = _
      unfold f_X11_tipped
      rw [hasB_c h, if_neg q1, if_neg q2, if_neg q3, if_neg q4, hf, if_pos l0, if_pos rfl, show f_X7_add σ 14 v1 = _ from a1, ob_some, show f_X7_add s1 14 v2 = _ from a2, ob_some, show f_X7_add s2 14 v3 = _ from a3, ob_some, show f_X7_add s3 14 v4 = _ from a4, ob_some]
      show some (rI s4 14 1 / 4, s4) = _
      rw [b4.2.1, L4, pk_div (by omega) (by omega) (by omega)]
      congr 3
      omega
    · show f_X12_tipped s4 v1 v2 v3 v4 = _
      unfold f_X12_tipped
      rw [isB_r, Pk_w hP, ob_some, if_neg q1, in_0_999, if_neg q2, in_0_999, if_neg q3, in_m1_1, if_neg q4]
      simp (disch := omega) only [L1, L2, L3, L4, L6, L87, L88, nI_add, pk_mul, Nat.add_assoc, i113, if_true, if_false, nam_e, ix_nI, Pk_w hP, n2, n3, n4, eqF, rI_nj, rI_eq]
    · simp only [rI_stI, upd, true_and, Pk_w hP]
  · have : e = 6 := by omega
    subst this
    refine ref_full h ?_ (fun τ ht => ?_)
    · show f_X11_tipped σ v1 v2 v3 v4 = _
      unfold f_X11_tipped
      rw [hasB_c h, if_neg q1, if_neg q2, if_neg q3, if_neg q4, hf, if_neg (by decide)]
    · show f_X12_tipped τ v1 v2 v3 v4 = _
      unfold f_X12_tipped
      rw [isB_r, ht 113 1 (by omega), ob_some, if_neg q1, in_0_999, if_neg q2, in_0_999, if_neg q3, in_m1_1, if_neg q4, if_pos (show inb 87 (kLen 113) = true from i113 (n := 87) (by omega)), show rI τ 113 (ix 87) = 6 from (ht 113 87 (by omega)).trans n4, if_pos rfl]
