theorem M1 : isM 1 := Or.inl rfl
theorem full_c {σ : Sg} {k n m : Nat} {f : Nat → Int32} (h : rowIs σ k n f) (hk : kLen (k + 1) = m) : f_X7_isFull σ k = if n < m then 0 else 1 := by
  rw [isFull_in h, hk]
theorem Pk_wf {σ τ : Sg} (h : Un Pk σ τ) : (fun j => rI τ 113 (0 + j)) = rI σ 113 := funext (fun j => by rw [Nat.zero_add]; exact Pk_w h j)
theorem m_keeper {σ : Sg} (h : Inv σ) (v1 v2 v3 : Int32) : Sim (fun s => f_X11_keeper s v1 v2 v3) (fun s => f_X12_keeper s v1 v2 v3) σ := by
  by_cases q1 : f_X11_between v1 0 5 = 0
  · refine ref_bad h (-2) id ?_ (fun τ _ => ?_)
    · unfold f_X11_keeper; rw [if_pos (show f_X11_isKind v1 = 0 from q1)]; rfl
    · unfold f_X12_keeper; rw [in_0_5, if_pos q1]; rfl
  by_cases q2 : f_X11_between v2 0 11 = 0
  · refine ref_bad h (-2) id ?_ (fun τ _ => ?_)
    · unfold f_X11_keeper; rw [if_neg (show ¬ f_X11_isKind v1 = 0 from q1), if_pos q2]; rfl
    · unfold f_X12_keeper; rw [in_0_5, if_neg q1, in_0_11, if_pos q2]; rfl
  by_cases q3 : f_X11_between v3 1 250 = 0
  · refine ref_bad h (-2) id ?_ (fun τ _ => ?_)
    · unfold f_X11_keeper; rw [if_neg (show ¬ f_X11_isKind v1 = 0 from q1), if_neg q2, if_pos q3]; rfl
    · unfold f_X12_keeper; rw [in_0_5, if_neg q1, in_0_11, if_neg q2, in_1_250, if_pos q3]; rfl
  have h1 := h.1
  obtain ⟨a, b, c, d, e, u, hn, hw, hr⟩ := h1
  have hn2 := hn
  obtain ⟨⟨n0, ha⟩, ⟨n1, hb⟩, ⟨n2, hc⟩, ⟨n3, hd⟩, ⟨n4, he⟩, n5, hu⟩ := hn2
  have hf : f_X7_isFull σ 2 = if a < 7 then 0 else 1 := full_c hr.1 rfl
  by_cases q4 : a < 7
  · obtain ⟨x1, p1, p2, rfl⟩ := btw_of (lo := 0) (hi := 5) (by omega) q1 (by omega)
    obtain ⟨x2, p3, p4, rfl⟩ := btw_of (lo := 0) (hi := 11) (by omega) q2 (by omega)
    obtain ⟨x3, p5, p6, rfl⟩ := btw_of (lo := 1) (hi := 250) (by omega) q3 (by omega)
    obtain ⟨s1, e1, e2, e3⟩ := addK_c (nI x1) (nI x2) (nI x3) M1 q4 hb hc hd he hu hr
    obtain ⟨s2, g1, g2, g3⟩ := forget_c (by omega) hb hc hd he e2
    have hP : Un Pk σ s2 := (e3.un (fun a j p q => by unfold Pk; omega)).trans (g3.un (fun a j p q => by unfold Pk; omega))
    obtain ⟨s3, k1, k2, k3⟩ := adds_r (σ := s2) (r := 0) (nI x1) (nI x2) (nI x3) (by omega) q4 (by rw [Pk_w hP]; exact n0)
    refine ⟨nI a, s2, stI s3 113 112 0, ?_, ?_, Inv_two h ⟨a + 1, b, c, d, e, 0, forget_nm (adds_nm q4 hn), forget_wf (by omega) hb hd he (adds_wf q4 hb hd he hw p2 p4 p5 p6), g2⟩ hP ((k3.mono (fun a j q => by unfold Pr; omega)).trans (Un.stI _ _ _ _ (by unfold Pr; omega))) (fun j hj => ?_)⟩
    · show f_X11_keeper σ (nI x1) (nI x2) (nI x3) = _
      unfold f_X11_keeper
      rw [if_neg (show ¬ f_X11_isKind (nI x1) = 0 from q1), if_neg q2, if_neg q3, hf, if_pos q4, if_pos rfl, e1, ob_some]
      show (f_X7_restart s1 (1 + 15)).bind _ = _
      rw [g1, ob_some]
      show some (rI s2 2 1 - 1, s2) = _
      rw [show rI s2 2 1 = nI (a + 1) from g2.1.2.1, nI_pred]
    · show f_X12_keeper s2 (nI x1) (nI x2) (nI x3) = _
      have k4 : f_X12_adds s2 0 (nI x1) (nI x2) (nI x3) = some s3 := k1
      unfold f_X12_keeper
      rw [in_0_5, if_neg q1, in_0_11, if_neg q2, in_1_250, if_neg q3, if_pos (show inb 0 (kLen 113) = true from i113 (n := 0) (by omega)), show rI s2 113 (ix 0) = nI a from (Pk_w hP 0).trans n0, if_neg (show ¬ nI a = 7 from fun z => absurd (nIinj (b := 7) (by omega) (by omega) z) (by omega)), k4, ob_some, if_pos (show inb 112 (kLen 113) = true from i113 (n := 112) (by omega)), nam_e, if_pos (show inb 0 (kLen 113) = true from i113 (n := 0) (by omega))]
      have k5 : rI s3 113 0 = nI (a + 1) := by
        have := k2 0
        simp (disch := omega) only [Nat.zero_add, addsG, pk_us] at this
        exact this
      show some (rI (stI s3 113 112 0) 113 0 - 1, stI s3 113 112 0) = _
      rw [rI_nj _ _ (by omega), k5, nI_pred]
    · have := k2 j
      rw [Nat.zero_add] at this
      rw [rI_stI]
      unfold noPast upd
      by_cases q : j = 112
      · rw [if_pos ⟨rfl, q⟩, if_pos q]
      · rw [if_neg (fun z => q z.2), if_neg q, this, Pk_wf hP]
  · have : a = 7 := by omega
    subst this
    refine ref_full h ?_ (fun τ ht => ?_)
    · show f_X11_keeper σ v1 v2 v3 = _
      unfold f_X11_keeper
      rw [if_neg (show ¬ f_X11_isKind v1 = 0 from q1), if_neg q2, if_neg q3, hf, if_neg q4, if_neg (by decide)]
    · show f_X12_keeper τ v1 v2 v3 = _
      unfold f_X12_keeper
      rw [in_0_5, if_neg q1, in_0_11, if_neg q2, in_1_250, if_neg q3, if_pos (show inb 0 (kLen 113) = true from i113 (n := 0) (by omega)), show rI τ 113 (ix 0) = 7 from (ht 113 0 (by omega)).trans n0, if_pos rfl]
theorem upd_vIn {f : Nat → Int32} {k : Nat} {v : Int32} {lo hi : Nat} (j : Nat) (hv : vIn v lo hi) (h : j ≠ k → vIn (f j) lo hi) : vIn (upd f k v j) lo hi := by
  unfold upd
  by_cases q : j = k
  · rw [if_pos q]; exact hv
  · rw [if_neg q]; exact h q
theorem put_c {σ : Sg} {k n j : Nat} {f g' : Nat → Int32} (v : Int32) (h : rowIs σ k n f) (hj : j < n) (hg : ∀ i, i < n → g' i = upd f j v i) : ∃ τ, f_X7_put σ k (nI j) v = some τ ∧ rowIs τ k n g' ∧ Only k (k + 2) σ τ := by
  obtain ⟨τ, e1, e2, e3⟩ := put_in v h hj
  exact ⟨τ, e1, e2.cong (fun i hi => (hg i hi).symm), e3⟩
theorem m_held {σ : Sg} (h : Inv σ) (v1 v2 : Int32) : Sim (fun s => f_X11_held s v1 v2) (fun s => f_X12_held s v1 v2) σ := by
  by_cases q1 : f_X11_between v1 0 (rI σ 113 0 - 1) = 0
  · refine ref_bad h (-2) id ?_ (fun τ ht => ?_)
    · show f_X11_held σ v1 v2 = _
      unfold f_X11_held; rw [hasK_c h, if_pos q1]; rfl
    · show f_X12_held τ v1 v2 = _
      unfold f_X12_held; rw [isK_r, ht 113 0 (by omega), ob_some, if_pos q1]; rfl
  by_cases q2 : f_X11_between v2 1 250 = 0
  · refine ref_bad h (-2) id ?_ (fun τ ht => ?_)
    · show f_X11_held σ v1 v2 = _
      unfold f_X11_held; rw [hasK_c h, if_neg q1, if_pos q2]; rfl
    · show f_X12_held τ v1 v2 = _
      unfold f_X12_held; rw [isK_r, ht 113 0 (by omega), ob_some, if_neg q1, in_1_250, if_pos q2]; rfl
  have h1 := h.1
  obtain ⟨a, b, c, d, e, u, hn, hw, hr⟩ := h1
  have hn2 := hn
  obtain ⟨⟨n0, ha⟩, ⟨n1, hb⟩, ⟨n2, hc⟩, ⟨n3, hd⟩, ⟨n4, he⟩, n5, hu⟩ := hn2
  have q1' := q1
  rw [n0] at q1'
  obtain ⟨k, hk, rfl⟩ := hk_of (by omega) q1'
  obtain ⟨x, p5, p6, rfl⟩ := btw_of (lo := 1) (hi := 250) (by omega) q2 (by omega)
  obtain ⟨r1, r2, r3, r4, r5, r6, r7, r8, r9, r10, r11, r12⟩ := hr
  obtain ⟨s1, e1, e2, e3⟩ := put_c (g' := fun j => upd (rI σ 113) (25 + k) (nI x) (25 + j)) (nI x) r3 hk (fun i hi => by
    simp only [upd, Nat.add_left_cancel_iff])
  have hs : ∀ a j, (a < 6 ∨ 8 ≤ a) → rI s1 a j = rI σ a j := fun a j ha => (e3 a (by omega)).1 j
  have hr1 : Rw s1 1 (upd (rI σ 113) (25 + k) (nI x)) a b c d e u := by
    refine ⟨?_, ?_, e2, ?_, ?_, ?_, ?_, ?_, ?_, ?_, ?_, ?_⟩
    · refine r1.res (fun k j hk => hs k j (by omega)) (fun j hj => ?_); simp (disch := omega) only [pk_un]
    · refine r2.res (fun k j hk => hs k j (by omega)) (fun j hj => ?_); simp (disch := omega) only [pk_un]
    · refine r4.res (fun k j hk => hs k j (by omega)) (fun j hj => ?_); simp (disch := omega) only [pk_un]
    · refine r5.res (fun k j hk => hs k j (by omega)) (fun j hj => ?_); simp (disch := omega) only [pk_un]
    · refine r6.res (fun k j hk => hs k j (by omega)) (fun j hj => ?_); simp (disch := omega) only [pk_un]
    · refine r7.res (fun k j hk => hs k j (by omega)) (fun j hj => ?_); simp (disch := omega) only [pk_un]
    · refine r8.res (fun k j hk => hs k j (by omega)) (fun j hj => ?_); simp (disch := omega) only [pk_un]
    · rw [hs _ _ (by omega), r9]; simp (disch := omega) only [pk_un]
    · rw [hs _ _ (by omega), r10]; simp (disch := omega) only [pk_un]
    · refine r11.res (fun k j hk => hs k j (by omega)) (fun j hj => ?_); simp (disch := omega) only [pk_un]
    · refine r12.res (fun k j hk => hs k j (by omega)) (fun j hj => ?_); simp (disch := omega) only [pk_un]
  have hn1 : Nm (upd (rI σ 113) (25 + k) (nI x)) a b c d e u := by
    refine ⟨⟨?_, ha⟩, ⟨?_, hb⟩, ⟨?_, hc⟩, ⟨?_, hd⟩, ⟨?_, he⟩, ?_, hu⟩ <;> simp (disch := omega) only [pk_un, n0, n1, n2, n3, n4, n5]
  have hw1 : Wf (upd (rI σ 113) (25 + k) (nI x)) a b d e 0 := by
    obtain ⟨w1, w2, w3, w4, w5, w6⟩ := hw
    refine ⟨fun k hk => ?_, fun k hk => ?_, fun i hi => ?_, fun i hi => ?_, ⟨fun k hk => ?_, ?_, ?_⟩, fun i hi => absurd hi (by omega)⟩
    · simp (disch := omega) only [pk_un]
      exact ⟨(w1 k hk).1, (w1 k hk).2.1, upd_vIn _ (vIn.mk p5 p6) (fun _ => (w1 k hk).2.2)⟩
    · simp (disch := omega) only [pk_un]; exact w2 k hk
    · simp (disch := omega) only [pk_un]; exact w3 i hi
    · simp (disch := omega) only [pk_un]; exact w4 i hi
    · simp (disch := omega) only [pk_un]; exact w5.1 k hk
    · simp (disch := omega) only [pk_un]; exact w5.2.1
    · simp (disch := omega) only [pk_un]; exact w5.2.2
  obtain ⟨s2, g1, g2, g3⟩ := forget_c ha hb hc hd he hr1
  have hP : Un Pk σ s2 := (e3.un (fun a j p q => by unfold Pk; omega)).trans (g3.un (fun a j p q => by unfold Pk; omega))
  refine ⟨rI σ 113 (25 + k), s2, stI (stI s2 113 (25 + k) (nI x)) 113 112 0, ?_, ?_, Inv_two h ⟨a, b, c, d, e, 0, forget_nm hn1, forget_wf ha hb hd he hw1, g2⟩ hP ((Un.stI _ _ _ _ (by unfold Pr; omega)).trans (Un.stI _ _ _ _ (by unfold Pr; omega))) (fun j hj => ?_)⟩
  · show f_X11_held σ (nI k) (nI x) = _
    unfold f_X11_held
    rw [hasK_c h, if_neg q1, if_neg q2, show f_X7_at σ 6 (nI k) = _ from at_in r3 hk, ob_some, show f_X7_put σ 6 (nI k) (nI x) = _ from e1, ob_some, show f_X7_restart s1 16 = _ from g1, ob_some]
  · show f_X12_held s2 (nI k) (nI x) = _
    unfold f_X12_held
    rw [isK_r, Pk_w hP, ob_some, if_neg q1, in_1_250, if_neg q2]
    simp (disch := omega) only [L25, L112, nI_add, i113, if_true, nam_e, ix_nI, Pk_w hP]
  · simp only [noPast, rI_stI, upd, true_and, Pk_w hP]
