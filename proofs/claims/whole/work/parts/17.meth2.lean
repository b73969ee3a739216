theorem rowIs.ext {σ : Sg} {k n : Nat} {f g' : Nat → Int32} {v : Int32} (h : rowIs σ k (n + 1) (upd f n v)) (h1 : g' n = v) (h2 : ∀ j, j < n → g' j = f j) : rowIs σ k (n + 1) g' := h.cong (fun j hj => by
  unfold upd
  by_cases q : j = n
  · rw [if_pos q, q, h1]
  · rw [if_neg q, h2 j (by omega)])
theorem rowIs.res {σ τ : Sg} {k n : Nat} {f g' : Nat → Int32} (h : rowIs σ k n f) (hs : ∀ a j, (a = k ∨ a = k + 1) → rI τ a j = rI σ a j) (hf : ∀ j, j < n → f j = g' j) : rowIs τ k n g' := (h.same (fun j => hs k j (Or.inl rfl)) (fun j => hs (k + 1) j (Or.inr rfl))).cong hf
def addsG (g : Nat → Int32) (a : Nat) (kd ho w : Int32) : Nat → Int32 := upd (upd (upd (upd (upd (upd g (4 + a) kd) (11 + a) ho) (18 + a) w) (25 + a) w) (32 + a) 5) 0 (nI (a + 1))
theorem adds_r {σ : Sg} {r a : Nat} (kd ho w : Int32) (hr : r ≤ 723) (ha : a < 7) (hN : rI σ 113 r = nI a) : ∃ τ, f_X12_adds σ (nI r) kd ho w = some τ ∧ (∀ j, rI τ 113 (r + j) = addsG (fun j => rI σ 113 (r + j)) a kd ho w j) ∧ Un (fun a j => a = 113 ∧ r ≤ j ∧ j < r + 241) σ τ := by
  refine ⟨stI (stI (stI (stI (stI (stI σ 113 (r + (4 + a)) kd) 113 (r + (11 + a)) ho) 113 (r + (18 + a)) w) 113 (r + (25 + a)) w) 113 (r + (32 + a)) 5) 113 r (nI (a + 1)), ?_, fun j => ?_, ?_⟩
  · unfold f_X12_adds
    simp (disch := omega) only [L0, L4, L11, L18, L25, L32, nI_add, Nat.add_assoc, Nat.add_zero, ix_nI, hN, i113, if_true, nam_e, rI_nj, nI_1]
  · simp (disch := omega) only [rI_stI, addsG, upd, true_and, Nat.add_left_cancel_iff, Nat.add_eq_left]
  · exact (((((Un.stI _ _ _ _ ⟨rfl, by omega, by omega⟩).trans (Un.stI _ _ _ _ ⟨rfl, by omega, by omega⟩)).trans (Un.stI _ _ _ _ ⟨rfl, by omega, by omega⟩)).trans (Un.stI _ _ _ _ ⟨rfl, by omega, by omega⟩)).trans (Un.stI _ _ _ _ ⟨rfl, by omega, by omega⟩)).trans (Un.stI _ _ _ _ ⟨rfl, by omega, by omega⟩)
theorem addK_c {σ : Sg} {M a b c d e u : Nat} {g : Nat → Int32} (kd ho w : Int32) (hM : isM M) (ha : a < 7) (hb : b ≤ 4) (hc : c ≤ 6) (hd : d ≤ 6) (he : e ≤ 6) (hu : u ≤ 8) (h : Rw σ M g a b c d e u) : ∃ τ, f_X3_addKeeper σ M kd ho w = some τ ∧ Rw τ M (addsG g a kd ho w) (a + 1) b c d e u ∧ Only M (M + 22) σ τ := by
  obtain ⟨r1, r2, r3, r4, r5, r6, r7, r8, r9, r10, r11, r12⟩ := h
  obtain ⟨l1, l2, l3, l4, l5, l6, l7, l8, l9, l10⟩ := mkl hM
  obtain ⟨s1, a1, b1, c1⟩ := add_in kd r1 (by omega)
  obtain ⟨s2, a2, b2, c2⟩ := add_in ho (r2.keep c1 (by omega)) (by omega)
  obtain ⟨s3, a3, b3, c3⟩ := add_in w ((r3.keep c1 (by omega)).keep c2 (by omega)) (by omega)
  obtain ⟨s4, a4, b4, c4⟩ := add_in w (((r11.keep c1 (by omega)).keep c2 (by omega)).keep c3 (by omega)) (by omega)
  obtain ⟨s5, a5, b5, c5⟩ := add_in 5 ((((r12.keep c1 (by omega)).keep c2 (by omega)).keep c3 (by omega)).keep c4 (by omega)) (by omega)
  have hs : ∀ k j, (M + 7 ≤ k ∧ k < M + 18 ∨ k < M) → rI s5 k j = rI σ k j := fun k j hk => by
    rw [(c5 k (by omega)).1, (c4 k (by omega)).1, (c3 k (by omega)).1, (c2 k (by omega)).1, (c1 k (by omega)).1]
  refine ⟨s5, ?_, ⟨?_, ?_, ?_, ?_, ?_, ?_, ?_, ?_, ?_, ?_, ?_, ?_⟩, ?_⟩
  · unfold f_X3_addKeeper
    simp only [a1, a2, a3, a4, a5, ob_some]
  · refine ((((b1.keep c2 (by omega)).keep c3 (by omega)).keep c4 (by omega)).keep c5 (by omega)).ext ?_ (fun j hj => ?_) <;> simp (disch := omega) only [addsG, pk_un, pk_us]
  · refine (((b2.keep c3 (by omega)).keep c4 (by omega)).keep c5 (by omega)).ext ?_ (fun j hj => ?_) <;> simp (disch := omega) only [addsG, pk_un, pk_us]
  · refine ((b3.keep c4 (by omega)).keep c5 (by omega)).ext ?_ (fun j hj => ?_) <;> simp (disch := omega) only [addsG, pk_un, pk_us]
  · refine r4.res (fun k j hk => hs k j (by omega)) (fun j hj => ?_); simp (disch := omega) only [addsG, pk_un]
  · refine r5.res (fun k j hk => hs k j (by omega)) (fun j hj => ?_); simp (disch := omega) only [addsG, pk_un]
  · refine r6.res (fun k j hk => hs k j (by omega)) (fun j hj => ?_); simp (disch := omega) only [addsG, pk_un]
  · refine r7.res (fun k j hk => hs k j (by omega)) (fun j hj => ?_); simp (disch := omega) only [addsG, pk_un]
  · refine r8.res (fun k j hk => hs k j (by omega)) (fun j hj => ?_); simp (disch := omega) only [addsG, pk_un]
  · rw [hs _ _ (by omega), r9]; simp (disch := omega) only [addsG, pk_un]
  · rw [hs _ _ (by omega), r10]; simp (disch := omega) only [addsG, pk_un]
  · refine (b4.keep c5 (by omega)).ext ?_ (fun j hj => ?_) <;> simp (disch := omega) only [addsG, pk_un, pk_us]
  · refine b5.ext ?_ (fun j hj => ?_) <;> simp (disch := omega) only [addsG, pk_un, pk_us]
  · exact ((((c1.mono (by omega) (by omega)).trans (c2.mono (by omega) (by omega))).trans (c3.mono (by omega) (by omega))).trans (c4.mono (by omega) (by omega))).trans (c5.mono (by omega) (by omega))
theorem adds_nm {g : Nat → Int32} {a b c d e u kd ho w : Nat} (ha : a < 7) (hn : Nm g a b c d e u) : Nm (addsG g a (nI kd) (nI ho) (nI w)) (a + 1) b c d e u := by
  obtain ⟨n0, n1, n2, n3, n4, n5⟩ := hn
  refine ⟨⟨?_, by omega⟩, ⟨?_, n1.2⟩, ⟨?_, n2.2⟩, ⟨?_, n3.2⟩, ⟨?_, n4.2⟩, ?_, n5.2⟩ <;> simp (disch := omega) only [addsG, pk_un, pk_us, n1, n2, n3, n4, n5]
theorem adds_wf {g : Nat → Int32} {a b d e u kd ho w : Nat} (ha : a < 7) (hb : b ≤ 4) (hd : d ≤ 6) (he : e ≤ 6) (hw : Wf g a b d e u) (h1 : kd ≤ 5) (h2 : ho ≤ 11) (h3 : 1 ≤ w) (h4 : w ≤ 250) : Wf (addsG g a (nI kd) (nI ho) (nI w)) (a + 1) b d e 0 := by
  obtain ⟨w1, w2, w3, w4, w5, w6⟩ := hw
  refine ⟨fun k hk => ?_, fun k hk => ?_, fun i hi => ?_, fun i hi => ?_, ⟨fun k hk => ⟨fun h5 => ?_, fun h5 => ?_⟩, ?_, ?_⟩, fun i hi => absurd hi (by omega)⟩
  · by_cases q : k = a
    · subst q
      simp (disch := omega) only [addsG, pk_un, pk_us]
      exact ⟨vIn.mk (by omega) h1, vIn.mk (by omega) h2, vIn.mk h3 h4⟩
    · simp (disch := omega) only [addsG, pk_un]
      exact w1 k (by omega)
  · simp (disch := omega) only [addsG, pk_un]
    exact w2 k hk
  · simp (disch := omega) only [addsG, pk_un]
    exact w3 i hi
  · simp (disch := omega) only [addsG, pk_un]
    exact w4 i hi
  · by_cases q : k = a
    · subst q
      simp (disch := omega) only [addsG, pk_un, pk_us]
      exact ⟨vIn.mk h3 h4, 5, by omega, by omega, rfl⟩
    · simp (disch := omega) only [addsG, pk_un]
      exact (w5.1 k hk).1 (by omega)
  · simp (disch := omega) only [addsG, pk_un]
    exact (w5.1 k hk).2 (by omega)
  · simp (disch := omega) only [addsG, pk_un]
    exact w5.2.1
  · simp (disch := omega) only [addsG, pk_un]
    exact w5.2.2
/-- the past is forgotten -/
def noPast (g : Nat → Int32) : Nat → Int32 := upd g 112 0
theorem forget_nm {g : Nat → Int32} {a b c d e u : Nat} (hn : Nm g a b c d e u) : Nm (noPast g) a b c d e 0 := by
  obtain ⟨n0, n1, n2, n3, n4, n5⟩ := hn
  refine ⟨⟨?_, n0.2⟩, ⟨?_, n1.2⟩, ⟨?_, n2.2⟩, ⟨?_, n3.2⟩, ⟨?_, n4.2⟩, ?_, by omega⟩
  · simp (disch := omega) only [noPast, pk_un, n0]
  · simp (disch := omega) only [noPast, pk_un, n1]
  · simp (disch := omega) only [noPast, pk_un, n2]
  · simp (disch := omega) only [noPast, pk_un, n3]
  · simp (disch := omega) only [noPast, pk_un, n4]
  · exact pk_us
theorem forget_wf {g : Nat → Int32} {a b d e u : Nat} (ha : a ≤ 7) (hb : b ≤ 4) (hd : d ≤ 6) (he : e ≤ 6) (hw : Wf g a b d e u) : Wf (noPast g) a b d e 0 := by
  obtain ⟨w1, w2, w3, w4, w5, w6⟩ := hw
  refine ⟨fun k hk => ?_, fun k hk => ?_, fun i hi => ?_, fun i hi => ?_, ⟨fun k hk => ?_, ?_, ?_⟩, fun i hi => absurd hi (by omega)⟩
  · simp (disch := omega) only [noPast, pk_un]; exact w1 k hk
  · simp (disch := omega) only [noPast, pk_un]; exact w2 k hk
  · simp (disch := omega) only [noPast, pk_un]; exact w3 i hi
  · simp (disch := omega) only [noPast, pk_un]; exact w4 i hi
  · simp (disch := omega) only [noPast, pk_un]; exact w5.1 k hk
  · simp (disch := omega) only [noPast, pk_un]; exact w5.2.1
  · simp (disch := omega) only [noPast, pk_un]; exact w5.2.2
theorem forget_c {σ : Sg} {M a b c d e u : Nat} {g : Nat → Int32} (ha : a ≤ 7) (hb : b ≤ 4) (hc : c ≤ 6) (hd : d ≤ 6) (he : e ≤ 6) (h : Rw σ M g a b c d e u) : ∃ τ, f_X7_restart σ (M + 15) = some τ ∧ Rw τ M (noPast g) a b c d e 0 ∧ Only M (M + 22) σ τ := by
  obtain ⟨r1, r2, r3, r4, r5, r6, r7, r8, r9, r10, r11, r12⟩ := h
  obtain ⟨τ, e1, e2, e3⟩ := restart_in σ (M + 15) (fun j => noPast g (113 + pp j))
  have hs : ∀ k j, (k < M + 15 ∨ M + 17 ≤ k) → rI τ k j = rI σ k j := fun k j hk => (e3 k (by omega)).1 j
  refine ⟨τ, e1, ⟨?_, ?_, ?_, ?_, ?_, ?_, ?_, e2, ?_, ?_, ?_, ?_⟩, e3.mono (by omega) (by omega)⟩
  · refine r1.res (fun k j hk => hs k j (by omega)) (fun j hj => ?_); simp (disch := omega) only [noPast, pk_un]
  · refine r2.res (fun k j hk => hs k j (by omega)) (fun j hj => ?_); simp (disch := omega) only [noPast, pk_un]
  · refine r3.res (fun k j hk => hs k j (by omega)) (fun j hj => ?_); simp (disch := omega) only [noPast, pk_un]
  · refine r4.res (fun k j hk => hs k j (by omega)) (fun j hj => ?_); simp (disch := omega) only [noPast, pk_un]
  · refine r5.res (fun k j hk => hs k j (by omega)) (fun j hj => ?_); simp (disch := omega) only [noPast, pk_un]
  · refine r6.res (fun k j hk => hs k j (by omega)) (fun j hj => ?_); simp (disch := omega) only [noPast, pk_un]
  · refine r7.res (fun k j hk => hs k j (by omega)) (fun j hj => ?_); simp (disch := omega) only [noPast, pk_un]
  · rw [hs _ _ (by omega), r9]; simp (disch := omega) only [noPast, pk_un]
  · rw [hs _ _ (by omega), r10]; simp (disch := omega) only [noPast, pk_un]
  · refine r11.res (fun k j hk => hs k j (by omega)) (fun j hj => ?_); simp (disch := omega) only [noPast, pk_un]
  · refine r12.res (fun k j hk => hs k j (by omega)) (fun j hj => ?_); simp (disch := omega) only [noPast, pk_un]
