/-! ===== the law, all cases ===== -/
theorem lcs (r : Int64) : lg_cmp r r = 0 := (lg_cmp_eq r r).mpr rfl
theorem in_s {i L j : Nat} (h : i + 5 ≤ L) (hL : L ≤ 320) (hj : j < 5) : inb (nI i + nI j) L = true := by
  rw [nI_add]; exact inb_nI (by omega) (by omega)
theorem in_s1 {i L : Nat} (h : i + 5 ≤ L) (hL : L ≤ 320) : inb (nI i + 1) L = true := in_s (j := 1) h hL (by omega)
theorem in_s2 {i L : Nat} (h : i + 5 ≤ L) (hL : L ≤ 320) : inb (nI i + 2) L = true := in_s (j := 2) h hL (by omega)
theorem in_s3 {i L : Nat} (h : i + 5 ≤ L) (hL : L ≤ 320) : inb (nI i + 3) L = true := in_s (j := 3) h hL (by omega)
theorem in_s4 {i L : Nat} (h : i + 5 ≤ L) (hL : L ≤ 320) : inb (nI i + 4) L = true := in_s (j := 4) h hL (by omega)
theorem lp_0 {xs : Nat → Int32} {L i : Nat} {nxt : Sg → Int32 → Option Int32} {σ : Sg} (h : Inv σ) (hi : i + 5 ≤ L) (hL : L ≤ 320) (hn : ∀ τ, Inv τ → nxt τ (nI i) = some 1) : lf_0 xs L nxt σ (nI i) = some 1 := by
  obtain ⟨r, σ1, σ2, e1, e2, e3⟩ := m_market h
  unfold lf_0
  rw [show f_X11_market σ = some (r, σ1) from e1, bnd_some, show f_X12_market σ1 = some (r, σ2) from e2, bnd_some, if_pos rfl]
  exact hn _ e3
theorem lp_1 {xs : Nat → Int32} {L i : Nat} {nxt : Sg → Int32 → Option Int32} {σ : Sg} (h : Inv σ) (hi : i + 5 ≤ L) (hL : L ≤ 320) (hn : ∀ τ, Inv τ → nxt τ (nI i) = some 1) : lf_1 xs L nxt σ (nI i) = some 1 := by
  obtain ⟨r, σ1, σ2, e1, e2, e3⟩ := m_keeper h (xs (ix (nI i + 1))) (xs (ix (nI i + 2))) (xs (ix (nI i + 3)))
  unfold lf_1
  simp only [in_s1 hi hL, in_s2 hi hL, in_s3 hi hL, if_true]
  rw [show f_X11_keeper σ (xs (ix (nI i + 1))) (xs (ix (nI i + 2))) (xs (ix (nI i + 3))) = some (r, σ1) from e1, bnd_some, show f_X12_keeper σ1 (xs (ix (nI i + 1))) (xs (ix (nI i + 2))) (xs (ix (nI i + 3))) = some (r, σ2) from e2, bnd_some, if_pos rfl]
  exact hn _ e3
theorem lp_2 {xs : Nat → Int32} {L i : Nat} {nxt : Sg → Int32 → Option Int32} {σ : Sg} (h : Inv σ) (hi : i + 5 ≤ L) (hL : L ≤ 320) (hn : ∀ τ, Inv τ → nxt τ (nI i) = some 1) : lf_2 xs L nxt σ (nI i) = some 1 := by
  obtain ⟨r, σ1, σ2, e1, e2, e3⟩ := m_held h (xs (ix (nI i + 1))) (xs (ix (nI i + 2)))
  unfold lf_2
  simp only [in_s1 hi hL, in_s2 hi hL, if_true]
  rw [show f_X11_held σ (xs (ix (nI i + 1))) (xs (ix (nI i + 2))) = some (r, σ1) from e1, bnd_some, show f_X12_held σ1 (xs (ix (nI i + 1))) (xs (ix (nI i + 2))) = some (r, σ2) from e2, bnd_some, if_pos rfl]
  exact hn _ e3
theorem lp_3 {xs : Nat → Int32} {L i : Nat} {nxt : Sg → Int32 → Option Int32} {σ : Sg} (h : Inv σ) (hi : i + 5 ≤ L) (hL : L ≤ 320) (hn : ∀ τ, Inv τ → nxt τ (nI i) = some 1) : lf_3 xs L nxt σ (nI i) = some 1 := by
  obtain ⟨r, σ1, σ2, e1, e2, e3⟩ := m_balance h (xs (ix (nI i + 1)))
  unfold lf_3
  simp only [in_s1 hi hL, if_true]
  rw [show f_X11_balance σ (xs (ix (nI i + 1))) = some (r, σ1) from e1, bnd_some, show f_X12_balance σ1 (xs (ix (nI i + 1))) = some (r, σ2) from e2, bnd_some, if_pos rfl]
  exact hn _ e3
theorem lp_4 {xs : Nat → Int32} {L i : Nat} {nxt : Sg → Int32 → Option Int32} {σ : Sg} (h : Inv σ) (hi : i + 5 ≤ L) (hL : L ≤ 320) (hn : ∀ τ, Inv τ → nxt τ (nI i) = some 1) : lf_4 xs L nxt σ (nI i) = some 1 := by
  obtain ⟨r, σ1, σ2, e1, e2, e3⟩ := m_type h (xs (ix (nI i + 1)))
  unfold lf_4
  simp only [in_s1 hi hL, if_true]
  rw [show f_X11_type σ (xs (ix (nI i + 1))) = some (r, σ1) from e1, bnd_some, show f_X12_type σ1 (xs (ix (nI i + 1))) = some (r, σ2) from e2, bnd_some, if_pos rfl]
  exact hn _ e3
theorem lp_5 {xs : Nat → Int32} {L i : Nat} {nxt : Sg → Int32 → Option Int32} {σ : Sg} (h : Inv σ) (hi : i + 5 ≤ L) (hL : L ≤ 320) (hn : ∀ τ, Inv τ → nxt τ (nI i) = some 1) : lf_5 xs L nxt σ (nI i) = some 1 := by
  obtain ⟨r, σ1, σ2, e1, e2, e3⟩ := m_clear h
  unfold lf_5
  rw [show f_X11_clear σ = some (r, σ1) from e1, bnd_some, show f_X12_clear σ1 = some (r, σ2) from e2, bnd_some, if_pos rfl]
  exact hn _ e3
theorem lp_6 {xs : Nat → Int32} {L i : Nat} {nxt : Sg → Int32 → Option Int32} {σ : Sg} (h : Inv σ) (hi : i + 5 ≤ L) (hL : L ≤ 320) (hn : ∀ τ, Inv τ → nxt τ (nI i) = some 1) : lf_6 xs L nxt σ (nI i) = some 1 := by
  obtain ⟨r, σ1, σ2, e1, e2, e3⟩ := m_read h
  unfold lf_6
  rw [show f_X11_read σ = some (r, σ1) from e1, bnd_some, show f_X12_read σ1 = some (r, σ2) from e2, bnd_some, if_pos rfl]
  exact hn _ e3
theorem lp_7 {xs : Nat → Int32} {L i : Nat} {nxt : Sg → Int32 → Option Int32} {σ : Sg} (h : Inv σ) (hi : i + 5 ≤ L) (hL : L ≤ 320) (hn : ∀ τ, Inv τ → nxt τ (nI i) = some 1) : lf_7 xs L nxt σ (nI i) = some 1 := by
  obtain ⟨r, σ1, σ2, e1, e2, e3⟩ := m_visit h (xs (ix (nI i + 1))) (xs (ix (nI i + 2)))
  unfold lf_7
  simp only [in_s1 hi hL, in_s2 hi hL, if_true]
  rw [show f_X11_visit σ (xs (ix (nI i + 1))) (xs (ix (nI i + 2))) = some (r, σ1) from e1, bnd_some, show f_X12_visit σ1 (xs (ix (nI i + 1))) (xs (ix (nI i + 2))) = some (r, σ2) from e2, bnd_some, if_pos rfl]
  exact hn _ e3
theorem lp_8 {xs : Nat → Int32} {L i : Nat} {nxt : Sg → Int32 → Option Int32} {σ : Sg} (h : Inv σ) (hi : i + 5 ≤ L) (hL : L ≤ 320) (hn : ∀ τ, Inv τ → nxt τ (nI i) = some 1) : lf_8 xs L nxt σ (nI i) = some 1 := by
  obtain ⟨r, σ1, σ2, e1, e2, e3⟩ := m_day h (xs (ix (nI i + 1)))
  unfold lf_8
  simp only [in_s1 hi hL, if_true]
  rw [show f_X11_day σ (xs (ix (nI i + 1))) = some (r, σ1) from e1, bnd_some, show f_X12_day σ1 (xs (ix (nI i + 1))) = some (r, σ2) from e2, bnd_some, if_pos rfl]
  exact hn _ e3
theorem lp_9 {xs : Nat → Int32} {L i : Nat} {nxt : Sg → Int32 → Option Int32} {σ : Sg} (h : Inv σ) (hi : i + 5 ≤ L) (hL : L ≤ 320) (hn : ∀ τ, Inv τ → nxt τ (nI i) = some 1) : lf_9 xs L nxt σ (nI i) = some 1 := by
  obtain ⟨r, σ1, σ2, e1, e2, e3⟩ := m_undo h
  unfold lf_9
  rw [show f_X11_undo σ = some (r, σ1) from e1, bnd_some, show f_X12_undo σ1 = some (r, σ2) from e2, bnd_some, if_pos rfl]
  exact hn _ e3
theorem lp_10 {xs : Nat → Int32} {L i : Nat} {nxt : Sg → Int32 → Option Int32} {σ : Sg} (h : Inv σ) (hi : i + 5 ≤ L) (hL : L ≤ 320) (hn : ∀ τ, Inv τ → nxt τ (nI i) = some 1) : lf_10 xs L nxt σ (nI i) = some 1 := by
  obtain ⟨r, σ1, σ2, e1, e2, e3⟩ := m_of h (xs (ix (nI i + 1))) (xs (ix (nI i + 2)))
  unfold lf_10
  simp only [in_s1 hi hL, in_s2 hi hL, if_true]
  rw [show f_X11_of σ (xs (ix (nI i + 1))) (xs (ix (nI i + 2))) = some (r, σ1) from e1, bnd_some, show f_X12_of σ1 (xs (ix (nI i + 1))) (xs (ix (nI i + 2))) = some (r, σ2) from e2, bnd_some, if_pos rfl]
  exact hn _ e3
theorem lp_11 {xs : Nat → Int32} {L i : Nat} {nxt : Sg → Int32 → Option Int32} {σ : Sg} (h : Inv σ) (hi : i + 5 ≤ L) (hL : L ≤ 320) (hn : ∀ τ, Inv τ → nxt τ (nI i) = some 1) : lf_11 xs L nxt σ (nI i) = some 1 := by
  obtain ⟨r, σ1, σ2, e1, e2, e3⟩ := m_then h (xs (ix (nI i + 1))) (xs (ix (nI i + 2)))
  unfold lf_11
  simp only [in_s1 hi hL, in_s2 hi hL, if_true]
  rw [show f_X11_then σ (xs (ix (nI i + 1))) (xs (ix (nI i + 2))) = some (r, σ1) from e1, bnd_some, show f_X12_then σ1 (xs (ix (nI i + 1))) (xs (ix (nI i + 2))) = some (r, σ2) from e2, bnd_some, if_pos rfl]
  exact hn _ e3
theorem lp_12 {xs : Nat → Int32} {L i : Nat} {nxt : Sg → Int32 → Option Int32} {σ : Sg} (h : Inv σ) (hi : i + 5 ≤ L) (hL : L ≤ 320) (hn : ∀ τ, Inv τ → nxt τ (nI i) = some 1) : lf_12 xs L nxt σ (nI i) = some 1 := by
  obtain ⟨r, σ1, σ2, e1, e2, e3⟩ := m_off h (xs (ix (nI i + 1))) (xs (ix (nI i + 2)))
  unfold lf_12
  simp only [in_s1 hi hL, in_s2 hi hL, if_true]
  rw [show f_X11_off σ (xs (ix (nI i + 1))) (xs (ix (nI i + 2))) = some (r, σ1) from e1, bnd_some, show f_X12_off σ1 (xs (ix (nI i + 1))) (xs (ix (nI i + 2))) = some (r, σ2) from e2, bnd_some, if_pos rfl]
  exact hn _ e3
theorem lp_13 {xs : Nat → Int32} {L i : Nat} {nxt : Sg → Int32 → Option Int32} {σ : Sg} (h : Inv σ) (hi : i + 5 ≤ L) (hL : L ≤ 320) (hn : ∀ τ, Inv τ → nxt τ (nI i) = some 1) : lf_13 xs L nxt σ (nI i) = some 1 := by
  obtain ⟨r, σ1, σ2, e1, e2, e3⟩ := m_load h (xs (ix (nI i + 1))) (xs (ix (nI i + 2))) (xs (ix (nI i + 3)))
  unfold lf_13
  simp only [in_s1 hi hL, in_s2 hi hL, in_s3 hi hL, if_true]
  rw [show f_X11_load σ (xs (ix (nI i + 1))) (xs (ix (nI i + 2))) (xs (ix (nI i + 3))) = some (r, σ1) from e1, bnd_some, show f_X12_load σ1 (xs (ix (nI i + 1))) (xs (ix (nI i + 2))) (xs (ix (nI i + 3))) = some (r, σ2) from e2, bnd_some, if_pos rfl]
  exact hn _ e3
theorem lp_14 {xs : Nat → Int32} {L i : Nat} {nxt : Sg → Int32 → Option Int32} {σ : Sg} (h : Inv σ) (hi : i + 5 ≤ L) (hL : L ≤ 320) (hn : ∀ τ, Inv τ → nxt τ (nI i) = some 1) : lf_14 xs L nxt σ (nI i) = some 1 := by
  obtain ⟨r, σ1, σ2, e1, e2, e3⟩ := m_gain h (xs (ix (nI i + 1))) (xs (ix (nI i + 2)))
  unfold lf_14
  simp only [in_s1 hi hL, in_s2 hi hL, if_true]
  rw [show f_X11_gain σ (xs (ix (nI i + 1))) (xs (ix (nI i + 2))) = some (r, σ1) from e1, bnd_some, show f_X12_gain σ1 (xs (ix (nI i + 1))) (xs (ix (nI i + 2))) = some (r, σ2) from e2, bnd_some, if_pos rfl]
  exact hn _ e3
theorem lp_15 {xs : Nat → Int32} {L i : Nat} {nxt : Sg → Int32 → Option Int32} {σ : Sg} (h : Inv σ) (hi : i + 5 ≤ L) (hL : L ≤ 320) (hn : ∀ τ, Inv τ → nxt τ (nI i) = some 1) : lf_15 xs L nxt σ (nI i) = some 1 := by
  obtain ⟨r, σ1, σ2, e1, e2, e3⟩ := m_round h (xs (ix (nI i + 1))) (xs (ix (nI i + 2)))
  unfold lf_15
  simp only [in_s1 hi hL, in_s2 hi hL, if_true]
  rw [show f_X11_round σ (xs (ix (nI i + 1))) (xs (ix (nI i + 2))) = some (r, σ1) from e1, bnd_some, show f_X12_round σ1 (xs (ix (nI i + 1))) (xs (ix (nI i + 2))) = some (r, σ2) from e2, bnd_some, if_pos rfl]
  exact hn _ e3
theorem lp_16 {xs : Nat → Int32} {L i : Nat} {nxt : Sg → Int32 → Option Int32} {σ : Sg} (h : Inv σ) (hi : i + 5 ≤ L) (hL : L ≤ 320) (hn : ∀ τ, Inv τ → nxt τ (nI i) = some 1) : lf_16 xs L nxt σ (nI i) = some 1 := by
  obtain ⟨r, σ1, σ2, e1, e2, e3⟩ := m_gifts h (xs (ix (nI i + 1)))
  unfold lf_16
  simp only [in_s1 hi hL, if_true]
  rw [show f_X11_gifts σ (xs (ix (nI i + 1))) = some (r, σ1) from e1, bnd_some, show f_X12_gifts σ1 (xs (ix (nI i + 1))) = some (r, σ2) from e2, bnd_some, if_pos rfl]
  exact hn _ e3
theorem lp_17 {xs : Nat → Int32} {L i : Nat} {nxt : Sg → Int32 → Option Int32} {σ : Sg} (h : Inv σ) (hi : i + 5 ≤ L) (hL : L ≤ 320) (hn : ∀ τ, Inv τ → nxt τ (nI i) = some 1) : lf_17 xs L nxt σ (nI i) = some 1 := by
  obtain ⟨r, σ1, σ2, e1, e2, e3⟩ := m_tips h (xs (ix (nI i + 1))) (xs (ix (nI i + 2))) (xs (ix (nI i + 3)))
  unfold lf_17
  simp only [in_s1 hi hL, in_s2 hi hL, in_s3 hi hL, if_true]
  rw [show f_X11_tips σ (xs (ix (nI i + 1))) (xs (ix (nI i + 2))) (xs (ix (nI i + 3))) = some (r, σ1) from e1, bnd_some, show f_X12_tips σ1 (xs (ix (nI i + 1))) (xs (ix (nI i + 2))) (xs (ix (nI i + 3))) = some (r, σ2) from e2, bnd_some, if_pos rfl]
  exact hn _ e3
theorem lp_18 {xs : Nat → Int32} {L i : Nat} {nxt : Sg → Int32 → Option Int32} {σ : Sg} (h : Inv σ) (hi : i + 5 ≤ L) (hL : L ≤ 320) (hn : ∀ τ, Inv τ → nxt τ (nI i) = some 1) : lf_18 xs L nxt σ (nI i) = some 1 := by
  obtain ⟨r, σ1, σ2, e1, e2, e3⟩ := m_reading h (xs (ix (nI i + 1))) (xs (ix (nI i + 2))) (xs (ix (nI i + 3)))
  unfold lf_18
  simp only [in_s1 hi hL, in_s2 hi hL, in_s3 hi hL, if_true]
  rw [show f_X11_reading σ (xs (ix (nI i + 1))) (xs (ix (nI i + 2))) (xs (ix (nI i + 3))) = some (r, σ1) from e1, bnd_some, show f_X12_reading σ1 (xs (ix (nI i + 1))) (xs (ix (nI i + 2))) (xs (ix (nI i + 3))) = some (r, σ2) from e2, bnd_some, if_pos rfl]
  exact hn _ e3
theorem lp_19 {xs : Nat → Int32} {L i : Nat} {nxt : Sg → Int32 → Option Int32} {σ : Sg} (h : Inv σ) (hi : i + 5 ≤ L) (hL : L ≤ 320) (hn : ∀ τ, Inv τ → nxt τ (nI i) = some 1) : lf_19 xs L nxt σ (nI i) = some 1 := by
  obtain ⟨r, σ1, σ2, e1, e2, e3⟩ := m_maybe h (xs (ix (nI i + 1)))
  unfold lf_19
  simp only [in_s1 hi hL, if_true]
  rw [show f_X11_maybe σ (xs (ix (nI i + 1))) = some (r, σ1) from e1, bnd_some, show f_X12_maybe σ1 (xs (ix (nI i + 1))) = some (r, σ2) from e2, bnd_some, if_pos rfl]
  exact hn _ e3
theorem lp_20 {xs : Nat → Int32} {L i : Nat} {nxt : Sg → Int32 → Option Int32} {σ : Sg} (h : Inv σ) (hi : i + 5 ≤ L) (hL : L ≤ 320) (hn : ∀ τ, Inv τ → nxt τ (nI i) = some 1) : lf_20 xs L nxt σ (nI i) = some 1 := by
  obtain ⟨r, σ1, σ2, e1, e2, e3⟩ := m_lift h
  unfold lf_20
  rw [show f_X11_lift σ = some (r, σ1) from e1, bnd_some, show f_X12_lift σ1 = some (r, σ2) from e2, bnd_some, if_pos rfl]
  exact hn _ e3
theorem lp_21 {xs : Nat → Int32} {L i : Nat} {nxt : Sg → Int32 → Option Int32} {σ : Sg} (h : Inv σ) (hi : i + 5 ≤ L) (hL : L ≤ 320) (hn : ∀ τ, Inv τ → nxt τ (nI i) = some 1) : lf_21 xs L nxt σ (nI i) = some 1 := by
  obtain ⟨r, σ1, σ2, e1, e2, e3⟩ := m_note h (xs (ix (nI i + 1))) (xs (ix (nI i + 2))) (xs (ix (nI i + 3))) (xs (ix (nI i + 4)))
  unfold lf_21
  simp only [in_s1 hi hL, in_s2 hi hL, in_s3 hi hL, in_s4 hi hL, if_true]
  rw [show f_X11_note σ (xs (ix (nI i + 1))) (xs (ix (nI i + 2))) (xs (ix (nI i + 3))) (xs (ix (nI i + 4))) = some (r, σ1) from e1, bnd_some, show f_X12_note σ1 (xs (ix (nI i + 1))) (xs (ix (nI i + 2))) (xs (ix (nI i + 3))) (xs (ix (nI i + 4))) = some (r, σ2) from e2, bnd_some, if_pos rfl]
  exact hn _ e3
theorem lp_22 {xs : Nat → Int32} {L i : Nat} {nxt : Sg → Int32 → Option Int32} {σ : Sg} (h : Inv σ) (hi : i + 5 ≤ L) (hL : L ≤ 320) (hn : ∀ τ, Inv τ → nxt τ (nI i) = some 1) : lf_22 xs L nxt σ (nI i) = some 1 := by
  obtain ⟨r, σ1, σ2, e1, e2, e3⟩ := m_tipped h (xs (ix (nI i + 1))) (xs (ix (nI i + 2))) (xs (ix (nI i + 3))) (xs (ix (nI i + 4)))
  unfold lf_22
  simp only [in_s1 hi hL, in_s2 hi hL, in_s3 hi hL, in_s4 hi hL, if_true]
  rw [show f_X11_tipped σ (xs (ix (nI i + 1))) (xs (ix (nI i + 2))) (xs (ix (nI i + 3))) (xs (ix (nI i + 4))) = some (r, σ1) from e1, bnd_some, show f_X12_tipped σ1 (xs (ix (nI i + 1))) (xs (ix (nI i + 2))) (xs (ix (nI i + 3))) (xs (ix (nI i + 4))) = some (r, σ2) from e2, bnd_some, if_pos rfl]
  exact hn _ e3
theorem lp_23 {xs : Nat → Int32} {L i : Nat} {nxt : Sg → Int32 → Option Int32} {σ : Sg} (h : Inv σ) (hi : i + 5 ≤ L) (hL : L ≤ 320) (hn : ∀ τ, Inv τ → nxt τ (nI i) = some 1) : lf_23 xs L nxt σ (nI i) = some 1 := by
  obtain ⟨r, σ1, σ2, e1, e2, e3⟩ := m_forget h (xs (ix (nI i + 1)))
  unfold lf_23
  simp only [in_s1 hi hL, if_true]
  rw [show f_X11_forget σ (xs (ix (nI i + 1))) = some (r, σ1) from e1, bnd_some, show f_X12_forget σ1 (xs (ix (nI i + 1))) = some (r, σ2) from e2, bnd_some, if_pos rfl]
  exact hn _ e3
theorem lp_24 {xs : Nat → Int32} {L i : Nat} {nxt : Sg → Int32 → Option Int32} {σ : Sg} (h : Inv σ) (hi : i + 5 ≤ L) (hL : L ≤ 320) (hn : ∀ τ, Inv τ → nxt τ (nI i) = some 1) : lf_24 xs L nxt σ (nI i) = some 1 := by
  obtain ⟨r, σ1, σ2, e1, e2, e3⟩ := m_is h (xs (ix (nI i + 1)))
  unfold lf_24
  simp only [in_s1 hi hL, if_true]
  rw [show f_X11_is σ (xs (ix (nI i + 1))) = some (r, σ1) from e1, bnd_some, show f_X12_is σ1 (xs (ix (nI i + 1))) = some (r, σ2) from e2, bnd_some, if_pos rfl]
  exact hn _ e3
theorem lp_25 {xs : Nat → Int32} {L i : Nat} {nxt : Sg → Int32 → Option Int32} {σ : Sg} (h : Inv σ) (hi : i + 5 ≤ L) (hL : L ≤ 320) (hn : ∀ τ, Inv τ → nxt τ (nI i) = some 1) : lf_25 xs L nxt σ (nI i) = some 1 := by
  obtain ⟨r, σ1, σ2, e1, e2, e3⟩ := m_watch h (xs (ix (nI i + 1)))
  unfold lf_25
  simp only [in_s1 hi hL, if_true]
  rw [show f_X11_watch σ (xs (ix (nI i + 1))) = some (r, σ1) from e1, bnd_some, show f_X12_watch σ1 (xs (ix (nI i + 1))) = some (r, σ2) from e2, bnd_some, if_pos rfl]
  exact hn _ e3
theorem lp_26 {xs : Nat → Int32} {L i : Nat} {nxt : Sg → Int32 → Option Int32} {σ : Sg} (h : Inv σ) (hi : i + 5 ≤ L) (hL : L ≤ 320) (hn : ∀ τ, Inv τ → nxt τ (nI i) = some 1) : lf_26 xs L nxt σ (nI i) = some 1 := by
  obtain ⟨r, σ1, σ2, e1, e2, e3⟩ := m_who h (xs (ix (nI i + 1)))
  unfold lf_26
  simp only [in_s1 hi hL, if_true]
  rw [show f_X11_who σ (xs (ix (nI i + 1))) = some (r, σ1) from e1, bnd_some, show f_X12_who σ1 (xs (ix (nI i + 1))) = some (r, σ2) from e2, bnd_some, if_pos rfl]
  exact hn _ e3
theorem lp_27 {xs : Nat → Int32} {L i : Nat} {nxt : Sg → Int32 → Option Int32} {σ : Sg} (h : Inv σ) (hi : i + 5 ≤ L) (hL : L ≤ 320) (hn : ∀ τ, Inv τ → nxt τ (nI i) = some 1) : lf_27 xs L nxt σ (nI i) = some 1 := by
  obtain ⟨r, σ1, σ2, e1, e2, e3⟩ := m_lay h (xs (ix (nI i + 1)))
  unfold lf_27
  simp only [in_s1 hi hL, if_true]
  rw [show f_X11_lay σ (xs (ix (nI i + 1))) = some (r, σ1) from e1, bnd_some, show f_X12_lay σ1 (xs (ix (nI i + 1))) = some (r, σ2) from e2, bnd_some, if_pos rfl]
  exact hn _ e3
theorem lp_28 {xs : Nat → Int32} {L i : Nat} {nxt : Sg → Int32 → Option Int32} {σ : Sg} (h : Inv σ) (hi : i + 5 ≤ L) (hL : L ≤ 320) (hn : ∀ τ, Inv τ → nxt τ (nI i) = some 1) : lf_28 xs L nxt σ (nI i) = some 1 := by
  obtain ⟨r, σ1, σ2, e1, e2, e3⟩ := m_buyers h (xs (ix (nI i + 1))) (xs (ix (nI i + 2)))
  unfold lf_28
  simp only [in_s1 hi hL, in_s2 hi hL, if_true]
  rw [show f_X11_buyers σ (xs (ix (nI i + 1))) (xs (ix (nI i + 2))) = some (r, σ1) from e1, bnd_some, show f_X12_buyers σ1 (xs (ix (nI i + 1))) (xs (ix (nI i + 2))) = some (r, σ2) from e2, bnd_some, if_pos rfl]
  exact hn _ e3
theorem lp_29 {xs : Nat → Int32} {L i : Nat} {nxt : Sg → Int32 → Option Int32} {σ : Sg} (h : Inv σ) (hi : i + 5 ≤ L) (hL : L ≤ 320) (hn : ∀ τ, Inv τ → nxt τ (nI i) = some 1) : lf_29 xs L nxt σ (nI i) = some 1 := by
  obtain ⟨r, σ1, σ2, e1, e2, e3⟩ := m_refusals h (xs (ix (nI i + 1))) (xs (ix (nI i + 2))) (xs (ix (nI i + 3)))
  unfold lf_29
  simp only [in_s1 hi hL, in_s2 hi hL, in_s3 hi hL, if_true]
  rw [show f_X11_refusals σ (xs (ix (nI i + 1))) (xs (ix (nI i + 2))) (xs (ix (nI i + 3))) = some (r, σ1) from e1, bnd_some, show f_X12_refusals σ1 (xs (ix (nI i + 1))) (xs (ix (nI i + 2))) (xs (ix (nI i + 3))) = some (r, σ2) from e2, bnd_some, if_pos rfl]
  exact hn _ e3
theorem lp_30 {xs : Nat → Int32} {L i : Nat} {nxt : Sg → Int32 → Option Int32} {σ : Sg} (h : Inv σ) (hi : i + 5 ≤ L) (hL : L ≤ 320) (hn : ∀ τ, Inv τ → nxt τ (nI i) = some 1) : lf_30 xs L nxt σ (nI i) = some 1 := by
  obtain ⟨r, σ1, σ2, e1, e2, e3⟩ := m_years h (xs (ix (nI i + 1))) (xs (ix (nI i + 2)))
  unfold lf_30
  simp only [in_s1 hi hL, in_s2 hi hL, if_true]
  rw [show f_X11_years σ (xs (ix (nI i + 1))) (xs (ix (nI i + 2))) = some (r, σ1) from e1, bnd_some, show f_X12_years σ1 (xs (ix (nI i + 1))) (xs (ix (nI i + 2))) = some (r, σ2) from e2, bnd_some, if_pos rfl]
  exact hn _ e3
theorem lp_31 {xs : Nat → Int32} {L i : Nat} {nxt : Sg → Int32 → Option Int32} {σ : Sg} (h : Inv σ) (hi : i + 5 ≤ L) (hL : L ≤ 320) (hn : ∀ τ, Inv τ → nxt τ (nI i) = some 1) : lf_31 xs L nxt σ (nI i) = some 1 := by
  obtain ⟨r, σ1, σ2, e1, e2, e3⟩ := m_part h (xs (ix (nI i + 1)))
  unfold lf_31
  simp only [in_s1 hi hL, if_true]
  rw [show f_X11_part σ (xs (ix (nI i + 1))) = some (r, σ1) from e1, bnd_some, show f_X12_part σ1 (xs (ix (nI i + 1))) = some (r, σ2) from e2, bnd_some, if_pos (lcs r)]
  exact hn _ e3
theorem lp_32 {xs : Nat → Int32} {L i : Nat} {nxt : Sg → Int32 → Option Int32} {σ : Sg} (h : Inv σ) (hi : i + 5 ≤ L) (hL : L ≤ 320) (hn : ∀ τ, Inv τ → nxt τ (nI i) = some 1) : lf_32 xs L nxt σ (nI i) = some 1 := by
  obtain ⟨r, σ1, σ2, e1, e2, e3⟩ := m_image h (xs (ix (nI i + 1)))
  unfold lf_32
  simp only [in_s1 hi hL, if_true]
  rw [show f_X11_image σ (xs (ix (nI i + 1))) = some (r, σ1) from e1, bnd_some, show f_X12_image σ1 (xs (ix (nI i + 1))) = some (r, σ2) from e2, bnd_some, if_pos rfl]
  exact hn _ e3
theorem lp_33 {xs : Nat → Int32} {L i : Nat} {nxt : Sg → Int32 → Option Int32} {σ : Sg} (h : Inv σ) (hi : i + 5 ≤ L) (hL : L ≤ 320) (hn : ∀ τ, Inv τ → nxt τ (nI i) = some 1) : lf_33 xs L nxt σ (nI i) = some 1 := by
  obtain ⟨r, σ1, σ2, e1, e2, e3⟩ := m_from h (xs (ix (nI i + 1)))
  unfold lf_33
  simp only [in_s1 hi hL, if_true]
  rw [show f_X11_from σ (xs (ix (nI i + 1))) = some (r, σ1) from e1, bnd_some, show f_X12_from σ1 (xs (ix (nI i + 1))) = some (r, σ2) from e2, bnd_some, if_pos rfl]
  exact hn _ e3
theorem lp_34 {xs : Nat → Int32} {L i : Nat} {nxt : Sg → Int32 → Option Int32} {σ : Sg} (h : Inv σ) (hi : i + 5 ≤ L) (hL : L ≤ 320) (hn : ∀ τ, Inv τ → nxt τ (nI i) = some 1) : lf_34 xs L nxt σ (nI i) = some 1 := by
  obtain ⟨r, σ1, σ2, e1, e2, e3⟩ := m_status h (xs (ix (nI i + 1)))
  unfold lf_34
  simp only [in_s1 hi hL, if_true]
  rw [show f_X11_status σ (xs (ix (nI i + 1))) = some (r, σ1) from e1, bnd_some, show f_X12_status σ1 (xs (ix (nI i + 1))) = some (r, σ2) from e2, bnd_some, if_pos rfl]
  exact hn _ e3
theorem lp_35 {xs : Nat → Int32} {L i : Nat} {nxt : Sg → Int32 → Option Int32} {σ : Sg} (h : Inv σ) (hi : i + 5 ≤ L) (hL : L ≤ 320) (hn : ∀ τ, Inv τ → nxt τ (nI i) = some 1) : lf_35 xs L nxt σ (nI i) = some 1 := by
  obtain ⟨r, σ1, σ2, e1, e2, e3⟩ := m_count h (xs (ix (nI i + 1)))
  unfold lf_35
  simp only [in_s1 hi hL, if_true]
  rw [show f_X11_count σ (xs (ix (nI i + 1))) = some (r, σ1) from e1, bnd_some, show f_X12_count σ1 (xs (ix (nI i + 1))) = some (r, σ2) from e2, bnd_some, if_pos rfl]
  exact hn _ e3
theorem lp_36 {xs : Nat → Int32} {L i : Nat} {nxt : Sg → Int32 → Option Int32} {σ : Sg} (h : Inv σ) (hi : i + 5 ≤ L) (hL : L ≤ 320) (hn : ∀ τ, Inv τ → nxt τ (nI i) = some 1) : lf_36 xs L nxt σ (nI i) = some 1 := by
  obtain ⟨r, σ2, e1, e2, e3⟩ := m_digest h
  unfold lf_36
  rw [e1, ob_some, e2, bnd_some, if_pos (lcs r)]
  exact hn _ e3
theorem lp_sw {xs : Nat → Int32} {L i : Nat} {nxt : Sg → Int32 → Option Int32} {σ : Sg} (x : Int32) (h : Inv σ) (hi : i + 5 ≤ L) (hL : L ≤ 320) (hn : ∀ τ, Inv τ → nxt τ (nI i) = some 1) : lf_sw xs L nxt σ (nI i) x = some 1 := by
  unfold lf_sw
  by_cases q0 : x = 0
  · rw [if_pos q0]; exact lp_0 h hi hL hn
  rw [if_neg q0]
  by_cases q1 : x = 1
  · rw [if_pos q1]; exact lp_1 h hi hL hn
  rw [if_neg q1]
  by_cases q2 : x = 2
  · rw [if_pos q2]; exact lp_2 h hi hL hn
  rw [if_neg q2]
  by_cases q3 : x = 3
  · rw [if_pos q3]; exact lp_3 h hi hL hn
  rw [if_neg q3]
  by_cases q4 : x = 4
  · rw [if_pos q4]; exact lp_4 h hi hL hn
  rw [if_neg q4]
  by_cases q5 : x = 5
  · rw [if_pos q5]; exact lp_5 h hi hL hn
  rw [if_neg q5]
  by_cases q6 : x = 6
  · rw [if_pos q6]; exact lp_6 h hi hL hn
  rw [if_neg q6]
  by_cases q7 : x = 7
  · rw [if_pos q7]; exact lp_7 h hi hL hn
  rw [if_neg q7]
  by_cases q8 : x = 8
  · rw [if_pos q8]; exact lp_8 h hi hL hn
  rw [if_neg q8]
  by_cases q9 : x = 9
  · rw [if_pos q9]; exact lp_9 h hi hL hn
  rw [if_neg q9]
  by_cases q10 : x = 10
  · rw [if_pos q10]; exact lp_10 h hi hL hn
  rw [if_neg q10]
  by_cases q11 : x = 11
  · rw [if_pos q11]; exact lp_11 h hi hL hn
  rw [if_neg q11]
  by_cases q12 : x = 12
  · rw [if_pos q12]; exact lp_12 h hi hL hn
  rw [if_neg q12]
  by_cases q13 : x = 13
  · rw [if_pos q13]; exact lp_13 h hi hL hn
  rw [if_neg q13]
  by_cases q14 : x = 14
  · rw [if_pos q14]; exact lp_14 h hi hL hn
  rw [if_neg q14]
  by_cases q15 : x = 15
  · rw [if_pos q15]; exact lp_15 h hi hL hn
  rw [if_neg q15]
  by_cases q16 : x = 16
  · rw [if_pos q16]; exact lp_16 h hi hL hn
  rw [if_neg q16]
  by_cases q17 : x = 17
  · rw [if_pos q17]; exact lp_17 h hi hL hn
  rw [if_neg q17]
  by_cases q18 : x = 18
  · rw [if_pos q18]; exact lp_18 h hi hL hn
  rw [if_neg q18]
  by_cases q19 : x = 19
  · rw [if_pos q19]; exact lp_19 h hi hL hn
  rw [if_neg q19]
  by_cases q20 : x = 20
  · rw [if_pos q20]; exact lp_20 h hi hL hn
  rw [if_neg q20]
  by_cases q21 : x = 21
  · rw [if_pos q21]; exact lp_21 h hi hL hn
  rw [if_neg q21]
  by_cases q22 : x = 22
  · rw [if_pos q22]; exact lp_22 h hi hL hn
  rw [if_neg q22]
  by_cases q23 : x = 23
  · rw [if_pos q23]; exact lp_23 h hi hL hn
  rw [if_neg q23]
  by_cases q24 : x = 24
  · rw [if_pos q24]; exact lp_24 h hi hL hn
  rw [if_neg q24]
  by_cases q25 : x = 25
  · rw [if_pos q25]; exact lp_25 h hi hL hn
  rw [if_neg q25]
  by_cases q26 : x = 26
  · rw [if_pos q26]; exact lp_26 h hi hL hn
  rw [if_neg q26]
  by_cases q27 : x = 27
  · rw [if_pos q27]; exact lp_27 h hi hL hn
  rw [if_neg q27]
  by_cases q28 : x = 28
  · rw [if_pos q28]; exact lp_28 h hi hL hn
  rw [if_neg q28]
  by_cases q29 : x = 29
  · rw [if_pos q29]; exact lp_29 h hi hL hn
  rw [if_neg q29]
  by_cases q30 : x = 30
  · rw [if_pos q30]; exact lp_30 h hi hL hn
  rw [if_neg q30]
  by_cases q31 : x = 31
  · rw [if_pos q31]; exact lp_31 h hi hL hn
  rw [if_neg q31]
  by_cases q32 : x = 32
  · rw [if_pos q32]; exact lp_32 h hi hL hn
  rw [if_neg q32]
  by_cases q33 : x = 33
  · rw [if_pos q33]; exact lp_33 h hi hL hn
  rw [if_neg q33]
  by_cases q34 : x = 34
  · rw [if_pos q34]; exact lp_34 h hi hL hn
  rw [if_neg q34]
  by_cases q35 : x = 35
  · rw [if_pos q35]; exact lp_35 h hi hL hn
  rw [if_neg q35]
  by_cases q36 : x = 36
  · rw [if_pos q36]; exact lp_36 h hi hL hn
  rw [if_neg q36]
  exact hn σ h
theorem law_steps (xs : Nat → Int32) (L : Nat) (hL : L ≤ 320) : ∀ (d i fu : Nat) (σ : Sg), L ≤ i + d → d < fu → i ≤ L → Inv σ → lawF xs L fu σ (nI i) = some 1 := by
  have e5 : (nI L - 5).toInt = (L : Int) - 5 := pk_sub_toInt (a := L) (b := 5) (by omega) (by omega)
  intro d
  induction d with
  | zero =>
    intro i fu σ hd hf hi h
    obtain ⟨fu, rfl⟩ : ∃ q, fu = q + 1 := ⟨fu - 1, by omega⟩
    rw [lawF, if_pos (by rw [li_lt, e5, tN (by omega)]; omega)]
  | succ d ih =>
    intro i fu σ hd hf hi h
    obtain ⟨fu, rfl⟩ : ∃ q, fu = q + 1 := ⟨fu - 1, by omega⟩
    by_cases q : i + 5 ≤ L
    · rw [lawF, if_neg (by rw [li_lt, e5, tN (by omega)]; omega), if_pos (inb_nI (by omega) (by omega)), nam_e]
      refine lp_sw _ h q hL (fun τ hτ => ?_)
      rw [nam_e, show nI i + 5 = nI (i + 5) from nI_add i 5]
      exact ih (i + 5) fu τ (by omega) (by omega) q hτ
    · rw [lawF, if_pos (by rw [li_lt, e5, tN (by omega)]; omega)]
theorem law_pure (xs : Nat → Int32) (L : Nat) (hL : L ≤ 320) : lawF xs L FU sg0 0 = some 1 := law_steps xs L hL L 0 FU sg0 (by omega) (by unfold FU; omega) (by omega) Inv_sg0
