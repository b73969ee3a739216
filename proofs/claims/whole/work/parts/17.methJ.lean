theorem dg_143 {σ : Sg} {e : Nat} (hE : rI σ 113 62 = nI e) (he : e ≤ 6) (x : Int64) : b_X12_digest_143 FU (hS σ x) 0 = b_X12_digest_178 FU (hS σ (fo (mxS (fun j => rI σ 113 (63 + j))) 0 (4 * e) x)) 0 := by
  have key := dg_row (σ := σ) (n := 4 * e) (cell := 62) (base := 63) (m := 4) b_X12_digest_143 (fun s => b_X12_digest_178 FU s 0) (fun fu i x hi => by
    rw [b_X12_digest_143, if_pos (show inb 62 (kLen 113) = true from i113 (n := 62) (by omega)), show rI (hS σ x) 113 (ix 62) = nI e from hE, L4, pk_mul]
    by_cases q : 4 * e ≤ i
    · rw [if_pos (nI_le q (by omega)), if_pos q]
    · rw [if_neg (nI_ge (by omega) (by omega)), if_neg q, L63, nI_add, if_pos (i113 (by omega)), ix_nI (by omega), mix_h, ob_some, nam_e, nI_1]
      rfl) (4 * e) 0 FU x (by omega) (by unfold FU; omega)
  exact key
theorem dg_108 {σ : Sg} {e : Nat} (hE : rI σ 113 43 = nI e) (he : e ≤ 6) (x : Int64) : b_X12_digest_108 FU (hS σ x) 0 = b_X12_digest_143 FU (hS σ (fo (mxS (fun j => rI σ 113 (44 + j))) 0 (3 * e) x)) 0 := by
  have key := dg_row (σ := σ) (n := 3 * e) (cell := 43) (base := 44) (m := 3) b_X12_digest_108 (fun s => b_X12_digest_143 FU s 0) (fun fu i x hi => by
    rw [b_X12_digest_108, if_pos (show inb 43 (kLen 113) = true from i113 (n := 43) (by omega)), show rI (hS σ x) 113 (ix 43) = nI e from hE, L3, pk_mul]
    by_cases q : 3 * e ≤ i
    · rw [if_pos (nI_le q (by omega)), if_pos q]
    · rw [if_neg (nI_ge (by omega) (by omega)), if_neg q, L44, nI_add, if_pos (i113 (by omega)), ix_nI (by omega), mix_h, ob_some, nam_e, nI_1]
      rfl) (3 * e) 0 FU x (by omega) (by unfold FU; omega)
  exact key
theorem dg_76 {σ : Sg} {e : Nat} (hE : rI σ 113 1 = nI e) (he : e ≤ 6) (x : Int64) : b_X12_digest_76 FU (hS σ x) 0 = b_X12_digest_108 FU (hS σ (fo (mxS (fun j => rI σ 113 (39 + j))) 0 (e) x)) 0 := by
  have key := dg_row (σ := σ) (n := e) (cell := 1) (base := 39) (m := 1) b_X12_digest_76 (fun s => b_X12_digest_108 FU s 0) (fun fu i x hi => by
    rw [b_X12_digest_76, if_pos (show inb 1 (kLen 113) = true from i113 (n := 1) (by omega)), show rI (hS σ x) 113 (ix 1) = nI e from hE]
    by_cases q : e ≤ i
    · rw [if_pos (nI_le q (by omega)), if_pos q]
    · rw [if_neg (nI_ge (by omega) (by omega)), if_neg q, L39, nI_add, if_pos (i113 (by omega)), ix_nI (by omega), mix_h, ob_some, nam_e, nI_1]
      rfl) (e) 0 FU x (by omega) (by unfold FU; omega)
  exact key
theorem dg_45 {σ : Sg} {k : Nat} (hk : k < 7) (c : Sg → Int32 → Option (Int64 × Sg)) : ∀ (t i fu : Nat) (x : Int64), t + i = 6 → t < fu → b_X12_digest_45 c fu (hS σ x) (nI k) (nI i) = c (hS σ (fo (mxS (toldG (rI σ 113) k)) i t x)) (nI (k + 1)) := by
  intro t
  induction t with
  | zero =>
    intro i fu x ht hf
    obtain ⟨fu, rfl⟩ : ∃ q, fu = q + 1 := ⟨fu - 1, by omega⟩
    rw [b_X12_digest_45, if_pos (show (6 : Int32) ≤ nI i from nI_le (a := 6) (by omega) (by omega)), nam_e, nI_1]
    rfl
  | succ t ih =>
    intro i fu x ht hf
    obtain ⟨fu, rfl⟩ : ∃ q, fu = q + 1 := ⟨fu - 1, by omega⟩
    rw [b_X12_digest_45, if_neg (show ¬ (6 : Int32) ≤ nI i from nI_ge (b := 6) (by omega) (by omega)), told_r hk (by omega), ob_some, mix_h, ob_some, nam_e, nI_1, ih (i + 1) fu _ (by omega) (by omega), fo_s]
    rfl
theorem dg_33 {σ : Sg} {a : Nat} (hN : rI σ 113 0 = nI a) (ha : a ≤ 7) : ∀ (t i fu : Nat) (x : Int64), t + i = a → t < fu → b_X12_digest_33 fu (hS σ x) (nI i) = b_X12_digest_76 FU (hS σ (fo (mxK (rI σ 113)) i t x)) 0 := by
  intro t
  induction t with
  | zero =>
    intro i fu x ht hf
    obtain ⟨fu, rfl⟩ : ∃ q, fu = q + 1 := ⟨fu - 1, by omega⟩
    rw [b_X12_digest_33, if_pos (show inb 0 (kLen 113) = true from i113 (n := 0) (by omega)), show rI (hS σ x) 113 (ix 0) = nI a from hN, if_pos (nI_le (by omega) (by omega))]
    rfl
  | succ t ih =>
    intro i fu x ht hf
    obtain ⟨fu, rfl⟩ : ∃ q, fu = q + 1 := ⟨fu - 1, by omega⟩
    rw [b_X12_digest_33, if_pos (show inb 0 (kLen 113) = true from i113 (n := 0) (by omega)), show rI (hS σ x) 113 (ix 0) = nI a from hN, if_neg (nI_ge (by omega) (by omega)), show b_X12_digest_45 (b_X12_digest_33 fu) FU (hS σ x) (nI i) 0 = _ from dg_45 (by omega) (b_X12_digest_33 fu) 6 0 FU x (by omega) (by unfold FU; omega), ih (i + 1) fu _ (by omega) (by omega), fo_s]
    rfl
theorem dg_9 {σ : Sg} (h : Inv σ) : ∀ (t i fu : Nat) (x : Int64), t + i = 10 → t < fu → b_X12_digest_9 fu (hS σ x) (nI i) = b_X12_digest_33 FU (hS σ (fo (mxS (cntG σ)) i t x)) 0 := by
  intro t
  induction t with
  | zero =>
    intro i fu x ht hf
    obtain ⟨fu, rfl⟩ : ∃ q, fu = q + 1 := ⟨fu - 1, by omega⟩
    rw [b_X12_digest_9, if_pos (show (10 : Int32) ≤ nI i from nI_le (a := 10) (by omega) (by omega))]
    rfl
  | succ t ih =>
    intro i fu x ht hf
    obtain ⟨fu, rfl⟩ : ∃ q, fu = q + 1 := ⟨fu - 1, by omega⟩
    rw [b_X12_digest_9, if_neg (show ¬ (10 : Int32) ≤ nI i from nI_ge (b := 10) (by omega) (by omega)), many_r (Inv_h h x) (by omega), ob_some, mix_h, ob_some, nam_e, nI_1, ih (i + 1) fu _ (by omega) (by omega), fo_s]
    rfl
theorem dc_47 {σ : Sg} {a b c d e u k : Nat} {g : Nat → Int32} (hr : Rw σ 1 g a b c d e u) (hk : k < a) (ha : a ≤ 7) (C : Int64 → Int32 → Option Int64) : ∀ (t i fu : Nat) (x : Int64), t + i = 6 → t < fu → b_X11_digest_47 σ C fu x (nI k) (nI i) = C (fo (mxS (toldG g k)) i t x) (nI (k + 1)) := by
  intro t
  induction t with
  | zero =>
    intro i fu x ht hf
    obtain ⟨fu, rfl⟩ : ∃ q, fu = q + 1 := ⟨fu - 1, by omega⟩
    rw [b_X11_digest_47, if_pos (show (5 : Int32) < nI i from nI_lt (a := 5) (by omega) (by omega)), nam_e, nI_1]
    rfl
  | succ t ih =>
    intro i fu x ht hf
    obtain ⟨fu, rfl⟩ : ∃ q, fu = q + 1 := ⟨fu - 1, by omega⟩
    rw [b_X11_digest_47, if_neg (show ¬ (5 : Int32) < nI i from nI_nlt (a := 5) (b := i) (by omega) (by omega)), told_c hr hk ha (by omega), ob_some, nam_e, nam_e, nI_1, ih (i + 1) fu _ (by omega) (by omega), fo_s]
    rfl
theorem dc_33 {σ : Sg} {a b c d e u : Nat} {g : Nat → Int32} (hr : Rw σ 1 g a b c d e u) (ha : a ≤ 7) : ∀ (t i fu : Nat) (x : Int64), t + i = a → t < fu → b_X11_digest_33 σ fu x (nI i) = some (31 * (31 * (fo (mxS (fun j => g (88 + j))) 0 (4 * e) (fo (mxS (fun j => g (63 + j))) 0 (4 * d) (fo (mxS (fun j => g (44 + j))) 0 (3 * c) (fo (mxS (fun j => g (39 + j))) 0 b (fo (mxK g) i t x))))) + rL σ 0 10) + rL σ 0 11) := by
  have f1 : f_X3_keeperCount σ 1 = nI a := hr.1.2.1
  intro t
  induction t with
  | zero =>
    intro i fu x ht hf
    obtain ⟨fu, rfl⟩ : ∃ q, fu = q + 1 := ⟨fu - 1, by omega⟩
    obtain ⟨r1, r2, r3, r4, r5, r6, r7, r8, r9, r10, r11, r12⟩ := hr
    have m4 : ∀ s, f_X7_mixedInto σ 8 s = _ := fun s => mixed_in s r4
    have m5 : ∀ s, f_X7_mixedInto σ 10 s = _ := fun s => mixed_in s r5
    have m6 : ∀ s, f_X7_mixedInto σ 12 s = _ := fun s => mixed_in s r6
    have m7 : ∀ s, f_X7_mixedInto σ 14 s = _ := fun s => mixed_in s r7
    rw [b_X11_digest_33, f1, if_pos (nI_le (by omega) (by omega)), m4, ob_some, m5, ob_some, m6, ob_some, m7, ob_some, nam_e]
    rfl
  | succ t ih =>
    intro i fu x ht hf
    obtain ⟨fu, rfl⟩ : ∃ q, fu = q + 1 := ⟨fu - 1, by omega⟩
    rw [b_X11_digest_33, f1, if_neg (nI_ge (by omega) (by omega)), show b_X11_digest_47 σ (b_X11_digest_33 σ fu) FU x (nI i) 0 = _ from dc_47 hr (by omega) ha (b_X11_digest_33 σ fu) 6 0 FU x (by omega) (by unfold FU; omega), ih (i + 1) fu _ (by omega) (by omega), fo_s]
    rfl
theorem dc_6 {σ : Sg} (h : Inv σ) : ∀ (t i fu : Nat) (x : Int64), t + i = 10 → t < fu → b_X11_digest_6 σ fu x (nI i) = b_X11_digest_33 σ FU (fo (mxS (cntG σ)) i t x) 0 := by
  intro t
  induction t with
  | zero =>
    intro i fu x ht hf
    obtain ⟨fu, rfl⟩ : ∃ q, fu = q + 1 := ⟨fu - 1, by omega⟩
    rw [b_X11_digest_6, if_pos (show (9 : Int32) < nI i from nI_lt (a := 9) (by omega) (by omega))]
    rfl
  | succ t ih =>
    intro i fu x ht hf
    obtain ⟨fu, rfl⟩ : ∃ q, fu = q + 1 := ⟨fu - 1, by omega⟩
    rw [b_X11_digest_6, if_neg (show ¬ (9 : Int32) < nI i from nI_nlt (a := 9) (b := i) (by omega) (by omega)), many_c h (by omega), ob_some, nam_e, nam_e, nI_1, ih (i + 1) fu _ (by omega) (by omega), fo_s]
    rfl
theorem m_digest {σ : Sg} (h : Inv σ) : ∃ r σ2, f_X11_digest σ = some r ∧ f_X12_digest σ = some (r, σ2) ∧ Inv σ2 := by
  obtain ⟨a, b, c, d, e, u, hn, hw, hr⟩ := h.1
  obtain ⟨⟨n0, ha⟩, ⟨n1, hb⟩, ⟨n2, hc⟩, ⟨n3, hd⟩, ⟨n4, he⟩, n5, hu⟩ := hn
  obtain ⟨_, _, _, ⟨hs1, hs2⟩, _⟩ := id h
  have x1 := dc_6 h 10 0 FU 1481 (by omega) (by unfold FU; omega)
  have x2 := x1.trans (dc_33 hr ha a 0 FU _ (by omega) (by unfold FU; omega))
  rw [hs1, hs2] at x2
  have y1 := dg_9 h 10 0 FU 1481 (by omega) (by unfold FU; omega)
  have y2 := y1.trans (dg_33 n0 ha a 0 FU _ (by omega) (by unfold FU; omega))
  have y3 := (((y2.trans (dg_76 n1 (by omega) _)).trans (dg_108 n2 hc _)).trans (dg_143 n3 hd _)).trans (dg_178 n4 he _)
  exact ⟨_, _, x2, y3, Inv_h h _⟩
