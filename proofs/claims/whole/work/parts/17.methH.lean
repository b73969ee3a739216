theorem may_c {σ : Sg} {n c : Nat} {g : Nat → Int32} (b : Int32) (h2 : rI σ 2 1 = nI n) (hh : rowIs σ 6 n (fun j => g (25 + j))) (hr : rowIs σ 10 (3 * c) (fun j => g (44 + j))) (hn : n ≤ 7) (hc : c ≤ 6) : ∀ (t i fu : Nat) (s : Int32), t + i = n → t < fu → b_X1_mayBeOff_4 σ 1 b fu s (nI i) = some (fo (biS (fun k => allF (pR g n k b) 0 c)) i t s) := by
  intro t
  induction t with
  | zero =>
    intro i fu s ht hf
    obtain ⟨fu, rfl⟩ : ∃ q, fu = q + 1 := ⟨fu - 1, by omega⟩
    rw [b_X1_mayBeOff_4, show f_X3_keeperCount σ 1 = nI n from h2, if_pos (nI_le (by omega) (by omega))]
    rfl
  | succ t ih =>
    intro i fu s ht hf
    obtain ⟨fu, rfl⟩ : ∃ q, fu = q + 1 := ⟨fu - 1, by omega⟩
    have e0 : f_X1_fitsReadings σ 1 (nI i) b = some (b2i (allF (pR g n i b) 0 c)) := fitR_c b hh hr hn hc (by omega) c 0 FU (by omega) (by unfold FU; omega)
    rw [b_X1_mayBeOff_4, show f_X3_keeperCount σ 1 = nI n from h2, if_neg (nI_ge (by omega) (by omega)), e0, ob_some, fo_s]
    unfold b_X1_mayBeOff_27
    simp only [nam_e, nI_1]
    cases hb : allF (pR g n i b) 0 c with
    | false =>
      rw [if_pos (show b2i false = 0 from rfl), ih (i + 1) fu s (by omega) (by omega)]
      have : biS (fun k => allF (pR g n k b) 0 c) i s = s := if_neg (fun z => absurd (hb.symm.trans z) (by decide))
      rw [this]
    | true =>
      rw [if_neg (show ¬ b2i true = 0 by decide), ih (i + 1) fu _ (by omega) (by omega)]
      have : biS (fun k => allF (pR g n k b) 0 c) i s = s ||| (1 <<< (nI i &&& 31)) := if_pos hb
      rw [this]
theorem may_r {σ : Sg} {n c : Nat} (b : Int32) (hN : rI σ 113 0 = nI n) (hC : rI σ 113 43 = nI c) (hn : n ≤ 7) (hc : c ≤ 6) : ∀ (t i fu : Nat) (s : Int32), t + i = n → t < fu → b_X12_mayBe_4 σ b fu s (nI i) = some (fo (biS (fun k => allF (pR (rI σ 113) n k b) 0 c)) i t s) := by
  intro t
  induction t with
  | zero =>
    intro i fu s ht hf
    obtain ⟨fu, rfl⟩ : ∃ q, fu = q + 1 := ⟨fu - 1, by omega⟩
    rw [b_X12_mayBe_4, if_pos (show inb 0 (kLen 113) = true from i113 (n := 0) (by omega)), show rI σ 113 (ix 0) = nI n from hN, if_pos (nI_le (by omega) (by omega))]
    rfl
  | succ t ih =>
    intro i fu s ht hf
    obtain ⟨fu, rfl⟩ : ∃ q, fu = q + 1 := ⟨fu - 1, by omega⟩
    have e0 : f_X12_wasRead σ (nI i) b = some (b2i (true && allF (pR (rI σ 113) n i b) 0 c)) := fitR_r b hN hC hn hc c 0 FU true (by omega) (by unfold FU; omega)
    rw [Bool.true_and] at e0
    rw [b_X12_mayBe_4, if_pos (show inb 0 (kLen 113) = true from i113 (n := 0) (by omega)), show rI σ 113 (ix 0) = nI n from hN, if_neg (nI_ge (by omega) (by omega)), e0, ob_some, fo_s]
    unfold b_X12_mayBe_31
    simp only [nam_e, nI_1]
    cases hb : allF (pR (rI σ 113) n i b) 0 c with
    | false =>
      rw [if_pos (show b2i false = 0 from rfl), or_0, ih (i + 1) fu s (by omega) (by omega)]
      have : biS (fun k => allF (pR (rI σ 113) n k b) 0 c) i s = s := if_neg (fun z => absurd (hb.symm.trans z) (by decide))
      rw [this]
    | true =>
      rw [if_neg (show ¬ b2i true = 0 by decide), ih (i + 1) fu _ (by omega) (by omega)]
      have : biS (fun k => allF (pR (rI σ 113) n k b) 0 c) i s = s ||| (1 <<< (nI i &&& 31)) := if_pos hb
      rw [this]
theorem mays {σ : Sg} (h : Inv σ) (b : Int32) : ∃ x a, rI σ 113 0 = nI a ∧ a ≤ 7 ∧ x < 2 ^ a ∧ f_X1_mayBeOff σ 1 b = some (nI x) ∧ ∀ τ, (∀ j, rI τ 113 j = rI σ 113 j) → f_X12_mayBe τ b = some (nI x) := by
  obtain ⟨a, b', c, d, e, u, hn, hw, hr⟩ := h.1
  obtain ⟨⟨n0, ha⟩, ⟨n1, hb⟩, ⟨n2, hc⟩, _⟩ := hn
  obtain ⟨r1, r2, r3, r4, r5, r6, r7, r8, r9, r10, r11, r12⟩ := hr
  obtain ⟨x, hx, hx2⟩ := bi_bound (fun k => allF (pR (rI σ 113) a k b) 0 c) ha
  refine ⟨x, a, n0, ha, hx, ?_, fun τ ht => ?_⟩
  · rw [← hx2]
    exact may_c b r1.2.1 r3 r5 ha hc a 0 FU 0 (by omega) (by unfold FU; omega)
  · rw [← hx2, ← show rI τ 113 = rI σ 113 from funext ht]
    exact may_r b ((ht _).trans n0) ((ht _).trans n2) ha hc a 0 FU 0 (by omega) (by unfold FU; omega)
theorem m_maybe {σ : Sg} (h : Inv σ) (v : Int32) : Sim (fun s => f_X11_maybe s v) (fun s => f_X12_maybe s v) σ := by
  by_cases q1 : f_X11_between v 0 1 = 0
  · refine ref_bad h (-2) id ?_ (fun τ ht => ?_)
    · show f_X11_maybe σ v = _
      unfold f_X11_maybe; rw [if_pos q1]; rfl
    · show f_X12_maybe τ v = _
      unfold f_X12_maybe; rw [in_0_1, if_pos q1]; rfl
  obtain ⟨w, p5, p6, rfl⟩ := btw_of (lo := 0) (hi := 1) (by omega) q1 (by omega)
  rcases (show w = 0 ∨ w = 1 by omega) with rfl | rfl
  · obtain ⟨x, _, _, _, _, e1, e2⟩ := mays h (-1)
    refine Sim.pure h (nI x) ?_ ?_
    · show f_X11_maybe σ (nI 0) = _
      unfold f_X11_maybe b_X11_maybe_29
      simp only [if_neg q1, kd00, if_true, e1, ob_some]
    · show f_X12_maybe σ (nI 0) = _
      unfold f_X12_maybe b_X12_maybe_20
      simp only [in_0_1, if_neg q1, kd00, if_true, e2 σ (fun _ => rfl), ob_some]
  · obtain ⟨x, _, _, _, _, e1, e2⟩ := mays h 1
    refine Sim.pure h (nI x) ?_ ?_
    · show f_X11_maybe σ (nI 1) = _
      unfold f_X11_maybe b_X11_maybe_29
      simp only [if_neg q1, kd10, if_false, e1, ob_some]
    · show f_X12_maybe σ (nI 1) = _
      unfold f_X12_maybe b_X12_maybe_20
      simp only [in_0_1, if_neg q1, kd10, if_false, e2 σ (fun _ => rfl), ob_some]
