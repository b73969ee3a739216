def daysG (a : Nat) : Nat → (Nat → Int32) → Nat → Int32
  | 0, g => g
  | n + 1, g => daysG a n (dayG a g)
theorem daysG_fix {a : Nat} {g : Nat → Int32} (h : g 2 = nI 9999) : ∀ n, daysG a n g = g
  | 0 => rfl
  | n + 1 => by
    have : dayG a g = g := if_pos h
    show daysG a n (dayG a g) = g
    rw [this]
    exact daysG_fix h n
theorem day_keep {σ : Sg} {M a b c d e u : Nat} {g : Nat → Int32} (hn : Nm g a b c d e u) (hw : Wf g a b d e u) : Nm (dayG a g) a b c d e u ∧ Wf (dayG a g) a b d e u := by
  unfold dayG
  obtain ⟨⟨n0, ha⟩, ⟨n1, hb⟩, ⟨n2, hc⟩, ⟨n3, hd⟩, ⟨n4, he⟩, n5, hu⟩ := id hn
  split
  · exact ⟨hn, hw⟩
  · exact ⟨pass_nm hn, pass_wf ha hb hd he hu hw ‹_›⟩
theorem days_keep {a b c d e u : Nat} : ∀ (n : Nat) {g : Nat → Int32}, Nm g a b c d e u → Wf g a b d e u → Nm (daysG a n g) a b c d e u ∧ Wf (daysG a n g) a b d e u
  | 0, _, hn, hw => ⟨hn, hw⟩
  | n + 1, g, hn, hw => by
    have h := day_keep (σ := (fun _ _ => 0, fun _ _ => 0)) (M := 0) hn hw
    exact days_keep n h.1 h.2
theorem passDays_M {M a b c d e u n : Nat} (hn2 : n ≤ 99) : ∀ (t i fu : Nat) (σ : Sg) (g : Nat → Int32), t + i = n → t < fu → Nm g a b c d e u → Wf g a b d e u → Rw σ M g a b c d e u → ∃ τ, b_X3_passDays_2 M (nI n) fu σ (nI i) = some τ ∧ Rw τ M (daysG a t g) a b c d e u ∧ Only M (M + 22) σ τ := by
  intro t
  induction t with
  | zero =>
    intro i fu σ g ht hf hn hw hr
    obtain ⟨fu, rfl⟩ : ∃ q, fu = q + 1 := ⟨fu - 1, by omega⟩
    refine ⟨σ, ?_, hr, Only.rf⟩
    rw [b_X3_passDays_2, if_pos (nI_le (by omega) (by omega))]
  | succ t ih =>
    intro i fu σ g ht hf hn hw hr
    obtain ⟨fu, rfl⟩ : ∃ q, fu = q + 1 := ⟨fu - 1, by omega⟩
    have r9 := hr.2.2.2.2.2.2.2.2.1
    obtain ⟨x, _, x2, x3⟩ := hw.2.2.2.2.1.2.2
    rw [b_X3_passDays_2, if_neg (nI_ge (by omega) (by omega)), r9, x3]
    by_cases q : x = 9999
    · subst q
      refine ⟨σ, ?_, ?_, Only.rf⟩
      · rw [if_pos (show (9999 : Int32) ≤ nI 9999 from nI_le (a := 9999) (by omega) (by omega))]
      · rw [daysG_fix x3]; exact hr
    · have hd : dayG a g = passG a g := if_neg (fun z => q (nIinj (by omega) (by omega) (x3.symm.trans z)))
      obtain ⟨s1, a1, b1, c1⟩ := passDay_M hn hw hr
      have hk := day_keep (σ := σ) (M := M) hn hw
      obtain ⟨τ, e1, e2, e3⟩ := ih (i + 1) fu s1 (dayG a g) (by omega) (by omega) hk.1 hk.2 (by rw [hd]; exact b1)
      refine ⟨τ, ?_, e2, c1.trans e3⟩
      rw [if_neg (show ¬ (9999 : Int32) ≤ nI x from nI_ge (b := 9999) (by omega) (by omega)), a1, ob_some, nam_e, nI_1]
      exact e1
theorem at_z {σ : Sg} {k n j : Nat} {f : Nat → Int32} (h : rowIs σ k n f) (hj : j < 2 ^ 31) (hz : n ≤ j → f j = 0) : f_X7_at σ k (nI j) = some (f j) := by
  by_cases q : j < n
  · exact at_in h q
  · rw [at_out h (by omega) hj, hz (by omega)]
def storeG (u : Nat) (g : Nat → Int32) : Nat → Int32 := fun j => if j = 112 then nI (u + 1) else if 113 + 16 * u ≤ j ∧ j < 113 + 16 * u + 7 then g (18 + (j - (113 + 16 * u))) else if 113 + 16 * u + 7 ≤ j ∧ j < 113 + 16 * u + 14 then g (32 + (j - (113 + 16 * u + 7))) else if j = 113 + 16 * u + 14 then g 3 else if j = 113 + 16 * u + 15 then g 2 else g j
theorem storeG_o {u j : Nat} (g : Nat → Int32) (h1 : j ≠ 112) (h2 : j < 113 + 16 * u ∨ 113 + 16 * u + 16 ≤ j) : storeG u g j = g j := by
  unfold storeG
  rw [if_neg h1, if_neg (by omega), if_neg (by omega), if_neg (by omega), if_neg (by omega)]
theorem storeG_s {u k : Nat} (g : Nat → Int32) (hk : k < 7) : storeG u g (113 + (16 * u + k)) = g (18 + k) := by
  unfold storeG
  rw [if_neg (by omega), if_pos (by omega), show 113 + (16 * u + k) - (113 + 16 * u) = k by omega]
theorem storeG_m {u k : Nat} (g : Nat → Int32) (hk : k < 7) : storeG u g (113 + (16 * u + 7 + k)) = g (32 + k) := by
  unfold storeG
  rw [if_neg (by omega), if_neg (by omega), if_pos (by omega), show 113 + (16 * u + 7 + k) - (113 + 16 * u + 7) = k by omega]
theorem storeG_l {u : Nat} (g : Nat → Int32) : storeG u g (113 + (16 * u + 14)) = g 3 := by
  unfold storeG
  rw [if_neg (by omega), if_neg (by omega), if_neg (by omega), if_pos (by omega)]
theorem storeG_d {u : Nat} (g : Nat → Int32) : storeG u g (113 + (16 * u + 15)) = g 2 := by
  unfold storeG
  rw [if_neg (by omega), if_neg (by omega), if_neg (by omega), if_neg (by omega), if_pos (by omega)]
theorem pp_0 (u : Nat) : pp (16 * u) = 16 * u + 15 := by
  unfold pp
  rw [if_pos (by omega)]; omega
theorem pp_1 (u : Nat) : pp (16 * u + 1) = 16 * u + 14 := by
  unfold pp
  rw [if_neg (by omega), if_pos (by omega)]; omega
theorem pp_2 (u k : Nat) (hk : k < 7) : pp (16 * u + 2 + 2 * k) = 16 * u + k := by
  unfold pp
  rw [if_neg (by omega), if_neg (by omega), if_pos (by omega)]; omega
theorem pp_3 (u k : Nat) (hk : k < 7) : pp (16 * u + 3 + 2 * k) = 16 * u + 7 + k := by
  unfold pp
  rw [if_neg (by omega), if_neg (by omega), if_neg (by omega)]; omega
theorem pp_lo {j u : Nat} (h : j < 16 * u) : pp j < 16 * u := by
  have := pp_lt j
  omega
theorem pp_16 (j : Nat) : pp (j + 16) = pp j + 16 := by
  have h1 : (j + 16) % 16 = j % 16 := by omega
  have h2 : (j + 16) / 16 = j / 16 + 1 := by omega
  have h3 : (j + 16) % 2 = j % 2 := by omega
  unfold pp
  rw [h1, h2, h3]
  omega
theorem store_loop {k0 k1 a u : Nat} {g : Nat → Int32} (hk : k0 + 5 ≤ k1 ∨ k1 + 2 ≤ k0) (hl : kLen (k1 + 1) = 128) (ha : a ≤ 7) (hu : u < 8) (hz : ∀ k, k < 7 → a ≤ k → g (18 + k) = 0 ∧ g (32 + k) = 0) : ∀ (t i fu : Nat) (σ : Sg), t + i = 7 → t < fu → rowIs σ (k0 + 1) a (fun j => g (18 + j)) → rowIs σ (k0 + 3) a (fun j => g (32 + j)) → rowIs σ k1 (16 * u + 2 + 2 * i) (fun j => storeG u g (113 + pp j)) → ∃ τ, b_X4_store_18 k0 k1 fu σ (nI i) = some τ ∧ rowIs τ k1 (16 * (u + 1)) (fun j => storeG u g (113 + pp j)) ∧ Only k1 (k1 + 2) σ τ := by
  intro t
  induction t with
  | zero =>
    intro i fu σ ht hf h1 h2 h3
    obtain ⟨fu, rfl⟩ : ∃ q, fu = q + 1 := ⟨fu - 1, by omega⟩
    refine ⟨σ, ?_, ?_, Only.rf⟩
    · rw [b_X4_store_18, if_pos (show (7 : Int32) ≤ nI i from nI_le (a := 7) (by omega) (by omega))]
    · rw [show 16 * (u + 1) = 16 * u + 2 + 2 * i by omega]; exact h3
  | succ t ih =>
    intro i fu σ ht hf h1 h2 h3
    obtain ⟨fu, rfl⟩ : ∃ q, fu = q + 1 := ⟨fu - 1, by omega⟩
    have hi : i < 7 := by omega
    have t1 := at_z h1 (j := i) (by omega) (fun q => (hz i hi q).1)
    obtain ⟨s1, a1, b1, c1⟩ := add_in (g (18 + i)) h3 (by omega)
    have t2 := at_z (h2.keep c1 (by omega)) (j := i) (by omega) (fun q => (hz i hi q).2)
    have b1' : rowIs s1 k1 (16 * u + 2 + 2 * i + 1) (fun j => storeG u g (113 + pp j)) := b1.ext (by rw [pp_2 u i hi, storeG_s g hi]) (fun _ _ => rfl)
    obtain ⟨s2, a2, b2, c2⟩ := add_in (g (32 + i)) b1' (by omega)
    have b2' : rowIs s2 k1 (16 * u + 2 + 2 * i + 1 + 1) (fun j => storeG u g (113 + pp j)) := b2.ext (by rw [show 16 * u + 2 + 2 * i + 1 = 16 * u + 3 + 2 * i by omega, pp_3 u i hi, storeG_m g hi]) (fun _ _ => rfl)
    obtain ⟨τ, e1, e2, e3⟩ := ih (i + 1) fu s2 (by omega) (by omega) ((h1.keep c1 (by omega)).keep c2 (by omega)) ((h2.keep c1 (by omega)).keep c2 (by omega)) (by rw [show 16 * u + 2 + 2 * (i + 1) = 16 * u + 2 + 2 * i + 1 + 1 by omega]; exact b2')
    refine ⟨τ, ?_, e2, (c1.trans c2).trans e3⟩
    rw [b_X4_store_18, if_neg (show ¬ (7 : Int32) ≤ nI i from nI_ge (b := 7) (by omega) (by omega)), t1, ob_some, a1, ob_some, t2, ob_some, a2, ob_some, nam_e, nI_1]
    exact e1
theorem store_c {σ : Sg} {k0 k1 a u : Nat} {g : Nat → Int32} (hk : k0 + 5 ≤ k1 ∨ k1 + 2 ≤ k0) (hl : kLen (k1 + 1) = 128) (ha : a ≤ 7) (hu : u < 8) (hz : ∀ k, k < 7 → a ≤ k → g (18 + k) = 0 ∧ g (32 + k) = 0) (h1 : rowIs σ (k0 + 1) a (fun j => g (18 + j))) (h2 : rowIs σ (k0 + 3) a (fun j => g (32 + j))) (h3 : rowIs σ k1 (16 * u) (fun j => g (113 + pp j))) (h4 : rI σ k0 0 = g 2) (h5 : rI σ k0 1 = g 3) : ∃ τ, f_X4_store σ k0 k1 = some τ ∧ rowIs τ k1 (16 * (u + 1)) (fun j => storeG u g (113 + pp j)) ∧ Only k1 (k1 + 2) σ τ := by
  have h3' : rowIs σ k1 (16 * u) (fun j => storeG u g (113 + pp j)) := h3.cong (fun j hj => (storeG_o g (by omega) (by have := pp_lo hj; omega)).symm)
  obtain ⟨s1, a1, b1, c1⟩ := add_in (g 2) h3' (by omega)
  have b1' : rowIs s1 k1 (16 * u + 1) (fun j => storeG u g (113 + pp j)) := b1.ext (by rw [pp_0, storeG_d]) (fun _ _ => rfl)
  obtain ⟨s2, a2, b2, c2⟩ := add_in (g 3) b1' (by omega)
  have b2' : rowIs s2 k1 (16 * u + 1 + 1) (fun j => storeG u g (113 + pp j)) := b2.ext (by rw [pp_1, storeG_l]) (fun _ _ => rfl)
  obtain ⟨τ, e1, e2, e3⟩ := store_loop hk hl ha hu hz 7 0 FU s2 rfl (by unfold FU; omega) ((h1.keep c1 (by omega)).keep c2 (by omega)) ((h2.keep c1 (by omega)).keep c2 (by omega)) b2'
  refine ⟨τ, ?_, e2, (c1.trans c2).trans e3⟩
  unfold f_X4_store
  rw [h4, a1, ob_some, (c1 k0 (by omega)).1, h5, a2, ob_some]
  exact e1
