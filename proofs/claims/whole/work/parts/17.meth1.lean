theorem rI_eq (σ : Sg) (k j : Nat) (v : Int32) : rI (stI σ k j v) k j = v := by rw [rI_stI, if_pos ⟨rfl, rfl⟩]
theorem rI_ne (σ : Sg) {k j a b : Nat} (v : Int32) (h : a ≠ k) : rI (stI σ k j v) a b = rI σ a b := by rw [rI_stI, if_neg (fun q => h q.1)]
theorem rI_nj (σ : Sg) {k j a b : Nat} (v : Int32) (h : b ≠ j) : rI (stI σ k j v) a b = rI σ a b := by rw [rI_stI, if_neg (fun q => h q.2)]
/-- outside what the class uses for itself -/
def Oz (σ τ : Sg) : Prop := ∀ a j, a ≠ 0 → rI τ a j = rI σ a j
theorem ref_bad {α : Type} {A B : Sg → Option (α × Sg)} {σ : Sg} (h : Inv σ) (v : Int32) (f : Int32 → α) (ha : A σ = bnd (f_X11_refuseBad σ v) fun x s => some (f x, s)) (hb : ∀ τ, Oz σ τ → B τ = bnd (f_X12_bad τ v) fun x s => some (f x, s)) : Sim A B σ :=
  ⟨f v, _, _, ha, (hb _ (fun a j q => rI_ne _ _ q)), Inv_bad h⟩
theorem ref_no {A B : Sg → Option (Int32 × Sg)} {σ : Sg} (h : Inv σ) (ha : A σ = bnd (f_X11_refuseNo σ) fun x s => some (x, s)) (hb : ∀ τ, Oz σ τ → B τ = bnd (f_X12_no τ) fun x s => some (x, s)) : Sim A B σ :=
  ⟨-3, _, _, ha, (hb _ (fun a j q => rI_ne _ _ q)), Inv_no h⟩
theorem ref_full {A B : Sg → Option (Int32 × Sg)} {σ : Sg} (h : Inv σ) (ha : A σ = bnd (f_X11_refuseFull σ) fun x s => some (x, s)) (hb : ∀ τ, Oz σ τ → B τ = bnd (f_X12_full τ) fun x s => some (x, s)) : Sim A B σ :=
  ⟨-4, _, _, ha, (hb _ (fun a j q => rI_ne _ _ q)), Inv_full h⟩
theorem ib {n N : Nat} (h : decide (n < N) = true) (hN : N < 2 ^ 31) : inb (nI n) N = true := inb_nI (of_decide_eq_true h) hN
theorem i113 {n : Nat} (h : n < 964) : inb (nI n) (kLen 113) = true := inb_nI h (by decide)
theorem isK_r (τ : Sg) (v : Int32) : f_X12_isKeeper τ v = some (f_X11_between v 0 (rI τ 113 0 - 1)) := by
  unfold f_X12_isKeeper
  rw [if_pos (show inb 0 (kLen 113) = true from i113 (n := 0) (by omega)), in_0]
  rfl
theorem areK_r (τ : Sg) (v : Int32) : f_X12_areKeepers τ v = some (f_X11_between v 0 ((1 <<< (rI τ 113 0 &&& 31)) - 1)) := by
  unfold f_X12_areKeepers
  rw [if_pos (show inb 0 (kLen 113) = true from i113 (n := 0) (by omega)), in_0]
  rfl
theorem isB_r (τ : Sg) (v : Int32) : f_X12_isBalance τ v = some (f_X11_between v 0 (rI τ 113 1 - 1)) := by
  unfold f_X12_isBalance
  rw [if_pos (show inb 1 (kLen 113) = true from i113 (n := 1) (by omega)), in_0]
  rfl
def lays (n l r : Int32) : Int32 := if f_X11_between l 0 ((1 <<< (n &&& 31)) - 1) = 0 then 0 else (if f_X11_between r 0 ((1 <<< (n &&& 31)) - 1) = 0 then 0 else (if (l &&& r) = 0 then 1 else 0))
theorem pans_r (τ : Sg) (l r : Int32) : f_X12_arePans τ l r = some (lays (rI τ 113 0) l r) := by
  unfold f_X12_arePans lays
  rw [areK_r, areK_r]
  show (if _ then _ else _) = _
  split
  · rfl
  · show (if _ then _ else _) = _
    split
    · rfl
    · split <;> rfl
theorem Rep.n0 {σ : Sg} {g : Nat → Int32} (h : Rep σ 1 g) : rI σ 2 1 = g 0 := by
  obtain ⟨a, b, c, d, e, u, hn, _, hr⟩ := h
  exact hr.1.2.1.trans hn.1.1.symm
theorem Rep.n1 {σ : Sg} {g : Nat → Int32} (h : Rep σ 1 g) : rI σ 8 1 = g 1 := by
  obtain ⟨a, b, c, d, e, u, hn, _, hr⟩ := h
  exact hr.2.2.2.1.2.1.trans hn.2.1.1.symm
theorem hasK_c {σ : Sg} (h : Inv σ) (v : Int32) : f_X3_hasKeeper σ 1 v = f_X11_between v 0 (rI σ 113 0 - 1) := by
  rw [← h.1.n0]; rfl
theorem hasB_c {σ : Sg} (h : Inv σ) (v : Int32) : f_X3_hasBalance σ 1 v = f_X11_between v 0 (rI σ 113 1 - 1) := by
  rw [← h.1.n1]; rfl
theorem all_c {σ : Sg} (h : Inv σ) : f_X3_allStones σ 1 = (1 <<< (rI σ 113 0 &&& 31)) - 1 := by
  rw [← h.1.n0]; rfl
theorem hasS_c {σ : Sg} (h : Inv σ) (v : Int32) : f_X3_hasStones σ 1 v = f_X11_between v 0 ((1 <<< (rI σ 113 0 &&& 31)) - 1) := by
  unfold f_X3_hasStones; rw [all_c h]
theorem lay_c {σ : Sg} (h : Inv σ) (l r : Int32) : f_X3_canLay σ 1 l r = lays (rI σ 113 0) l r := by
  unfold f_X3_canLay lays; rw [hasS_c h, hasS_c h]
/-- the market here, and what is of passing use, in the class -/
def Pk (a _j : Nat) : Prop := (1 ≤ a ∧ a < 23) ∨ (69 ≤ a ∧ a < 112)
/-- the same in the reference -/
def Pr (a j : Nat) : Prop := (a = 113 ∧ (j < 241 ∨ 723 ≤ j)) ∨ (a = 112 ∧ 6 ≤ j) ∨ 117 ≤ a
theorem Inv_two {σ σ1 σ2 : Sg} {g : Nat → Int32} (h : Inv σ) (hc : Rep σ1 1 g) (h1 : Un Pk σ σ1) (h2 : Un Pr σ1 σ2) (hg : ∀ j, j < 241 → rI σ2 113 j = g j) : Inv σ2 := by
  refine Inv_here h ?_ ((h1.mono (fun a j q => by unfold Pk at q; unfold Ph; omega)).trans (h2.mono (fun a j q => by unfold Pr at q; unfold Ph; omega)))
  exact (hc.same (fun k j p1 p2 => (h2 k j (by unfold Pr; omega)).1)).cong (fun j hj => (hg j hj).symm)
theorem Pk_w {σ τ : Sg} (h : Un Pk σ τ) (j : Nat) : rI τ 113 j = rI σ 113 j := (h 113 j (by unfold Pk; omega)).1
theorem empties_loop (r : Nat) (hr : r ≤ 723) : ∀ (t i fu : Nat) (σ : Sg), t + i = 241 → t < fu → ∃ τ, b_X12_empties_2 (nI r) fu σ (nI i) = some τ ∧ (∀ j, rI τ 113 j = if r + i ≤ j ∧ j < r + 241 then 0 else rI σ 113 j) ∧ Un (fun a j => a = 113 ∧ r ≤ j ∧ j < r + 241) σ τ := by
  intro t
  induction t with
  | zero =>
    intro i fu σ ht hf
    obtain ⟨fu, rfl⟩ : ∃ q, fu = q + 1 := ⟨fu - 1, by omega⟩
    refine ⟨σ, ?_, fun j => by rw [if_neg (by omega)], Un.rf⟩
    rw [b_X12_empties_2, L241, if_pos (nI_le (by omega) (by omega))]
  | succ t ih =>
    intro i fu σ ht hf
    obtain ⟨fu, rfl⟩ : ∃ q, fu = q + 1 := ⟨fu - 1, by omega⟩
    obtain ⟨τ, e1, e2, e3⟩ := ih (i + 1) fu (stI σ 113 (r + i) 0) (by omega) (by omega)
    refine ⟨τ, ?_, fun j => ?_, (Un.stI σ 113 (r + i) 0 ⟨rfl, by omega, by omega⟩).trans e3⟩
    · rw [b_X12_empties_2, L241, if_neg (nI_ge (by omega) (by omega)), nI_add, if_pos (i113 (by omega)), ix_nI (by omega)]
      show b_X12_empties_2 (nI r) fu (stI σ 113 (r + i) 0) (nI i + 1) = _
      rw [nI_1]
      exact e1
    · rw [e2, rI_stI]
      by_cases q : j = r + i
      · rw [if_neg (by omega), if_pos ⟨rfl, q⟩, if_pos (by omega)]
      · by_cases w : r + i ≤ j ∧ j < r + 241
        · rw [if_pos w, if_pos (by omega)]
        · rw [if_neg w, if_neg (by omega), if_neg (fun z => q z.2)]
theorem empties_r (σ : Sg) (r : Nat) (hr : r ≤ 723) : ∃ τ, f_X12_empties σ (nI r) = some τ ∧ (∀ j, rI τ 113 j = if r ≤ j ∧ j < r + 241 then 0 else rI σ 113 j) ∧ Un (fun a j => a = 113 ∧ r ≤ j ∧ j < r + 241) σ τ := empties_loop r hr 241 0 FU σ rfl (by unfold FU; omega)
theorem copy_loop (p q : Nat) (hp : p ≤ 723) (hq : q ≤ 723) (hd : p + 241 ≤ q ∨ q + 241 ≤ p) : ∀ (t i fu : Nat) (σ : Sg), t + i = 241 → t < fu → ∃ τ, b_X12_copy_2 (nI p) (nI q) fu σ (nI i) = some τ ∧ (∀ j, rI τ 113 j = if q + i ≤ j ∧ j < q + 241 then rI σ 113 (p + (j - q)) else rI σ 113 j) ∧ Un (fun a j => a = 113 ∧ q ≤ j ∧ j < q + 241) σ τ := by
  intro t
  induction t with
  | zero =>
    intro i fu σ ht hf
    obtain ⟨fu, rfl⟩ : ∃ q, fu = q + 1 := ⟨fu - 1, by omega⟩
    refine ⟨σ, ?_, fun j => by rw [if_neg (by omega)], Un.rf⟩
    rw [b_X12_copy_2, L241, if_pos (nI_le (by omega) (by omega))]
  | succ t ih =>
    intro i fu σ ht hf
    obtain ⟨fu, rfl⟩ : ∃ q, fu = q + 1 := ⟨fu - 1, by omega⟩
    obtain ⟨τ, e1, e2, e3⟩ := ih (i + 1) fu (stI σ 113 (q + i) (rI σ 113 (p + i))) (by omega) (by omega)
    refine ⟨τ, ?_, fun j => ?_, (Un.stI σ 113 (q + i) (rI σ 113 (p + i)) ⟨rfl, by omega, by omega⟩).trans e3⟩
    · rw [b_X12_copy_2, L241, if_neg (nI_ge (by omega) (by omega)), nI_add, nI_add, if_pos (i113 (by omega)), if_pos (i113 (by omega)), ix_nI (by omega), ix_nI (by omega)]
      show b_X12_copy_2 (nI p) (nI q) fu (stI σ 113 (q + i) (rI σ 113 (p + i))) (nI i + 1) = _
      rw [nI_1]
      exact e1
    · rw [e2, rI_stI, rI_stI]
      by_cases w : j = q + i
      · rw [if_neg (by omega), if_pos ⟨rfl, w⟩, if_pos (by omega), w]
        congr 1
        omega
      · by_cases z : q + i ≤ j ∧ j < q + 241
        · rw [if_pos (by omega), if_neg (by omega), if_pos (by omega)]
        · rw [if_neg (by omega), if_neg (fun y => w y.2), if_neg (by omega)]
theorem copy_r (σ : Sg) (p q : Nat) (hp : p ≤ 723) (hq : q ≤ 723) (hd : p + 241 ≤ q ∨ q + 241 ≤ p) : ∃ τ, f_X12_copy σ (nI p) (nI q) = some τ ∧ (∀ j, rI τ 113 j = if q ≤ j ∧ j < q + 241 then rI σ 113 (p + (j - q)) else rI σ 113 j) ∧ Un (fun a j => a = 113 ∧ q ≤ j ∧ j < q + 241) σ τ := copy_loop p q hp hq hd 241 0 FU σ rfl (by unfold FU; omega)
theorem mom_zero (p q l t a : Nat) (ha : a = 0) : mom (fun _ => 0) p q l t a := ⟨fun k _ => ⟨fun h => absurd h (by omega), fun _ => ⟨rfl, rfl⟩⟩, ⟨0, by omega, by omega, rfl⟩, ⟨0, by omega, by omega, rfl⟩⟩
theorem restart_M (σ : Sg) (M : Nat) : ∃ τ, f_X3_restart σ M = some τ ∧ Rep τ M (fun _ => 0) ∧ Only M (M + 22) σ τ := by
  obtain ⟨s1, a1, b1, c1⟩ := restart_in σ (M + 1) (fun _ => 0)
  obtain ⟨s2, a2, b2, c2⟩ := restart_in s1 (M + 3) (fun _ => 0)
  obtain ⟨s3, a3, b3, c3⟩ := restart_in s2 (M + 5) (fun _ => 0)
  obtain ⟨s4, a4, b4, c4⟩ := restart_in s3 (M + 7) (fun _ => 0)
  obtain ⟨s5, a5, b5, c5⟩ := restart_in s4 (M + 9) (fun _ => 0)
  obtain ⟨s6, a6, b6, c6⟩ := restart_in s5 (M + 11) (fun _ => 0)
  obtain ⟨s7, a7, b7, c7⟩ := restart_in s6 (M + 13) (fun _ => 0)
  obtain ⟨s8, a8, b8, c8⟩ := restart_in s7 (M + 15) (fun _ => 0)
  have c9 : Only (M + 17) (M + 18) s8 (stI (stI s8 (M + 17) 0 0) (M + 17) 1 0) := (Only.stI s8 (M + 17) 0 0).trans (Only.stI _ (M + 17) 1 0)
  obtain ⟨sA, aA, bA, cA⟩ := restart_in (stI (stI s8 (M + 17) 0 0) (M + 17) 1 0) (M + 17 + 1) (fun _ => 0)
  obtain ⟨sB, aB, bB, cB⟩ := restart_in sA (M + 17 + 3) (fun _ => 0)
  have k8 := (((b8.keep c9 (by omega)).keep cA (by omega)).keep cB (by omega))
  have k7 := ((((b7.keep c8 (by omega)).keep c9 (by omega)).keep cA (by omega)).keep cB (by omega))
  have k6 := (((((b6.keep c7 (by omega)).keep c8 (by omega)).keep c9 (by omega)).keep cA (by omega)).keep cB (by omega))
  have k5 := ((((((b5.keep c6 (by omega)).keep c7 (by omega)).keep c8 (by omega)).keep c9 (by omega)).keep cA (by omega)).keep cB (by omega))
  have k4 := (((((((b4.keep c5 (by omega)).keep c6 (by omega)).keep c7 (by omega)).keep c8 (by omega)).keep c9 (by omega)).keep cA (by omega)).keep cB (by omega))
  have k3 := ((((((((b3.keep c4 (by omega)).keep c5 (by omega)).keep c6 (by omega)).keep c7 (by omega)).keep c8 (by omega)).keep c9 (by omega)).keep cA (by omega)).keep cB (by omega))
  have k2 := (((((((((b2.keep c3 (by omega)).keep c4 (by omega)).keep c5 (by omega)).keep c6 (by omega)).keep c7 (by omega)).keep c8 (by omega)).keep c9 (by omega)).keep cA (by omega)).keep cB (by omega))
  have k1 := ((((((((((b1.keep c2 (by omega)).keep c3 (by omega)).keep c4 (by omega)).keep c5 (by omega)).keep c6 (by omega)).keep c7 (by omega)).keep c8 (by omega)).keep c9 (by omega)).keep cA (by omega)).keep cB (by omega))
  refine ⟨sB, ?_, ⟨0, 0, 0, 0, 0, 0, ?_, ?_, k1, k2, k3, k4, k5, k6, k7, k8, ?_, ?_, bA.keep cB (by omega), bB⟩, ?_⟩
  · unfold f_X3_restart f_X4_restart
    simp only [a1, a2, a3, a4, a5, a6, a7, a8, nam_e, aA, aB, ob_some]
  · exact ⟨⟨rfl, by omega⟩, ⟨rfl, by omega⟩, ⟨rfl, by omega⟩, ⟨rfl, by omega⟩, ⟨rfl, by omega⟩, rfl, by omega⟩
  · exact ⟨fun k hk => absurd hk (by omega), fun k hk => absurd hk (by omega), fun k hk => absurd hk (by omega), fun k hk => absurd hk (by omega), mom_zero _ _ _ _ _ rfl, fun k hk => absurd hk (by omega)⟩
  · rw [(cB (M + 17) (by omega)).1, (cA (M + 17) (by omega)).1, rI_nj _ _ (by omega), rI_eq]
  · rw [(cB (M + 17) (by omega)).1, (cA (M + 17) (by omega)).1, rI_eq]
  · exact ((((((((((c1.mono (by omega) (by omega)).trans (c2.mono (by omega) (by omega))).trans (c3.mono (by omega) (by omega))).trans (c4.mono (by omega) (by omega))).trans (c5.mono (by omega) (by omega))).trans (c6.mono (by omega) (by omega))).trans (c7.mono (by omega) (by omega))).trans (c8.mono (by omega) (by omega))).trans (c9.mono (by omega) (by omega))).trans (cA.mono (by omega) (by omega))).trans (cB.mono (by omega) (by omega))
theorem m_market {σ : Sg} (h : Inv σ) : Sim f_X11_market f_X12_market σ := by
  obtain ⟨τ, e1, e2, e3⟩ := restart_M σ 1
  obtain ⟨υ, g1, g2, g3⟩ := empties_r τ 0 (by omega)
  have hu : Un Pk σ τ := e3.un (fun a j p q => by unfold Pk; omega)
  refine ⟨rI σ 2 1, τ, υ, ?_, ?_, Inv_two h e2 hu (g3.mono (fun a j q => by unfold Pr; omega)) (fun j hj => by rw [g2, if_pos (by omega)])⟩
  · unfold f_X11_market
    rw [nam_e, e1, ob_some]
    rfl
  · unfold f_X12_market
    rw [if_pos (show inb 0 (kLen 113) = true from i113 (n := 0) (by omega)), nam_e, L0, g1, ob_some, ix_nI (by omega), Pk_w hu, ← h.1.n0]
