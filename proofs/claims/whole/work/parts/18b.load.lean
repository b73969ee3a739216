/-! ===== load, gain ===== -/
/-- the way kept: (fewest, code, truth, least truth) -/
def kW (A : Option (Nat × Nat × Int32 × Int32)) (w c : Nat) (T : Int32) : Option (Nat × Nat × Int32 × Int32) := match A with
  | none => some (w, c, T, T)
  | some (f, d, t, l) => some (if w < f then w else f, if w < f then c else d, if w < f then T else t, if T < l then T else l)
/-- the class's pans keep A -/
def KW (σ : Sg) (A : Option (Nat × Nat × Int32 × Int32)) : Prop := match A with
  | none => rI σ 99 0 = 0
  | some (f, d, t, l) => rI σ 99 0 = 1 ∧ rI σ 99 1 = nI f ∧ rI σ 99 2 = nI d ∧ rI σ 99 3 = t ∧ rI σ 99 4 = l ∧ f ≤ 7
theorem KW_same {σ τ : Sg} {A : Option (Nat × Nat × Int32 × Int32)} (h : KW σ A) (hs : ∀ j, j < 5 → rI τ 99 j = rI σ 99 j) : KW τ A := by
  cases A with
  | none => exact (hs 0 (by omega)).trans h
  | some q =>
    obtain ⟨h1, h2, h3, h4, h5, h6⟩ := h
    exact ⟨(hs 0 (by omega)).trans h1, (hs 1 (by omega)).trans h2, (hs 2 (by omega)).trans h3, (hs 3 (by omega)).trans h4, (hs 4 (by omega)).trans h5, h6⟩
theorem keep68 {σ : Sg} {T : Int32} : ∃ τ, b_X5_keepWay_68 σ T = some τ ∧ rI τ 99 0 = 1 ∧ rI τ 99 4 = T ∧ (∀ j, j ≠ 0 → j ≠ 4 → rI τ 99 j = rI σ 99 j) ∧ Only 99 100 σ τ := by
  refine ⟨stI (stI σ 99 4 T) 99 0 1, rfl, rI_eq _ _ _ _, ?_, fun j h1 h2 => ?_, (Only.stI σ 99 4 T).trans (Only.stI _ 99 0 1)⟩
  · rw [rI_nj _ _ (by omega), rI_eq]
  · rw [rI_nj _ _ h1, rI_nj _ _ h2]
theorem keepWay_c {σ : Sg} {A : Option (Nat × Nat × Int32 × Int32)} {w c : Nat} (h : KW σ A) (h6 : rI σ 99 6 = nI w) (h7 : rI σ 99 7 = nI c) (hw : w ≤ 7) : ∃ τ, f_X5_keepWay σ = some τ ∧ KW τ (kW A w c (rI σ 99 9)) ∧ (∀ j, 5 ≤ j → rI τ 99 j = rI σ 99 j) ∧ Only 99 100 σ τ := by
  have o1 : Only 99 100 σ (stI (stI (stI σ 99 1 (rI σ 99 6)) 99 2 (rI (stI σ 99 1 (rI σ 99 6)) 99 7)) 99 3 (rI (stI (stI σ 99 1 (rI σ 99 6)) 99 2 (rI (stI σ 99 1 (rI σ 99 6)) 99 7)) 99 9)) := ((Only.stI σ 99 1 _).trans (Only.stI _ 99 2 _)).trans (Only.stI _ 99 3 _)
  generalize hs1 : stI (stI (stI σ 99 1 (rI σ 99 6)) 99 2 (rI (stI σ 99 1 (rI σ 99 6)) 99 7)) 99 3 (rI (stI (stI σ 99 1 (rI σ 99 6)) 99 2 (rI (stI σ 99 1 (rI σ 99 6)) 99 7)) 99 9) = s1 at o1
  have e1 : rI s1 99 1 = nI w := by rw [← hs1, rI_nj _ _ (by omega), rI_nj _ _ (by omega), rI_eq, h6]
  have e2 : rI s1 99 2 = nI c := by rw [← hs1, rI_nj _ _ (by omega), rI_eq, rI_nj _ _ (by omega), h7]
  have e3 : rI s1 99 3 = rI σ 99 9 := by rw [← hs1, rI_eq, rI_nj _ _ (by omega), rI_nj _ _ (by omega)]
  have e4 : ∀ j, j ≠ 1 → j ≠ 2 → j ≠ 3 → rI s1 99 j = rI σ 99 j := fun j j1 j2 j3 => by rw [← hs1, rI_nj _ _ j3, rI_nj _ _ j2, rI_nj _ _ j1]
  have e18 : b_X5_keepWay_18 σ = b_X5_keepWay_42 s1 := by
    unfold b_X5_keepWay_18
    rw [nam_e, nam_e, nam_e, hs1]
  cases A with
  | none =>
    obtain ⟨τ, a1, a2, a3, a4, c1⟩ := keep68 (σ := s1) (T := rI σ 99 9)
    refine ⟨τ, ?_, ⟨a2, ?_, ?_, ?_, a3, hw⟩, fun j hj => ?_, o1.trans c1⟩
    · unfold f_X5_keepWay
      rw [if_pos (show rI σ 99 0 = 0 from h), e18]
      unfold b_X5_keepWay_42
      rw [e4 0 (by omega) (by omega) (by omega), if_pos (show rI σ 99 0 = 0 from h), e4 9 (by omega) (by omega) (by omega)]
      exact a1
    · rw [a4 1 (by omega) (by omega), e1]
    · rw [a4 2 (by omega) (by omega), e2]
    · rw [a4 3 (by omega) (by omega), e3]
    · rw [a4 j (by omega) (by omega), e4 j (by omega) (by omega) (by omega)]
  | some q =>
    obtain ⟨f, d, t, l⟩ := q
    obtain ⟨g0, g1, g2, g3, g4, g5⟩ := h
    have n0 : ¬ rI σ 99 0 = 0 := by rw [g0]; decide
    by_cases q : w < f
    · obtain ⟨τ, a1, a2, a3, a4, c1⟩ := keep68 (σ := s1) (T := if rI σ 99 9 < l then rI σ 99 9 else l)
      refine ⟨τ, ?_, ⟨a2, ?_, ?_, ?_, a3, ?_⟩, fun j hj => ?_, o1.trans c1⟩
      · unfold f_X5_keepWay
        rw [if_neg n0, g1, h6, if_neg (nI_ge q (by omega)), e18]
        unfold b_X5_keepWay_42
        rw [e4 0 (by omega) (by omega) (by omega), if_neg n0, e4 9 (by omega) (by omega) (by omega), e4 4 (by omega) (by omega) (by omega), g4]
        exact a1
      · rw [a4 1 (by omega) (by omega), e1, if_pos q]
      · rw [a4 2 (by omega) (by omega), e2, if_pos q]
      · rw [a4 3 (by omega) (by omega), e3, if_pos q]
      · rw [if_pos q]; exact hw
      · rw [a4 j (by omega) (by omega), e4 j (by omega) (by omega) (by omega)]
    · obtain ⟨τ, a1, a2, a3, a4, c1⟩ := keep68 (σ := σ) (T := if rI σ 99 9 < l then rI σ 99 9 else l)
      refine ⟨τ, ?_, ⟨a2, ?_, ?_, ?_, a3, ?_⟩, fun j hj => a4 j (by omega) (by omega), c1⟩
      · unfold f_X5_keepWay
        rw [if_neg n0, g1, h6, if_pos (nI_le (by omega) (by omega))]
        unfold b_X5_keepWay_42
        rw [if_neg n0, g4]
        exact a1
      · rw [a4 1 (by omega) (by omega), g1, if_neg q]
      · rw [a4 2 (by omega) (by omega), g2, if_neg q]
      · rw [a4 3 (by omega) (by omega), g3, if_neg q]
      · rw [if_neg q]; exact g5
/-- what the code c adds to what is kept -/
def stW (u : Nat → Bool) (h t : Nat → Int32) (n : Nat) (l : Int32) : Nat → Option (Nat × Nat × Int32 × Int32) → Option (Nat × Nat × Int32 × Int32) := fun c A => if okW u 0 n c = true ∧ hsW h 0 n c = l then kW A (usW n c) c (hsW t 0 n c) else A
theorem fo_id {α : Type} {st : Nat → α → α} {a : α} : ∀ (m k : Nat), (∀ j, k ≤ j → j < k + m → st j a = a) → fo st k m a = a
  | 0, _, _ => rfl
  | m + 1, k, h => by
    rw [fo_s, h k (by omega) (by omega)]
    exact fo_id m (k + 1) (fun j h1 h2 => h j (by omega) (by omega))
theorem weigh_loop {n : Nat} {h t : Nat → Int32} (b l : Int32) (hn : n ≤ 7) : ∀ (D d c i fu : Nat) (σ : Sg) (A : Option (Nat × Nat × Int32 × Int32)), d ≤ D → d + c = 3 ^ n → 0 < d → i ≤ c → d < fu → LW h t σ 0 n c → KW σ A → okW (uW b) 0 n c = true → rowIs σ 6 n h → rowIs σ 19 n t → rI σ 2 1 = nI n → ∃ τ, b_X5_weigh_12 1 l b fu σ (nI i) = some τ ∧ KW τ (fo (stW (uW b) h t n l) (c + 1) (d - 1) A) ∧ Only 99 102 σ τ := by
  intro D
  induction D with
  | zero => intro d c i fu σ A hD hd h0; omega
  | succ D ih =>
    intro d c i fu σ A hD hd h0 hi hf hL hA ho h1 h2 h3
    obtain ⟨fu, rfl⟩ : ∃ q, fu = q + 1 := ⟨fu - 1, by omega⟩
    have hp := pw7 hn
    obtain ⟨s1, b2, c1, hnext⟩ := next_loop b hn n 0 FU σ c (by omega) (by unfold FU; omega) (by omega) ho hL h1 h2 h3
    have hA1 := KW_same hA b2
    rw [b_X5_weigh_12, if_neg (show ¬ (2187 : Int32) ≤ nI i from nI_ge (b := 2187) (by omega) (by omega))]
    rcases nxW_spec (uW b) n 0 c ho (by omega) with ⟨r', e1, e2, e3, e4, e5⟩ | ⟨e1, e2⟩
    · rcases hnext with ⟨r2, g1, g2, g3⟩ | ⟨g1, _⟩
      · rw [e1] at g1
        cases g1
        have g2' : f_X5_layNext σ 1 b = some (1, s1) := g2
        have hfo : fo (stW (uW b) h t n l) (c + 1) (d - 1) A = fo (stW (uW b) h t n l) (r' + 1) ((3 ^ n - r') - 1) (stW (uW b) h t n l r' A) := by
          have hid : fo (stW (uW b) h t n l) (c + 1) (r' - c - 1) A = A := fo_id (r' - c - 1) (c + 1) (fun j j1 j2 => by
            unfold stW
            rw [if_neg (fun z => by rw [e5 j (by omega) (by omega)] at z; cases z.1)])
          rw [show d - 1 = (r' - c - 1) + ((3 ^ n - r' - 1) + 1) by omega, fo_add, hid, show c + 1 + (r' - c - 1) = r' by omega, fo_s]
        rw [g2', bnd_some, if_neg (show ¬ (1 : Int32) = 0 by decide), hfo]
        unfold b_X5_weigh_41
        simp only [nam_e, nI_1]
        have h8 : rI s1 99 8 = hsW h 0 n r' := g3.2.2.2.1
        have h9 : rI s1 99 9 = hsW t 0 n r' := g3.2.2.2.2
        by_cases q : hsW h 0 n r' = l
        · obtain ⟨s2, a2, a3, a4, c2⟩ := keepWay_c hA1 g3.2.1 (g3.2.2.1.trans (by rw [Nat.pow_zero, Nat.one_mul])) (Nat.le_trans (usW_le n r') hn)
          have hst : stW (uW b) h t n l r' A = kW A (usW n r') r' (rI s1 99 9) := by rw [h9]; exact if_pos ⟨e2, q⟩
          have hL2 : LW h t s2 0 n r' := ⟨g3.1.keep c2 (by omega), (a4 6 (by omega)).trans g3.2.1, (a4 7 (by omega)).trans g3.2.2.1, (a4 8 (by omega)).trans h8, (a4 9 (by omega)).trans h9⟩
          have c12 : Only 99 102 σ s2 := c1.trans (c2.mono (by omega) (by omega))
          obtain ⟨τ, k1, k2, k3⟩ := ih (3 ^ n - r') r' (i + 1) fu s2 _ (by omega) (by omega) (by omega) (by omega) (by omega) hL2 a3 e2 (h1.keep c12 (by omega)) (h2.keep c12 (by omega)) (by rw [(c12 2 (by omega)).1]; exact h3)
          rw [h8, if_pos q, a2, ob_some, hst]
          exact ⟨τ, k1, k2, c12.trans k3⟩
        · have hst : stW (uW b) h t n l r' A = A := if_neg (fun z => q z.2)
          obtain ⟨τ, k1, k2, k3⟩ := ih (3 ^ n - r') r' (i + 1) fu s1 A (by omega) (by omega) (by omega) (by omega) (by omega) g3 hA1 e2 (h1.keep c1 (by omega)) (h2.keep c1 (by omega)) (by rw [(c1 2 (by omega)).1]; exact h3)
          rw [h8, if_neg q, hst]
          exact ⟨τ, k1, k2, c1.trans k3⟩
      · rw [e1] at g1; cases g1
    · rcases hnext with ⟨r2, g1, _, _⟩ | ⟨_, g2⟩
      · rw [e1] at g1; cases g1
      · have g2' : f_X5_layNext σ 1 b = some (0, s1) := g2
        refine ⟨s1, ?_, ?_, c1⟩
        · rw [g2', bnd_some, if_pos rfl]
        · have hid : fo (stW (uW b) h t n l) (c + 1) (d - 1) A = A := fo_id (d - 1) (c + 1) (fun j j1 j2 => by
            unfold stW
            rw [if_neg (fun z => by rw [e2 j (by omega) (by omega)] at z; cases z.1)])
          rw [hid]
          exact hA1
theorem layNo_loop : ∀ (t i fu : Nat) (σ : Sg), t + i = 7 → t < fu → rowIs σ 100 i (fun _ => 0) → ∃ τ, b_X5_layNothing_9 fu σ (nI i) = some τ ∧ rowIs τ 100 7 (fun _ => 0) ∧ rI τ 99 6 = 0 ∧ rI τ 99 7 = 0 ∧ rI τ 99 8 = 0 ∧ rI τ 99 9 = 0 ∧ rI τ 99 0 = rI σ 99 0 ∧ Only 99 102 σ τ := by
  intro t
  induction t with
  | zero =>
    intro i fu σ ht hf h
    obtain ⟨fu, rfl⟩ : ∃ q, fu = q + 1 := ⟨fu - 1, by omega⟩
    have o1 : Only 99 100 σ (stI (stI (stI (stI σ 99 6 0) 99 7 0) 99 8 0) 99 9 0) := (((Only.stI σ 99 6 0).trans (Only.stI _ 99 7 0)).trans (Only.stI _ 99 8 0)).trans (Only.stI _ 99 9 0)
    have : i = 7 := by omega
    subst this
    refine ⟨stI (stI (stI (stI σ 99 6 0) 99 7 0) 99 8 0) 99 9 0, ?_, h.keep o1 (by omega), ?_, ?_, ?_, rI_eq _ _ _ _, ?_, o1.mono (by omega) (by omega)⟩
    · rw [b_X5_layNothing_9, if_pos (show (7 : Int32) ≤ nI 7 from nI_le (a := 7) (by omega) (by omega)), nam_e, nam_e, nam_e, nam_e]
    · rw [rI_nj _ _ (by omega), rI_nj _ _ (by omega), rI_nj _ _ (by omega), rI_eq]
    · rw [rI_nj _ _ (by omega), rI_nj _ _ (by omega), rI_eq]
    · rw [rI_nj _ _ (by omega), rI_eq]
    · rw [rI_nj _ _ (by omega), rI_nj _ _ (by omega), rI_nj _ _ (by omega), rI_nj _ _ (by omega)]
  | succ t ih =>
    intro i fu σ ht hf h
    obtain ⟨fu, rfl⟩ : ∃ q, fu = q + 1 := ⟨fu - 1, by omega⟩
    obtain ⟨s1, a1, b1, c1⟩ := add_in 0 h (show i < 7 by omega)
    obtain ⟨τ, k1, k2, k3, k4, k5, k6, k7, k8⟩ := ih (i + 1) fu s1 (by omega) (by omega) (b1.cong (fun j hj => by
      unfold upd
      split <;> rfl))
    refine ⟨τ, ?_, k2, k3, k4, k5, k6, k7.trans ((c1 99 (by omega)).1 0), (c1.mono (by omega) (by omega)).trans k8⟩
    rw [b_X5_layNothing_9, if_neg (show ¬ (7 : Int32) ≤ nI i from nI_ge (b := 7) (by omega) (by omega)), a1, ob_some, nam_e, nI_1]
    exact k1
theorem weigh_c {σ : Sg} {n : Nat} {h t : Nat → Int32} (b l : Int32) (hn : n ≤ 7) (h1 : rowIs σ 6 n h) (h2 : rowIs σ 19 n t) (h3 : rI σ 2 1 = nI n) : ∃ τ, f_X5_weigh σ 1 l b = some τ ∧ KW τ (fo (stW (uW b) h t n l) 1 (3 ^ n - 1) none) ∧ Only 99 102 σ τ := by
  have o1 : Only 99 100 σ (stI σ 99 0 0) := Only.stI σ 99 0 0
  obtain ⟨s2, a2, b2, c2⟩ := restart_in (stI σ 99 0 0) 100 (fun _ => 0)
  obtain ⟨s3, a3, b3, b4, b5, b6, b7, b8, c3⟩ := layNo_loop 7 0 FU s2 (by omega) (by unfold FU; omega) b2
  have c4 : Only 99 102 σ s3 := ((o1.mono (by omega) (by omega)).trans (c2.mono (by omega) (by omega))).trans c3
  have hp : 0 < 3 ^ n := Nat.pow_pos (by omega)
  have hok : ∀ m k, okW (uW b) k m 0 = true := fun m => by
    induction m with
    | zero => exact fun _ => rfl
    | succ m ih => intro k; rw [okW_s, show 0 / 3 = 0 from rfl, ih, Bool.and_true, decide_eq_true (show 0 % 3 = 0 from rfl), Bool.true_or]
  have hL : LW h t s3 0 n 0 := ⟨b3.cong (fun j _ => by
    show (0 : Int32) = dgW 0 0 j
    unfold dgW
    rw [if_neg (by omega), Nat.zero_div]
    rfl), by rw [b4, usW_0]; rfl, by rw [b5, Nat.mul_zero]; rfl, by rw [b6, hsW_0], by rw [b7, hsW_0]⟩
  have hp7 := pw7 hn
  obtain ⟨τ, k1, k2, k3⟩ := weigh_loop b l hn (3 ^ n) (3 ^ n) 0 0 FU s3 none (by omega) (by omega) hp (by omega) (by unfold FU; omega) hL (show rI s3 99 0 = 0 by rw [b8, (c2 99 (by omega)).1, rI_eq]) (hok n 0) (h1.keep c4 (by omega)) (h2.keep c4 (by omega)) (by rw [(c4 2 (by omega)).1]; exact h3)
  refine ⟨τ, ?_, k2, c4.trans k3⟩
  unfold f_X5_weigh
  rw [nam_e]
  unfold f_X5_layNothing
  rw [a2, ob_some, show b_X5_layNothing_9 FU s2 0 = some s3 from a3, ob_some]
  exact k1
/-! the reference -/
def Pq (a j : Nat) : Prop := a = 112 ∧ 10 ≤ j
theorem codes_loop {σ : Sg} {n : Nat} (hN : rI σ 113 0 = nI n) (hn : n ≤ 7) : ∀ (t i fu : Nat), t + i = n → t < fu → b_X12_codes_4 σ fu (nI (3 ^ i)) (nI i) = some (nI (3 ^ n)) := by
  intro t
  induction t with
  | zero =>
    intro i fu ht hf
    obtain ⟨fu, rfl⟩ : ∃ q, fu = q + 1 := ⟨fu - 1, by omega⟩
    rw [b_X12_codes_4, if_pos (show inb 0 (kLen 113) = true from i113 (n := 0) (by omega)), show rI σ 113 (ix 0) = nI n from hN, if_pos (nI_le (by omega) (by omega)), show i = n by omega]
  | succ t ih =>
    intro i fu ht hf
    obtain ⟨fu, rfl⟩ : ∃ q, fu = q + 1 := ⟨fu - 1, by omega⟩
    rw [b_X12_codes_4, if_pos (show inb 0 (kLen 113) = true from i113 (n := 0) (by omega)), show rI σ 113 (ix 0) = nI n from hN, if_neg (nI_ge (by omega) (by omega)), nam_e, nam_e, nI_1, L3, pk_mul, ← Nat.pow_succ]
    exact ih (i + 1) fu (by omega) (by omega)
theorem codes_r {σ : Sg} {n : Nat} (hN : rI σ 113 0 = nI n) (hn : n ≤ 7) : f_X12_codes σ = some (nI (3 ^ n)) := codes_loop hN hn n 0 FU (by omega) (by unfold FU; omega)
/-- the reference's sums over a code -/
def RW (σ : Sg) (U : Nat) (O : Bool) (H T : Int32) : Prop := rI σ 112 10 = nI U ∧ rI σ 112 11 = b2i O ∧ rI σ 112 12 = H ∧ rI σ 112 13 = T
theorem lays_loop {n : Nat} {g : Nat → Int32} {u : Nat → Bool} (l1 l2 : Int32) (hn : n ≤ 7) (g0 : g 0 = nI n) (hu : ∀ k, k < n → u k = (decide (l2 = 0) || decide (¬ f_X12_has (g 3) (nI k) = 0))) : ∀ (m k fu : Nat) (σ : Sg) (r U : Nat) (O : Bool) (H T : Int32), m + k = n → m < fu → r < 2 ^ 31 → rI σ 113 = g → RW σ U O H T → ∃ τ, b_X12_lays_25 l1 l2 fu σ (nI r) (nI k) = some τ ∧ RW τ (U + usW m r) (O && okW u k m r) (H + hsW (fun j => g (25 + j)) k m r) (T + hsW (fun j => g (18 + j)) k m r) ∧ Un Pq σ τ := by
  intro m
  induction m with
  | zero =>
    intro k fu σ r U O H T hm hf hr hg hR
    obtain ⟨fu, rfl⟩ : ∃ q, fu = q + 1 := ⟨fu - 1, by omega⟩
    have e0 : rI σ 113 (ix 0) = nI n := by rw [hg]; exact g0
    refine ⟨σ, ?_, ?_, Un.rf⟩
    · rw [b_X12_lays_25, if_pos (show inb 0 (kLen 113) = true from i113 (n := 0) (by omega)), e0, if_pos (nI_le (by omega) (by omega))]
    · unfold usW okW hsW
      rw [Nat.add_zero, Bool.and_true, Int32.add_zero, Int32.add_zero]
      exact hR
  | succ m ih =>
    intro k fu σ r U O H T hm hf hr hg hR
    obtain ⟨fu, rfl⟩ : ∃ q, fu = q + 1 := ⟨fu - 1, by omega⟩
    have e0 : rI σ 113 (ix 0) = nI n := by rw [hg]; exact g0
    obtain ⟨R1, R2, R3, R4⟩ := hR
    have key : ∀ O', (O && (decide (r % 3 = 0) || u k)) = O' → ∃ τ, b_X12_lays_123 l1 l2 (b_X12_lays_25 l1 l2 fu) (stI σ 112 10 (nI (U + (if r % 3 = 0 then 0 else 1)))) (nI (r / 3)) (nI k) (wy (r % 3)) (b2i O') = some τ ∧ RW τ (U + usW (m + 1) r) (O && okW u k (m + 1) r) (H + hsW (fun j => g (25 + j)) k (m + 1) r) (T + hsW (fun j => g (18 + j)) k (m + 1) r) ∧ Un Pq σ τ := by
      intro O' hO
      have hu1 : ∀ a b c d : Int32, Un Pq σ (stI (stI (stI (stI σ 112 10 a) 112 11 b) 112 12 c) 112 13 d) := fun a b c d => (((Un.stI σ 112 10 a ⟨rfl, by omega⟩).trans (Un.stI _ 112 11 b ⟨rfl, by omega⟩)).trans (Un.stI _ 112 12 c ⟨rfl, by omega⟩)).trans (Un.stI _ 112 13 d ⟨rfl, by omega⟩)
      have e25 : ∀ s : Sg, rI s 113 = g → rI s 113 (ix (25 + nI k)) = g (25 + k) := fun s hs => by rw [hs, L25, nI_add, ix_nI (by omega)]
      have e18 : ∀ s : Sg, rI s 113 = g → rI s 113 (ix (18 + nI k)) = g (18 + k) := fun s hs => by rw [hs, L18, nI_add, ix_nI (by omega)]
      have i25 : inb (25 + nI k) (kLen 113) = true := by rw [L25, nI_add]; exact i113 (by omega)
      have i18 : inb (18 + nI k) (kLen 113) = true := by rw [L18, nI_add]; exact i113 (by omega)
      have g1 : ∀ (s : Sg) (j : Nat) (v : Int32), rI s 113 = g → rI (stI s 112 j v) 113 = g := fun s j v hs => by rw [← hs]; exact funext (fun i => rI_ne _ _ (by omega))
      unfold b_X12_lays_123
      rw [nam_e, if_pos i25, nam_e, if_pos i18, nam_e, nam_e, nI_1, e25 _ (g1 _ _ _ (g1 _ _ _ hg)), e18 _ (g1 _ _ _ (g1 _ _ _ (g1 _ _ _ hg)))]
      have d12 : rI (stI (stI σ 112 10 (nI (U + (if r % 3 = 0 then 0 else 1)))) 112 11 (b2i O')) 112 12 = H := by rw [rI_nj _ _ (by omega), rI_nj _ _ (by omega), R3]
      have d13 : ∀ v, rI (stI (stI (stI σ 112 10 (nI (U + (if r % 3 = 0 then 0 else 1)))) 112 11 (b2i O')) 112 12 v) 112 13 = T := fun v => by rw [rI_nj _ _ (by omega), rI_nj _ _ (by omega), rI_nj _ _ (by omega), R4]
      rw [d12, d13]
      obtain ⟨τ, k1, k2, k3⟩ := ih (k + 1) fu (stI (stI (stI (stI σ 112 10 (nI (U + (if r % 3 = 0 then 0 else 1)))) 112 11 (b2i O')) 112 12 (H + wy (r % 3) * g (25 + k))) 112 13 (T + wy (r % 3) * g (18 + k))) (r / 3) (U + (if r % 3 = 0 then 0 else 1)) O' (H + wy (r % 3) * g (25 + k)) (T + wy (r % 3) * g (18 + k)) (by omega) (by omega) (by omega) (g1 _ _ _ (g1 _ _ _ (g1 _ _ _ (g1 _ _ _ hg)))) ⟨by rw [rI_nj _ _ (by omega), rI_nj _ _ (by omega), rI_nj _ _ (by omega), rI_eq], by rw [rI_nj _ _ (by omega), rI_nj _ _ (by omega), rI_eq], by rw [rI_nj _ _ (by omega), rI_eq], rI_eq _ _ _ _⟩
      refine ⟨τ, k1, ?_, (hu1 _ _ _ _).trans k3⟩
      rw [usW_s, okW_s, hsW_s, hsW_s, ← Bool.and_assoc, hO, ← Nat.add_assoc, ← Int32.add_assoc, ← Int32.add_assoc]
      exact k2
    rw [b_X12_lays_25, if_pos (show inb 0 (kLen 113) = true from i113 (n := 0) (by omega)), e0, if_neg (nI_ge (by omega) (by omega)), L3, pk_rem (by omega) (by omega) (by omega), pk_div (by omega) (by omega) (by omega), nam_e, nam_e]
    -- 83: what is used, whether it may be
    have k83 : ∀ w : Int32, w = wy (r % 3) → ∃ τ, b_X12_lays_83 l1 l2 (b_X12_lays_25 l1 l2 fu) σ (nI (r / 3)) (nI k) (nI (r % 3)) w (nI (if r % 3 = 0 then 0 else 1)) (rI σ 112 10) = some τ ∧ RW τ (U + usW (m + 1) r) (O && okW u k (m + 1) r) (H + hsW (fun j => g (25 + j)) k (m + 1) r) (T + hsW (fun j => g (18 + j)) k (m + 1) r) ∧ Un Pq σ τ := by
      intro w hw
      subst hw
      unfold b_X12_lays_83 b_X12_lays_122 b_X12_lays_118
      rw [nam_e, R1, nI_add, rI_nj _ _ (by omega), R2]
      have e3 : ∀ v, rI (stI σ 112 10 v) 113 (ix 3) = g 3 := fun v => by rw [rI_ne _ _ (by omega), hg]; rfl
      rw [e3, if_pos (show inb 3 (kLen 113) = true from i113 (n := 3) (by omega))]
      cases O with
      | false =>
        rw [if_pos (show b2i false = 0 from rfl)]
        exact key false (Bool.false_and _)
      | true =>
        rw [if_neg (show ¬ b2i true = 0 by decide)]
        by_cases q1 : r % 3 = 0
        · rw [if_pos (show nI (r % 3) = 0 by rw [q1]; rfl)]
          exact key true (by rw [decide_eq_true q1]; rfl)
        · rw [if_neg (show ¬ nI (r % 3) = 0 from nI_ne0 (by omega) (by omega))]
          by_cases q2 : l2 = 0
          · rw [if_pos q2]
            exact key true (by rw [hu k (by omega), decide_eq_true q2, Bool.true_or, Bool.or_true]; rfl)
          · rw [if_neg q2]
            by_cases q3 : f_X12_has (g 3) (nI k) = 0
            · rw [if_pos q3]
              exact key false (by rw [hu k (by omega), decide_eq_false q1, decide_eq_false q2, decide_eq_false (fun z => z q3)]; rfl)
            · rw [if_neg q3]
              exact key true (by rw [hu k (by omega), decide_eq_true q3, Bool.or_true, Bool.or_true]; rfl)
    have k66 : ∀ w : Int32, w = wy (r % 3) → ∃ τ, b_X12_lays_66 l1 l2 (b_X12_lays_25 l1 l2 fu) σ (nI (r / 3)) (nI k) (nI (r % 3)) w = some τ ∧ RW τ (U + usW (m + 1) r) (O && okW u k (m + 1) r) (H + hsW (fun j => g (25 + j)) k (m + 1) r) (T + hsW (fun j => g (18 + j)) k (m + 1) r) ∧ Un Pq σ τ := by
      intro w hw
      have := k83 w hw
      unfold b_X12_lays_66
      by_cases q : r % 3 = 0
      · rw [if_pos (show nI (r % 3) = 0 by rw [q]; rfl)]
        rw [if_pos q] at this
        exact this
      · rw [if_neg (show ¬ nI (r % 3) = 0 from nI_ne0 (by omega) (by omega))]
        rw [if_neg q] at this
        exact this
    rcases (show r % 3 = 0 ∨ r % 3 = 1 ∨ r % 3 = 2 by omega) with q | q | q
    · rw [if_neg (show ¬ nI (r % 3) = 1 by rw [q]; decide), if_neg (show ¬ nI (r % 3) = 2 by rw [q]; decide)]
      exact k66 0 (by rw [q]; rfl)
    · rw [if_pos (show nI (r % 3) = 1 by rw [q]; rfl)]
      exact k66 (-1) (by rw [q]; rfl)
    · rw [if_neg (show ¬ nI (r % 3) = 1 by rw [q]; decide), if_pos (show nI (r % 3) = 2 by rw [q]; rfl)]
      exact k66 1 (by rw [q]; rfl)
theorem lays_r {n : Nat} {g : Nat → Int32} {u : Nat → Bool} {σ : Sg} {c : Nat} (l2 : Int32) (hn : n ≤ 7) (g0 : g 0 = nI n) (hu : ∀ k, k < n → u k = (decide (l2 = 0) || decide (¬ f_X12_has (g 3) (nI k) = 0))) (hg : rI σ 113 = g) (hc : c < 2 ^ 31) : ∃ τ, f_X12_lays σ (nI c) l2 = some τ ∧ RW τ (usW n c) (okW u 0 n c) (hsW (fun j => g (25 + j)) 0 n c) (hsW (fun j => g (18 + j)) 0 n c) ∧ Un Pq σ τ := by
  have hu1 : Un Pq σ (stI (stI (stI (stI σ 112 10 0) 112 11 1) 112 12 0) 112 13 0) := (((Un.stI σ 112 10 0 ⟨rfl, by omega⟩).trans (Un.stI _ 112 11 1 ⟨rfl, by omega⟩)).trans (Un.stI _ 112 12 0 ⟨rfl, by omega⟩)).trans (Un.stI _ 112 13 0 ⟨rfl, by omega⟩)
  obtain ⟨τ, k1, k2, k3⟩ := lays_loop (u := u) (nI c) l2 hn g0 hu n 0 FU _ c 0 true 0 0 (by omega) (by unfold FU; omega) hc ((funext (fun j => (hu1 113 j (by unfold Pq; omega)).1)).trans hg) ⟨by rw [rI_nj _ _ (by omega), rI_nj _ _ (by omega), rI_nj _ _ (by omega), rI_eq]; rfl, by rw [rI_nj _ _ (by omega), rI_nj _ _ (by omega), rI_eq]; rfl, by rw [rI_nj _ _ (by omega), rI_eq], rI_eq _ _ _ _⟩
  rw [Nat.zero_add, Bool.true_and, Int32.zero_add, Int32.zero_add] at k2
  refine ⟨τ, ?_, k2, hu1.trans k3⟩
  unfold f_X12_lays
  rw [nam_e, nam_e, nam_e, nam_e]
  exact k1
/-- what load tells of what is kept -/
def lB (A : Option (Nat × Nat × Int32 × Int32)) : Int32 := match A with
  | none => -1
  | some (_, d, _, _) => nI d
def lF (A : Option (Nat × Nat × Int32 × Int32)) : Int32 := match A with
  | none => 1000000
  | some (f, _, _, _) => nI f
def lT (A : Option (Nat × Nat × Int32 × Int32)) : Int32 := match A with
  | none => 0
  | some (_, _, t, _) => t
def lV (A : Option (Nat × Nat × Int32 × Int32)) (w : Int32) : Int32 := match A with
  | none => -10000
  | some (f, d, t, _) => if w = 0 then nI f else if w = 1 then nI d else t
def lG (A : Option (Nat × Nat × Int32 × Int32)) : Int32 := match A with
  | none => 1000000
  | some (_, _, _, l) => l
def lX (A : Option (Nat × Nat × Int32 × Int32)) : Int32 := match A with
  | none => -10000
  | some (_, _, _, l) => l
def lO (A : Option (Nat × Nat × Int32 × Int32)) : Prop := match A with
  | none => True
  | some (f, d, _, l) => f ≤ 7 ∧ d < 2187 ∧ l.toInt < 1000000
theorem lO_k {A : Option (Nat × Nat × Int32 × Int32)} {w c : Nat} {T : Int32} (h : lO A) (hw : w ≤ 7) (hc : c < 2187) (hT : T.toInt < 1000000) : lO (kW A w c T) := by
  cases A with
  | none => exact ⟨hw, hc, hT⟩
  | some q =>
    obtain ⟨f, d, t, l⟩ := q
    obtain ⟨h1, h2, h3⟩ := h
    refine ⟨?_, ?_, ?_⟩
    · show (if w < f then w else f) ≤ 7
      split <;> omega
    · show (if w < f then c else d) < 2187
      split <;> omega
    · show (if T < l then T else l).toInt < 1000000
      split <;> assumption
theorem loadR {n : Nat} {g : Nat → Int32} {u : Nat → Bool} (l l2 w : Int32) (hn : n ≤ 7) (g0 : g 0 = nI n) (hl2 : l2 = 0 ∨ l2 = 1) (hu : ∀ k, k < n → u k = (decide (l2 = 0) || decide (¬ f_X12_has (g 3) (nI k) = 0))) (ht : ∀ j, j < n → vIn (g (18 + j)) 1 250) : ∀ (d c fu : Nat) (σ : Sg) (A : Option (Nat × Nat × Int32 × Int32)), d + c = 3 ^ n → d < fu → rI σ 113 = g → lO A → ∃ τ, b_X12_load_55 l l2 w fu σ (lB A) (lF A) (lT A) (nI c) = some (lV (fo (stW u (fun j => g (25 + j)) (fun j => g (18 + j)) n l) c d A) w, τ) ∧ Un Pq σ τ := by
  have hp := pw7 hn
  intro d
  induction d with
  | zero =>
    intro c fu σ A hd hf hg hA
    obtain ⟨fu, rfl⟩ : ∃ q, fu = q + 1 := ⟨fu - 1, by omega⟩
    refine ⟨σ, ?_, Un.rf⟩
    rw [b_X12_load_55, codes_r (by rw [hg]; exact g0) hn, ob_some, if_pos (nI_le (by omega) (by omega)), fo_0]
    cases A with
    | none => exact if_pos rfl
    | some q =>
      obtain ⟨f, d, t, l'⟩ := q
      rw [if_neg (show ¬ lB (some (f, d, t, l')) = -1 from nI_nm1 (by have := hA.2.1; omega))]
      show (if w = 0 then some (nI f, σ) else if w = 1 then some (nI d, σ) else some (t, σ)) = some (if w = 0 then nI f else if w = 1 then nI d else t, σ)
      split
      · rfl
      · split <;> rfl
  | succ d ih =>
    intro c fu σ A hd hf hg hA
    obtain ⟨fu, rfl⟩ : ∃ q, fu = q + 1 := ⟨fu - 1, by omega⟩
    obtain ⟨s1, a1, ⟨b1, b2, b3, b4⟩, c1⟩ := lays_r (u := u) (c := c) l2 hn g0 hu hg (by omega)
    have hg1 : rI s1 113 = g := (funext (fun j => (c1 113 j (by unfold Pq; omega)).1)).trans hg
    have hb := hsW_b ht n 0 c (by omega) hn
    have key : ∃ τ, b_X12_load_77 l l2 w (b_X12_load_55 l l2 w fu) σ (lB A) (lF A) (lT A) (nI c) l2 (nI c) = some (lV (fo (stW u (fun j => g (25 + j)) (fun j => g (18 + j)) n l) c (d + 1) A) w, τ) ∧ Un Pq σ τ := by
      unfold b_X12_load_77 b_X12_load_120
      rw [a1, ob_some, b1, b2, b3, b4, fo_s]
      simp only [nam_e, nI_1]
      by_cases q1 : okW u 0 n c = true
      · rw [if_neg (show ¬ b2i (okW u 0 n c) = 0 by rw [q1]; decide)]
        by_cases q2 : hsW (fun j => g (25 + j)) 0 n c = l
        · rw [if_pos q2, show stW u (fun j => g (25 + j)) (fun j => g (18 + j)) n l c A = kW A (usW n c) c (hsW (fun j => g (18 + j)) 0 n c) from if_pos ⟨q1, q2⟩]
          have hus := usW_le n c
          have hA2 : lO (kW A (usW n c) c (hsW (fun j => g (18 + j)) 0 n c)) := lO_k hA (by omega) (by omega) (by omega)
          obtain ⟨τ, k1, k2⟩ := ih (c + 1) fu s1 _ (by omega) (by omega) hg1 hA2
          refine ⟨τ, ?_, c1.trans k2⟩
          cases A with
          | none =>
            rw [if_neg (show ¬ lF none ≤ nI (usW n c) from nI_ge (b := 1000000) (by omega) (by omega))]
            exact k1
          | some q =>
            obtain ⟨f, d', t, l'⟩ := q
            have hf7 := hA.1
            by_cases q3 : usW n c < f
            · have ek : kW (some (f, d', t, l')) (usW n c) c (hsW (fun j => g (18 + j)) 0 n c) = some (usW n c, c, hsW (fun j => g (18 + j)) 0 n c, if hsW (fun j => g (18 + j)) 0 n c < l' then hsW (fun j => g (18 + j)) 0 n c else l') := by
                unfold kW
                simp only [if_pos q3]
              rw [if_neg (show ¬ lF (some (f, d', t, l')) ≤ nI (usW n c) from nI_ge q3 (by omega))]
              rw [ek] at k1 ⊢
              exact k1
            · have ek : kW (some (f, d', t, l')) (usW n c) c (hsW (fun j => g (18 + j)) 0 n c) = some (f, d', t, if hsW (fun j => g (18 + j)) 0 n c < l' then hsW (fun j => g (18 + j)) 0 n c else l') := by
                unfold kW
                simp only [if_neg q3]
              rw [if_pos (show lF (some (f, d', t, l')) ≤ nI (usW n c) from nI_le (by omega) (by omega))]
              rw [ek] at k1 ⊢
              exact k1
        · obtain ⟨τ, k1, k2⟩ := ih (c + 1) fu s1 A (by omega) (by omega) hg1 hA
          rw [if_neg q2, show stW u (fun j => g (25 + j)) (fun j => g (18 + j)) n l c A = A from if_neg (fun z => q2 z.2)]
          exact ⟨τ, k1, c1.trans k2⟩
      · obtain ⟨τ, k1, k2⟩ := ih (c + 1) fu s1 A (by omega) (by omega) hg1 hA
        rw [if_pos (show b2i (okW u 0 n c) = 0 by rw [Bool.not_eq_true] at q1; rw [q1]; rfl), show stW u (fun j => g (25 + j)) (fun j => g (18 + j)) n l c A = A from if_neg (fun z => q1 z.1)]
        exact ⟨τ, k1, c1.trans k2⟩
    rw [b_X12_load_55, codes_r (by rw [hg]; exact g0) hn, ob_some, if_neg (nI_ge (by omega) (by omega))]
    rcases hl2 with rfl | rfl
    · rw [if_neg (by decide)]
      exact key
    · rw [if_pos rfl]
      exact key
theorem gainR {n : Nat} {g : Nat → Int32} {u : Nat → Bool} (l l2 : Int32) (hn : n ≤ 7) (g0 : g 0 = nI n) (hl2 : l2 = 0 ∨ l2 = 1) (hu : ∀ k, k < n → u k = (decide (l2 = 0) || decide (¬ f_X12_has (g 3) (nI k) = 0))) (ht : ∀ j, j < n → vIn (g (18 + j)) 1 250) : ∀ (d c fu : Nat) (σ : Sg) (A : Option (Nat × Nat × Int32 × Int32)), d + c = 3 ^ n → d < fu → rI σ 113 = g → lO A → ∃ τ, b_X12_gain_36 l l2 fu σ (lG A) (nI c) = some (lX (fo (stW u (fun j => g (25 + j)) (fun j => g (18 + j)) n l) c d A), τ) ∧ Un Pq σ τ := by
  have hp := pw7 hn
  have e6 : (1000000 : Int32).toInt = 1000000 := rfl
  intro d
  induction d with
  | zero =>
    intro c fu σ A hd hf hg hA
    obtain ⟨fu, rfl⟩ : ∃ q, fu = q + 1 := ⟨fu - 1, by omega⟩
    refine ⟨σ, ?_, Un.rf⟩
    rw [b_X12_gain_36, codes_r (by rw [hg]; exact g0) hn, ob_some, if_pos (nI_le (by omega) (by omega)), fo_0]
    cases A with
    | none => exact if_pos rfl
    | some q =>
      obtain ⟨f, d, t, l'⟩ := q
      refine if_neg (show ¬ l' = 1000000 from fun z => ?_)
      have := hA.2.2
      rw [z] at this
      omega
  | succ d ih =>
    intro c fu σ A hd hf hg hA
    obtain ⟨fu, rfl⟩ : ∃ q, fu = q + 1 := ⟨fu - 1, by omega⟩
    obtain ⟨s1, a1, ⟨b1, b2, b3, b4⟩, c1⟩ := lays_r (u := u) (c := c) l2 hn g0 hu hg (by omega)
    have hg1 : rI s1 113 = g := (funext (fun j => (c1 113 j (by unfold Pq; omega)).1)).trans hg
    have hb := hsW_b ht n 0 c (by omega) hn
    have key : ∃ τ, b_X12_gain_58 l l2 (b_X12_gain_36 l l2 fu) σ (lG A) (nI c) l2 (nI c) = some (lX (fo (stW u (fun j => g (25 + j)) (fun j => g (18 + j)) n l) c (d + 1) A), τ) ∧ Un Pq σ τ := by
      unfold b_X12_gain_58 b_X12_gain_91 b_X12_gain_92
      rw [a1, ob_some, b2, b3, b4, fo_s]
      simp only [nam_e, nI_1]
      by_cases q1 : okW u 0 n c = true
      · rw [if_neg (show ¬ b2i (okW u 0 n c) = 0 by rw [q1]; decide)]
        by_cases q2 : hsW (fun j => g (25 + j)) 0 n c = l
        · rw [if_pos q2, show stW u (fun j => g (25 + j)) (fun j => g (18 + j)) n l c A = kW A (usW n c) c (hsW (fun j => g (18 + j)) 0 n c) from if_pos ⟨q1, q2⟩]
          have hus := usW_le n c
          have hA2 : lO (kW A (usW n c) c (hsW (fun j => g (18 + j)) 0 n c)) := lO_k hA (by omega) (by omega) (by omega)
          obtain ⟨τ, k1, k2⟩ := ih (c + 1) fu s1 _ (by omega) (by omega) hg1 hA2
          refine ⟨τ, ?_, c1.trans k2⟩
          cases A with
          | none =>
            rw [if_neg (show ¬ lG none ≤ hsW (fun j => g (18 + j)) 0 n c from fun z => by
              rw [li_le] at z
              have : (lG none).toInt = 1000000 := rfl
              omega)]
            exact k1
          | some q =>
            obtain ⟨f, d', t, l'⟩ := q
            have ek : lG (kW (some (f, d', t, l')) (usW n c) c (hsW (fun j => g (18 + j)) 0 n c)) = if hsW (fun j => g (18 + j)) 0 n c < l' then hsW (fun j => g (18 + j)) 0 n c else l' := rfl
            rw [ek] at k1
            by_cases q3 : l' ≤ hsW (fun j => g (18 + j)) 0 n c
            · rw [if_pos (show lG (some (f, d', t, l')) ≤ _ from q3)]
              rw [if_neg (Int32.not_lt.mpr q3)] at k1
              exact k1
            · rw [if_neg (show ¬ lG (some (f, d', t, l')) ≤ _ from q3)]
              rw [if_pos (Int32.not_le.mp q3)] at k1
              exact k1
        · obtain ⟨τ, k1, k2⟩ := ih (c + 1) fu s1 A (by omega) (by omega) hg1 hA
          rw [if_neg q2, show stW u (fun j => g (25 + j)) (fun j => g (18 + j)) n l c A = A from if_neg (fun z => q2 z.2)]
          exact ⟨τ, k1, c1.trans k2⟩
      · obtain ⟨τ, k1, k2⟩ := ih (c + 1) fu s1 A (by omega) (by omega) hg1 hA
        rw [if_pos (show b2i (okW u 0 n c) = 0 by rw [Bool.not_eq_true] at q1; rw [q1]; rfl), show stW u (fun j => g (25 + j)) (fun j => g (18 + j)) n l c A = A from if_neg (fun z => q1 z.1)]
        exact ⟨τ, k1, c1.trans k2⟩
    rw [b_X12_gain_36, codes_r (by rw [hg]; exact g0) hn, ob_some, if_neg (nI_ge (by omega) (by omega))]
    rcases hl2 with rfl | rfl
    · rw [if_neg (by decide)]
      exact key
    · rw [if_pos rfl]
      exact key
/-- both sides, whatever is asked of what is kept -/
theorem pans_two {σ : Sg} (h : Inv σ) {l y : Nat} (hl : 1 ≤ l) (hl2 : l ≤ 999) (hy : y ≤ 1) : ∃ A τ n, f_X5_weigh σ 1 (nI l) (if nI y = 1 then rI σ 18 1 else f_X3_allStones σ 1) = some τ ∧ KW τ A ∧ Un Pc σ τ ∧ rI τ 113 = rI σ 113 ∧ n ≤ 7 ∧ rI σ 113 0 = nI n ∧ (∀ j, j < n → vIn (rI σ 113 (18 + j)) 1 250) ∧ ∃ u : Nat → Bool, (∀ k, k < n → u k = (decide (nI y = 0) || decide (¬ f_X12_has (rI σ 113 3) (nI k) = 0))) ∧ A = fo (stW u (fun j => rI σ 113 (25 + j)) (fun j => rI σ 113 (18 + j)) n (nI l)) 0 (3 ^ n) none := by
  obtain ⟨n, b, c, d, e, v, hn, hw, hr⟩ := h.1
  obtain ⟨⟨n0, ha⟩, _⟩ := hn
  have hal := all_c h
  rw [n0] at hal
  obtain ⟨r1, r2, r3, r4, r5, r6, r7, r8, r9, r10, r11, r12⟩ := hr
  have hp : 0 < 3 ^ n := Nat.pow_pos (by omega)
  have hl0 : ¬ (0 : Int32) = nI l := fun z => nI_ne0 (by omega) (by omega) z.symm
  have hfo : ∀ u, fo (stW u (fun j => rI σ 113 (25 + j)) (fun j => rI σ 113 (18 + j)) n (nI l)) 1 (3 ^ n - 1) none = fo (stW u (fun j => rI σ 113 (25 + j)) (fun j => rI σ 113 (18 + j)) n (nI l)) 0 (3 ^ n) none := fun u => by
    obtain ⟨m, hm⟩ : ∃ m, 3 ^ n = m + 1 := ⟨3 ^ n - 1, by omega⟩
    rw [hm, fo_s, Nat.add_sub_cancel, show stW u (fun j => rI σ 113 (25 + j)) (fun j => rI σ 113 (18 + j)) n (nI l) 0 none = none from if_neg (fun z => hl0 ((hsW_0 _ _ _).symm.trans z.2))]
  have fin : ∀ b' : Int32, (if nI y = 1 then rI σ 18 1 else f_X3_allStones σ 1) = b' → (∀ k, k < n → uW b' k = (decide (nI y = 0) || decide (¬ f_X12_has (rI σ 113 3) (nI k) = 0))) → ∃ A τ n, f_X5_weigh σ 1 (nI l) (if nI y = 1 then rI σ 18 1 else f_X3_allStones σ 1) = some τ ∧ KW τ A ∧ Un Pc σ τ ∧ rI τ 113 = rI σ 113 ∧ n ≤ 7 ∧ rI σ 113 0 = nI n ∧ (∀ j, j < n → vIn (rI σ 113 (18 + j)) 1 250) ∧ ∃ u : Nat → Bool, (∀ k, k < n → u k = (decide (nI y = 0) || decide (¬ f_X12_has (rI σ 113 3) (nI k) = 0))) ∧ A = fo (stW u (fun j => rI σ 113 (25 + j)) (fun j => rI σ 113 (18 + j)) n (nI l)) 0 (3 ^ n) none := by
    intro b' hb hu
    rw [hb]
    obtain ⟨τ, k1, k2, k3⟩ := weigh_c b' (nI l) ha r3 r11 r1.2.1
    exact ⟨_, τ, n, k1, k2, k3.un (fun a j p q => by unfold Pc; omega), funext (fun j => (k3 113 (by omega)).1 j), ha, n0, fun j hj => ((hw.2.2.2.2.1.1 j (by omega)).1 hj).1, uW b', hu, hfo _⟩
  rcases (show y = 0 ∨ y = 1 by omega) with rfl | rfl
  · refine fin ((1 <<< (nI n &&& 31)) - 1) (by rw [if_neg (by decide), hal]) (fun k hk => ?_)
    rw [decide_eq_true (show nI 0 = 0 from rfl), Bool.true_or]
    exact decide_eq_true (by rw [all_has n (by omega) k hk]; decide)
  · refine fin (rI σ 113 3) (by rw [if_pos (show nI 1 = 1 from rfl)]; exact r10) (fun k hk => ?_)
    rw [decide_eq_false (show ¬ nI 1 = 0 by decide), Bool.false_or]
    rfl
theorem y01 {y : Nat} (h : y ≤ 1) : nI y = 0 ∨ nI y = 1 := by
  rcases (show y = 0 ∨ y = 1 by omega) with rfl | rfl
  · exact Or.inl rfl
  · exact Or.inr rfl
theorem KW_0 {τ : Sg} (h : KW τ none) : rI τ 99 0 = 0 := h
theorem m_load {σ : Sg} (h : Inv σ) (v1 v2 v3 : Int32) : Sim (fun s => f_X11_load s v1 v2 v3) (fun s => f_X12_load s v1 v2 v3) σ := by
  by_cases q1 : f_X11_between v1 1 999 = 0
  · refine ref_bad h (-20000) id ?_ (fun τ ht => ?_)
    · show f_X11_load σ v1 v2 v3 = _
      unfold f_X11_load; rw [if_pos q1]; rfl
    · show f_X12_load τ v1 v2 v3 = _
      unfold f_X12_load; rw [in_1_999, if_pos q1]; rfl
  by_cases q2 : f_X11_between v2 0 1 = 0
  · refine ref_bad h (-20000) id ?_ (fun τ ht => ?_)
    · show f_X11_load σ v1 v2 v3 = _
      unfold f_X11_load; rw [if_neg q1, if_pos q2]; rfl
    · show f_X12_load τ v1 v2 v3 = _
      unfold f_X12_load; rw [in_1_999, if_neg q1, in_0_1, if_pos q2]; rfl
  by_cases q3 : f_X11_between v3 0 2 = 0
  · refine ref_bad h (-20000) id ?_ (fun τ ht => ?_)
    · show f_X11_load σ v1 v2 v3 = _
      unfold f_X11_load; rw [if_neg q1, if_neg q2, if_pos q3]; rfl
    · show f_X12_load τ v1 v2 v3 = _
      unfold f_X12_load; rw [in_1_999, if_neg q1, in_0_1, if_neg q2, in_0_2, if_pos q3]; rfl
  obtain ⟨l, l1, l2, rfl⟩ := btw_of (lo := 1) (hi := 999) (by omega) q1 (by omega)
  obtain ⟨y, _, y2, rfl⟩ := btw_of (lo := 0) (hi := 1) (by omega) q2 (by omega)
  obtain ⟨A, s1, n, a1, a2, a3, a4, a5, a6, a7, u, a8, a9⟩ := pans_two h l1 l2 y2
  obtain ⟨s2, b1, b2⟩ := loadR (u := u) (nI l) (nI y) v3 a5 a6 (y01 y2) a8 a7 (3 ^ n) 0 FU s1 none (by omega) (by have := pw7 a5; unfold FU; omega) a4 trivial
  rw [← a9] at b1
  refine ⟨lV A v3, s1, s2, ?_, ?_, Inv_pass h (a3.trans (b2.mono (fun a j q => by unfold Pq at q; unfold Pc; omega)))⟩
  · have e71 : b_X11_load_71 (nI l) (nI y) v3 σ (if nI y = 1 then rI σ 18 1 else f_X3_allStones σ 1) (nI l) = some (lV A v3, s1) := by
      unfold b_X11_load_71
      rw [a1, ob_some]
      cases A with
      | none => exact if_pos a2
      | some q =>
        obtain ⟨f, d, t, l'⟩ := q
        obtain ⟨g0, g1, g2, g3, g4, g5⟩ := a2
        rw [g0, if_neg (by decide), g1, g2, g3]
        show (if v3 = 0 then some (nI f, s1) else if v3 = 1 then some (nI d, s1) else some (t, s1)) = some (if v3 = 0 then nI f else if v3 = 1 then nI d else t, s1)
        split
        · rfl
        · split <;> rfl
    show f_X11_load σ (nI l) (nI y) v3 = _
    unfold f_X11_load
    rw [if_neg q1, if_neg q2, if_neg q3, ← e71]
    split <;> rfl
  · show f_X12_load s1 (nI l) (nI y) v3 = _
    unfold f_X12_load
    rw [in_1_999, if_neg q1, in_0_1, if_neg q2, in_0_2, if_neg q3]
    exact b1
theorem m_gain {σ : Sg} (h : Inv σ) (v1 v2 : Int32) : Sim (fun s => f_X11_gain s v1 v2) (fun s => f_X12_gain s v1 v2) σ := by
  by_cases q1 : f_X11_between v1 1 999 = 0
  · refine ref_bad h (-20000) id ?_ (fun τ ht => ?_)
    · show f_X11_gain σ v1 v2 = _
      unfold f_X11_gain; rw [if_pos q1]; rfl
    · show f_X12_gain τ v1 v2 = _
      unfold f_X12_gain; rw [in_1_999, if_pos q1]; rfl
  by_cases q2 : f_X11_between v2 0 1 = 0
  · refine ref_bad h (-20000) id ?_ (fun τ ht => ?_)
    · show f_X11_gain σ v1 v2 = _
      unfold f_X11_gain; rw [if_neg q1, if_pos q2]; rfl
    · show f_X12_gain τ v1 v2 = _
      unfold f_X12_gain; rw [in_1_999, if_neg q1, in_0_1, if_pos q2]; rfl
  obtain ⟨l, l1, l2, rfl⟩ := btw_of (lo := 1) (hi := 999) (by omega) q1 (by omega)
  obtain ⟨y, _, y2, rfl⟩ := btw_of (lo := 0) (hi := 1) (by omega) q2 (by omega)
  obtain ⟨A, s1, n, a1, a2, a3, a4, a5, a6, a7, u, a8, a9⟩ := pans_two h l1 l2 y2
  obtain ⟨s2, b1, b2⟩ := gainR (u := u) (nI l) (nI y) a5 a6 (y01 y2) a8 a7 (3 ^ n) 0 FU s1 none (by omega) (by have := pw7 a5; unfold FU; omega) a4 trivial
  rw [← a9] at b1
  refine ⟨lX A, s1, s2, ?_, ?_, Inv_pass h (a3.trans (b2.mono (fun a j q => by unfold Pq at q; unfold Pc; omega)))⟩
  · have e62 : b_X11_gain_62 (nI l) (nI y) σ (if nI y = 1 then rI σ 18 1 else f_X3_allStones σ 1) (nI l) = some (lX A, s1) := by
      unfold b_X11_gain_62
      rw [a1, ob_some]
      cases A with
      | none => exact if_pos a2
      | some q =>
        obtain ⟨f, d, t, l'⟩ := q
        obtain ⟨g0, g1, g2, g3, g4, g5⟩ := a2
        rw [g0, if_neg (by decide), g4]
        rfl
    show f_X11_gain σ (nI l) (nI y) = _
    unfold f_X11_gain
    rw [if_neg q1, if_neg q2, ← e62]
    split <;> rfl
  · show f_X12_gain s1 (nI l) (nI y) = _
    unfold f_X12_gain
    rw [in_1_999, if_neg q1, in_0_1, if_neg q2]
    exact b1
