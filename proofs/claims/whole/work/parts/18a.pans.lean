/-! ===== pans: ways in figures of three ===== -/
def wy (e : Nat) : Int32 := if e = 1 then -1 else if e = 2 then 1 else 0
def okW (u : Nat → Bool) : Nat → Nat → Nat → Bool
  | _, 0, _ => true
  | k, m + 1, r => (decide (r % 3 = 0) || u k) && okW u (k + 1) m (r / 3)
def usW : Nat → Nat → Nat
  | 0, _ => 0
  | m + 1, r => (if r % 3 = 0 then 0 else 1) + usW m (r / 3)
def hsW (h : Nat → Int32) : Nat → Nat → Nat → Int32
  | _, 0, _ => 0
  | k, m + 1, r => wy (r % 3) * h k + hsW h (k + 1) m (r / 3)
def nxW (u : Nat → Bool) : Nat → Nat → Nat → Option Nat
  | _, 0, _ => none
  | k, m + 1, r => if u k = true ∧ r % 3 ≠ 2 then some (r + 1) else (nxW u (k + 1) m (r / 3)).map (fun q => 3 * q)
theorem okW_s (u : Nat → Bool) (k m r : Nat) : okW u k (m + 1) r = ((decide (r % 3 = 0) || u k) && okW u (k + 1) m (r / 3)) := rfl
theorem usW_s (m r : Nat) : usW (m + 1) r = (if r % 3 = 0 then 0 else 1) + usW m (r / 3) := rfl
theorem hsW_s (h : Nat → Int32) (k m r : Nat) : hsW h k (m + 1) r = wy (r % 3) * h k + hsW h (k + 1) m (r / 3) := rfl
theorem nxW_s (u : Nat → Bool) (k m r : Nat) : nxW u k (m + 1) r = if u k = true ∧ r % 3 ≠ 2 then some (r + 1) else (nxW u (k + 1) m (r / 3)).map (fun q => 3 * q) := rfl
theorem okW_mul (u : Nat → Bool) (k m q : Nat) : okW u k (m + 1) (3 * q) = okW u (k + 1) m q := by
  rw [okW_s, show 3 * q % 3 = 0 by omega, show 3 * q / 3 = q by omega, decide_eq_true rfl, Bool.true_or, Bool.true_and]
theorem nxW_spec (u : Nat → Bool) : ∀ (m k r : Nat), okW u k m r = true → r < 3 ^ m → (∃ r', nxW u k m r = some r' ∧ okW u k m r' = true ∧ r < r' ∧ r' < 3 ^ m ∧ ∀ x, r < x → x < r' → okW u k m x = false) ∨ (nxW u k m r = none ∧ ∀ x, r < x → x < 3 ^ m → okW u k m x = false)
  | 0, k, r, h, hr => by
    refine Or.inr ⟨rfl, fun x h1 h2 => ?_⟩
    rw [Nat.pow_zero] at hr h2
    omega
  | m + 1, k, r, h, hr => by
    rw [Nat.pow_succ] at hr ⊢
    rw [okW_s, Bool.and_eq_true, Bool.or_eq_true, decide_eq_true_eq] at h
    obtain ⟨h1, h2⟩ := h
    rw [nxW_s]
    by_cases q : u k = true ∧ r % 3 ≠ 2
    · rw [if_pos q]
      refine Or.inl ⟨r + 1, rfl, ?_, by omega, by omega, fun x h3 h4 => by omega⟩
      rw [okW_s, q.1, Bool.or_true, Bool.true_and, show (r + 1) / 3 = r / 3 by omega]
      exact h2
    · rw [if_neg q]
      have hsm : ∀ x, r < x → x / 3 = r / 3 → okW u k (m + 1) x = false := fun x h3 h4 => by
        rw [okW_s]
        have : u k = false := by
          cases hu : u k with
          | false => rfl
          | true => exact absurd ⟨hu, by omega⟩ q
        have hr0 : r % 3 = 0 := h1.resolve_right (by rw [this]; decide)
        rw [this, Bool.or_false, decide_eq_false (show ¬ x % 3 = 0 by omega), Bool.false_and]
      rcases nxW_spec u m (k + 1) (r / 3) h2 (by omega) with ⟨q', e1, e2, e3, e4, e5⟩ | ⟨e1, e2⟩
      · refine Or.inl ⟨3 * q', by rw [e1]; rfl, by rw [okW_mul]; exact e2, by omega, by omega, fun x h3 h4 => ?_⟩
        by_cases w : x / 3 = r / 3
        · exact hsm x h3 w
        · rw [okW_s, e5 (x / 3) (by omega) (by omega), Bool.and_false]
      · refine Or.inr ⟨by rw [e1]; rfl, fun x h3 h4 => ?_⟩
        by_cases w : x / 3 = r / 3
        · exact hsm x h3 w
        · rw [okW_s, e2 (x / 3) (by omega) (by omega), Bool.and_false]
theorem usW_le : ∀ m r, usW m r ≤ m
  | 0, _ => Nat.le_refl _
  | m + 1, r => by
    have := usW_le m (r / 3)
    rw [usW_s]
    split <;> omega
theorem usW_0 : ∀ m, usW m 0 = 0
  | 0 => rfl
  | m + 1 => by rw [usW_s, show 0 / 3 = 0 from rfl, usW_0 m]; rfl
theorem hsW_0 (h : Nat → Int32) : ∀ m k, hsW h k m 0 = 0
  | 0, _ => rfl
  | m + 1, k => by
    rw [hsW_s, show 0 / 3 = 0 from rfl, hsW_0 h m, show wy (0 % 3) = 0 from rfl, Int32.zero_mul, Int32.add_zero]
theorem hsW_b {h : Nat → Int32} {n : Nat} (hh : ∀ j, j < n → vIn (h j) 1 250) : ∀ m k r, k + m ≤ n → m ≤ 7 → -(250 * (m : Int)) ≤ (hsW h k m r).toInt ∧ (hsW h k m r).toInt ≤ 250 * (m : Int)
  | 0, _, _, _, _ => by
    have : (0 : Int32).toInt = 0 := rfl
    unfold hsW
    omega
  | m + 1, k, r, hk, hm => by
    obtain ⟨i1, i2⟩ := hsW_b hh m (k + 1) (r / 3) (by omega) (by omega)
    obtain ⟨x, x1, x2, x3⟩ := hh k (by omega)
    have hx : (nI x).toInt = x := tN (by omega)
    rw [hsW_s, x3]
    have hw : -250 ≤ (wy (r % 3) * nI x).toInt ∧ (wy (r % 3) * nI x).toInt ≤ 250 := by
      rcases (show r % 3 = 0 ∨ r % 3 = 1 ∨ r % 3 = 2 by omega) with q | q | q
      · rw [q, show wy 0 = 0 from rfl, Int32.zero_mul]; decide
      · rw [q, show wy 1 = -1 from rfl, ← Int32.neg_eq_neg_one_mul, tneg (by omega), hx]; omega
      · rw [q, show wy 2 = 1 from rfl, Int32.one_mul, hx]; omega
    rw [tadd (by omega) (by omega)]
    omega
theorem pw7 {n : Nat} (hn : n ≤ 7) : 3 ^ n ≤ 2187 := Nat.pow_le_pow_right (n := 3) (by omega) hn
theorem ring1 (p q h R : Int32) : (p * h + R) + (q - p) * h = q * h + R := by
  rw [Int32.sub_mul, Int32.add_comm (p * h) R, Int32.add_assoc, Int32.add_comm (p * h), Int32.sub_add_cancel, Int32.add_comm]
/-- where the stones stand at level k, the rest of the code being r -/
def dgW (k r : Nat) : Nat → Int32 := fun j => if j < k then 0 else nI (r / 3 ^ (j - k) % 3)
theorem dgW_at (k r : Nat) : dgW k r k = nI (r % 3) := by
  unfold dgW
  rw [if_neg (by omega), Nat.sub_self, Nat.pow_zero, Nat.div_one]
theorem dgW_hi {k j : Nat} (r : Nat) (h : k < j) : dgW k r j = dgW (k + 1) (r / 3) j := by
  unfold dgW
  rw [if_neg (by omega), if_neg (by omega), show j - k = (j - (k + 1)) + 1 by omega, Nat.pow_succ, Nat.mul_comm, ← Nat.div_div_eq_div_mul]
theorem dgW_lo {k j : Nat} (r : Nat) (h : j < k) : dgW k r j = 0 := if_pos h
/-- the pans at level k, r left of m figures -/
def LW (h t : Nat → Int32) (σ : Sg) (k m r : Nat) : Prop := rowIs σ 100 7 (dgW k r) ∧ rI σ 99 6 = nI (usW m r) ∧ rI σ 99 7 = nI (3 ^ k * r) ∧ rI σ 99 8 = hsW h k m r ∧ rI σ 99 9 = hsW t k m r
theorem LW_up {h t : Nat → Int32} {σ : Sg} {k m q : Nat} (hk : k < 7) : LW h t σ k (m + 1) (3 * q) ↔ LW h t σ (k + 1) m q := by
  have e1 : 3 * q % 3 = 0 := by omega
  have e2 : 3 * q / 3 = q := by omega
  have d1 : ∀ j, j < 7 → dgW k (3 * q) j = dgW (k + 1) q j := fun j hj => by
    by_cases w : j < k
    · rw [dgW_lo _ w, dgW_lo _ (by omega)]
    · by_cases z : j = k
      · subst z
        rw [dgW_at, dgW_lo _ (by omega), e1]
        rfl
      · rw [dgW_hi _ (by omega), e2]
  have d2 : usW (m + 1) (3 * q) = usW m q := by rw [usW_s, e1, e2, if_pos rfl, Nat.zero_add]
  have d3 : 3 ^ k * (3 * q) = 3 ^ (k + 1) * q := by rw [Nat.pow_succ, Nat.mul_assoc]
  have d4 : ∀ h : Nat → Int32, hsW h k (m + 1) (3 * q) = hsW h (k + 1) m q := fun h => by
    rw [hsW_s, e1, e2, show wy 0 = 0 from rfl, Int32.zero_mul, Int32.zero_add]
  unfold LW
  rw [d2, d3, d4, d4]
  exact ⟨fun ⟨a1, a2⟩ => ⟨a1.cong d1, a2⟩, fun ⟨a1, a2⟩ => ⟨a1.cong (fun j hj => (d1 j hj).symm), a2⟩⟩
def nxe (e : Nat) : Nat := if e = 2 then 0 else e + 1
theorem move_c {σ : Sg} {k e : Nat} {W H T : Int32} {f : Nat → Int32} (hr : rowIs σ 100 7 f) (hk : k < 7) (he : f k = nI e) (h3 : e < 3) : ∃ τ, f_X5_move σ (nI k) W H T = some τ ∧ rowIs τ 100 7 (upd f k (nI (nxe e))) ∧ rI τ 99 6 = rI σ 99 6 + (if e = 0 then 1 else if e = 2 then -1 else 0) ∧ rI τ 99 7 = rI σ 99 7 + W * (nI (nxe e) - nI e) ∧ rI τ 99 8 = rI σ 99 8 + (wy (nxe e) - wy e) * H ∧ rI τ 99 9 = rI σ 99 9 + (wy (nxe e) - wy e) * T ∧ (∀ j, j < 5 → rI τ 99 j = rI σ 99 j) ∧ Only 99 102 σ τ := by
  obtain ⟨s1, a1, b1, c1⟩ := put_in (nI (nxe e)) hr hk
  have o9 : ∀ j, rI s1 99 j = rI σ 99 j := fun j => (c1 99 (by omega)).1 j
  have fin : ∀ δ : Int32, ∃ τ, b_X5_move_79 (nI k) W H T s1 (nI e) (nI (nxe e)) (wy (nxe e) - wy e) δ (rI s1 99 6) = some τ ∧ rowIs τ 100 7 (upd f k (nI (nxe e))) ∧ rI τ 99 6 = rI σ 99 6 + δ ∧ rI τ 99 7 = rI σ 99 7 + W * (nI (nxe e) - nI e) ∧ rI τ 99 8 = rI σ 99 8 + (wy (nxe e) - wy e) * H ∧ rI τ 99 9 = rI σ 99 9 + (wy (nxe e) - wy e) * T ∧ (∀ j, j < 5 → rI τ 99 j = rI σ 99 j) ∧ Only 99 102 σ τ := by
    intro δ
    unfold b_X5_move_79
    simp only [nam_e]
    have o2 : ∀ a b c d : Int32, Only 99 100 s1 (stI (stI (stI (stI s1 99 6 a) 99 7 b) 99 8 c) 99 9 d) := fun a b c d => (((Only.stI s1 99 6 a).trans (Only.stI _ 99 7 b)).trans (Only.stI _ 99 8 c)).trans (Only.stI _ 99 9 d)
    refine ⟨_, rfl, b1.keep (o2 _ _ _ _) (by omega), ?_, ?_, ?_, ?_, fun j hj => ?_, (c1.mono (by omega) (by omega)).trans ((o2 _ _ _ _).mono (by omega) (by omega))⟩
    · rw [rI_nj _ _ (by omega), rI_nj _ _ (by omega), rI_nj _ _ (by omega), rI_eq, o9]
    · rw [rI_nj _ _ (by omega), rI_nj _ _ (by omega), rI_eq, rI_nj _ _ (by omega), o9]
    · rw [rI_nj _ _ (by omega), rI_eq, rI_nj _ _ (by omega), rI_nj _ _ (by omega), o9]
    · rw [rI_eq, rI_nj _ _ (by omega), rI_nj _ _ (by omega), rI_nj _ _ (by omega), o9]
    · rw [rI_nj _ _ (by omega), rI_nj _ _ (by omega), rI_nj _ _ (by omega), rI_nj _ _ (by omega), o9]
  unfold f_X5_move b_X5_move_30
  rw [at_in hr hk, ob_some, he]
  rcases (show e = 0 ∨ e = 1 ∨ e = 2 by omega) with rfl | rfl | rfl
  · rw [if_pos (show nI 0 = 0 from rfl), nam_e, show f_X7_put σ 100 (nI k) 1 = some s1 from a1, ob_some, if_pos (show nI 0 = 0 from rfl)]
    exact fin 1
  · rw [if_neg (show ¬ nI 1 = 0 by decide), if_pos (show nI 1 = 1 from rfl), nam_e, show f_X7_put σ 100 (nI k) 2 = some s1 from a1, ob_some, if_neg (show ¬ nI 1 = 0 by decide), if_neg (show ¬ (2 : Int32) = 0 by decide)]
    exact fin 0
  · rw [if_neg (show ¬ nI 2 = 0 by decide), if_neg (show ¬ nI 2 = 1 by decide), nam_e, show f_X7_put σ 100 (nI k) 0 = some s1 from a1, ob_some, if_neg (show ¬ nI 2 = 0 by decide), if_pos rfl]
    exact fin (-1)
theorem move_L {h t : Nat → Int32} {σ : Sg} {k m q e : Nat} (hL : LW h t σ k (m + 1) (3 * q + e)) (hk : k < 7) (h3 : e < 3) : ∃ τ, f_X5_move σ (nI k) (nI (3 ^ k)) (h k) (t k) = some τ ∧ LW h t τ k (m + 1) (3 * q + nxe e) ∧ (∀ j, j < 5 → rI τ 99 j = rI σ 99 j) ∧ Only 99 102 σ τ := by
  obtain ⟨r1, r2, r3, r4, r5⟩ := hL
  have m1 : ∀ x, x < 3 → (3 * q + x) % 3 = x := fun x hx => by omega
  have m2 : ∀ x, x < 3 → (3 * q + x) / 3 = q := fun x hx => by omega
  have hn : nxe e < 3 := by unfold nxe; split <;> omega
  obtain ⟨τ, a1, b1, b2, b3, b4, b5, b6, c1⟩ := move_c (W := nI (3 ^ k)) (H := h k) (T := t k) r1 hk (by rw [dgW_at, m1 e h3]) h3
  refine ⟨τ, a1, ⟨b1.cong (fun j hj => ?_), ?_, ?_, ?_, ?_⟩, b6, c1⟩
  · by_cases w : j = k
    · subst w
      rw [pk_us, dgW_at, m1 _ hn]
    · rw [pk_un w]
      by_cases z : j < k
      · rw [dgW_lo _ z, dgW_lo _ z]
      · rw [dgW_hi (3 * q + e) (show k < j by omega), dgW_hi (3 * q + nxe e) (show k < j by omega), m2 e h3, m2 _ hn]
  · rw [b2, r2, usW_s, usW_s, m1 e h3, m1 _ hn, m2 e h3, m2 _ hn]
    rcases (show e = 0 ∨ e = 1 ∨ e = 2 by omega) with rfl | rfl | rfl
    · rw [if_pos rfl, if_pos rfl, if_neg (by decide), nI_1, Nat.zero_add, Nat.add_comm]
    · rw [if_neg (by decide), if_neg (by decide), if_neg (by decide), if_neg (by decide), Int32.add_zero]
    · rw [if_neg (by decide), if_neg (by decide), if_pos rfl, if_pos (by decide), Nat.add_comm, pk_m1, Nat.zero_add]
  · rw [b3, r3, Int32.mul_comm]
    have key : ∀ x, nI (3 ^ k * (3 * q + x)) = nI x * nI (3 ^ k) + nI (3 ^ k * (3 * q)) := fun x => by
      rw [pk_mul, nI_add, Nat.mul_add, Nat.add_comm, Nat.mul_comm x]
    rw [key, key, ring1]
  · rw [b4, r4, hsW_s, hsW_s, m1 e h3, m1 _ hn, m2 e h3, m2 _ hn, ring1]
  · rw [b5, r5, hsW_s, hsW_s, m1 e h3, m1 _ hn, m2 e h3, m2 _ hn, ring1]
def uW (b : Int32) : Nat → Bool := fun k => decide (¬ f_X12_has b (nI k) = 0)
theorem next_loop {n : Nat} {h t : Nat → Int32} (b : Int32) (hn : n ≤ 7) : ∀ (m k fu : Nat) (σ : Sg) (r : Nat), m + k = n → m < fu → r < 3 ^ m → okW (uW b) k m r = true → LW h t σ k m r → rowIs σ 6 n h → rowIs σ 19 n t → rI σ 2 1 = nI n → ∃ τ, (∀ j, j < 5 → rI τ 99 j = rI σ 99 j) ∧ Only 99 102 σ τ ∧ ((∃ r', nxW (uW b) k m r = some r' ∧ b_X5_layNext_5 1 b fu σ (nI (3 ^ k)) (nI k) = some (1, τ) ∧ LW h t τ k m r') ∨ (nxW (uW b) k m r = none ∧ b_X5_layNext_5 1 b fu σ (nI (3 ^ k)) (nI k) = some (0, τ))) := by
  intro m
  induction m with
  | zero =>
    intro k fu σ r hm hf hr ho hL h1 h2 h3
    obtain ⟨fu, rfl⟩ : ∃ q, fu = q + 1 := ⟨fu - 1, by omega⟩
    refine ⟨σ, fun _ _ => rfl, Only.rf, Or.inr ⟨rfl, ?_⟩⟩
    rw [b_X5_layNext_5, show f_X3_keeperCount σ 1 = nI n from h3, if_pos (nI_le (by omega) (by omega))]
  | succ m ih =>
    intro k fu σ r hm hf hr ho hL h1 h2 h3
    obtain ⟨fu, rfl⟩ : ∃ q, fu = q + 1 := ⟨fu - 1, by omega⟩
    have hk : k < n := by omega
    rw [Nat.pow_succ] at hr
    rw [okW_s, Bool.and_eq_true, Bool.or_eq_true, decide_eq_true_eq] at ho
    obtain ⟨ho1, ho2⟩ := ho
    obtain ⟨q, e, he, rfl⟩ : ∃ q e, e < 3 ∧ r = 3 * q + e := ⟨r / 3, r % 3, by omega, by omega⟩
    have m1 : (3 * q + e) % 3 = e := by omega
    have m2 : (3 * q + e) / 3 = q := by omega
    rw [m1] at ho1
    rw [m2] at ho2
    -- on to the next level
    have up : ∀ σ', (∀ j, j < 5 → rI σ' 99 j = rI σ 99 j) → Only 99 102 σ σ' → LW h t σ' k (m + 1) (3 * q) → (nxW (uW b) k (m + 1) (3 * q + e) = (nxW (uW b) (k + 1) m q).map (fun q => 3 * q)) → ∃ τ, (∀ j, j < 5 → rI τ 99 j = rI σ 99 j) ∧ Only 99 102 σ τ ∧ ((∃ r', nxW (uW b) k (m + 1) (3 * q + e) = some r' ∧ b_X5_layNext_78 1 b (b_X5_layNext_5 1 b fu) σ' (nI (3 ^ k)) (nI k) = some (1, τ) ∧ LW h t τ k (m + 1) r') ∨ (nxW (uW b) k (m + 1) (3 * q + e) = none ∧ b_X5_layNext_78 1 b (b_X5_layNext_5 1 b fu) σ' (nI (3 ^ k)) (nI k) = some (0, τ))) := by
      intro σ' p1 p2 p3 p4
      obtain ⟨τ, k1, k2, k3⟩ := ih (k + 1) fu σ' q (by omega) (by omega) (by omega) ho2 ((LW_up (by omega)).mp p3) (h1.keep p2 (by omega)) (h2.keep p2 (by omega)) (by rw [(p2 2 (by omega)).1]; exact h3)
      refine ⟨τ, fun j hj => (k1 j hj).trans (p1 j hj), p2.trans k2, ?_⟩
      have e78 : b_X5_layNext_78 1 b (b_X5_layNext_5 1 b fu) σ' (nI (3 ^ k)) (nI k) = b_X5_layNext_5 1 b fu σ' (nI (3 ^ (k + 1))) (nI (k + 1)) := by
        unfold b_X5_layNext_78
        rw [nam_e, nam_e, nI_1, L3, pk_mul, Nat.pow_succ]
      rw [e78, p4]
      rcases k3 with ⟨r', g1, g2, g3⟩ | ⟨g1, g2⟩
      · exact Or.inl ⟨3 * r', by rw [g1]; rfl, g2, (LW_up (by omega)).mpr g3⟩
      · exact Or.inr ⟨by rw [g1]; rfl, g2⟩
    rw [b_X5_layNext_5, show f_X3_keeperCount σ 1 = nI n from h3, if_neg (nI_ge (by omega) (by omega)), hasBit_has _ (by omega)]
    by_cases q1 : f_X12_has b (nI k) = 0
    · rw [if_pos q1]
      have hu : uW b k = false := decide_eq_false (fun z => z q1)
      have e0 : e = 0 := ho1.resolve_right (by rw [hu]; decide)
      subst e0
      exact up σ (fun _ _ => rfl) Only.rf hL (by rw [nxW_s, if_neg (fun z => by rw [hu] at z; cases z.1), m2])
    · have hu : uW b k = true := decide_eq_true q1
      obtain ⟨s1, a1, b1, b2, c1⟩ := move_L hL (show k < 7 by omega) he
      rw [if_neg q1, at_in hL.1 (show k < 7 by omega), ob_some, dgW_at, m1]
      unfold b_X5_layNext_41
      rw [show f_X7_at σ (1 + 5) (nI k) = some (h k) from at_in h1 hk, show f_X7_at σ (1 + 17 + 1) (nI k) = some (t k) from at_in h2 hk]
      by_cases q2 : e = 2
      · subst q2
        rw [if_pos (show nI 2 = 2 from rfl), ob_some, ob_some, a1, ob_some, if_neg (show ¬ (1 : Int32) = 0 by decide)]
        exact up s1 b2 c1 b1 (by rw [nxW_s, if_neg (fun z => by omega), m2])
      · rw [if_neg (show ¬ nI e = 2 from fun z => q2 (nIinj (b := 2) (by omega) (by omega) z)), ob_some, ob_some, a1, ob_some, if_pos rfl]
        refine ⟨s1, b2, c1, Or.inl ⟨3 * q + e + 1, ?_, rfl, ?_⟩⟩
        · rw [nxW_s, if_pos ⟨hu, by omega⟩]
        · have : nxe e = e + 1 := if_neg q2
          rw [this] at b1
          exact b1
