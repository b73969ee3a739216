/-! ===== pure facts: numbers, loops, rows ===== -/
theorem li_lt (a b : Int32) : a < b ↔ a.toInt < b.toInt := Int32.lt_iff_toInt_lt
theorem li_le (a b : Int32) : a ≤ b ↔ a.toInt ≤ b.toInt := Int32.le_iff_toInt_le
theorem li_eq (a b : Int32) : a = b ↔ a.toInt = b.toInt := Int32.toInt_inj.symm
theorem ll_lt (a b : Int64) : a < b ↔ a.toInt < b.toInt := Int64.lt_iff_toInt_lt
theorem ll_le (a b : Int64) : a ≤ b ↔ a.toInt ≤ b.toInt := Int64.le_iff_toInt_le
theorem rng (x : Int32) : -2147483648 ≤ x.toInt ∧ x.toInt < 2147483648 := ⟨Int32.le_toInt x, Int32.toInt_lt x⟩
theorem bm {z : Int} (h1 : -2147483648 ≤ z) (h2 : z < 2147483648) : z.bmod (2 ^ 32) = z := by
  rw [Int.bmod_eq_of_le]
  · omega
  · omega
theorem tadd {x y : Int32} (h1 : -2147483648 ≤ x.toInt + y.toInt) (h2 : x.toInt + y.toInt < 2147483648) : (x + y).toInt = x.toInt + y.toInt := by
  rw [Int32.toInt_add]; exact bm h1 h2
theorem tsub {x y : Int32} (h1 : -2147483648 ≤ x.toInt - y.toInt) (h2 : x.toInt - y.toInt < 2147483648) : (x - y).toInt = x.toInt - y.toInt := by
  rw [Int32.toInt_sub]; exact bm h1 h2
theorem tneg {x : Int32} (h : x.toInt ≠ -2147483648) : (-x).toInt = -x.toInt := by
  have := rng x
  rw [Int32.toInt_neg]; exact bm (by omega) (by omega)
theorem lit (n : Nat) : (OfNat.ofNat n : Int32) = nI n := rfl
theorem tN {n : Nat} (h : n < 2 ^ 31) : (nI n).toInt = (n : Int) := nI_toInt h
theorem ix_nI {n : Nat} (h : n < 2 ^ 31) : ix (nI n) = n := nI_clamp h
theorem inb_nI {n N : Nat} (h : n < N) (hN : N < 2 ^ 31) : inb (nI n) N = true := by
  unfold inb
  exact decide_eq_true (nI_in h hN)
theorem ix_0 : ix 0 = 0 := rfl
theorem nIof {x : Int32} {n : Nat} (h0 : 0 ≤ x.toInt) (h : x.toInt < n) : ∃ j : Nat, j < n ∧ x = nI j := by
  have hr := rng x
  refine ⟨x.toInt.toNat, by omega, ?_⟩
  rw [li_eq, tN (by omega)]
  omega
theorem nIinj {a b : Nat} (ha : a < 2 ^ 31) (hb : b < 2 ^ 31) (h : nI a = nI b) : a = b := (nI_eq ha hb).mp h
theorem kLen_le (k : Nat) : kLen k ≤ 1024 := by
  by_cases h : k < 122
  · have := kAll (fun k => decide (kLen k ≤ 1024)) (by decide +kernel) h
    exact of_decide_eq_true this
  · unfold kLen
    rw [List.getD_eq_getElem?_getD, List.getElem?_eq_none (Nat.le_trans (by decide +kernel : lTab.length ≤ 122) (Nat.not_lt.mp h))]
    exact Nat.zero_le _
/-- a loop's steps k, k+1, .. (m of them) -/
def fo {α : Type} (st : Nat → α → α) : Nat → Nat → α → α
  | _, 0, a => a
  | k, m + 1, a => fo st (k + 1) m (st k a)
theorem fo_0 {α : Type} (st : Nat → α → α) (k : Nat) (a : α) : fo st k 0 a = a := rfl
theorem fo_s {α : Type} (st : Nat → α → α) (k m : Nat) (a : α) : fo st k (m + 1) a = fo st (k + 1) m (st k a) := rfl
theorem fo_cong {α : Type} {st st' : Nat → α → α} : ∀ (m k : Nat) (a : α), (∀ j, k ≤ j → j < k + m → ∀ x, st j x = st' j x) → fo st k m a = fo st' k m a
  | 0, _, _, _ => rfl
  | m + 1, k, a, h => by
    rw [fo_s, fo_s, h k (Nat.le_refl _) (by omega)]
    exact fo_cong m (k + 1) _ (fun j h1 h2 x => h j (by omega) (by omega) x)
theorem fo_last {α : Type} (st : Nat → α → α) : ∀ (m k : Nat) (a : α), fo st k (m + 1) a = st (k + m) (fo st k m a)
  | 0, _, _ => rfl
  | m + 1, k, a => by
    rw [fo_s, fo_last st m (k + 1) (st k a), fo_s]
    congr 1
    omega
/-- an invariant of a loop's steps -/
theorem fo_inv {α : Type} {st : Nat → α → α} (P : Nat → α → Prop) : ∀ (m k : Nat) (a : α), P k a → (∀ j x, k ≤ j → j < k + m → P j x → P (j + 1) (st j x)) → P (k + m) (fo st k m a)
  | 0, _, _, h, _ => h
  | m + 1, k, a, h, hs => by
    rw [fo_s]
    have := fo_inv P m (k + 1) (st k a) (hs k a (Nat.le_refl _) (by omega) h) (fun j x h1 h2 => hs j x (by omega) (by omega))
    rwa [show k + 1 + m = k + (m + 1) by omega] at this
/-- unchanged outside lo .. hi-1 -/
def Only (lo hi : Nat) (σ τ : Sg) : Prop := ∀ a, (a < lo ∨ hi ≤ a) → (∀ j, rI τ a j = rI σ a j) ∧ ∀ j, rL τ a j = rL σ a j
theorem Only.rf {lo hi : Nat} {σ : Sg} : Only lo hi σ σ := fun _ _ => ⟨fun _ => rfl, fun _ => rfl⟩
theorem Only.trans {lo hi : Nat} {σ τ υ : Sg} (h1 : Only lo hi σ τ) (h2 : Only lo hi τ υ) : Only lo hi σ υ := fun a h => ⟨fun j => ((h2 a h).1 j).trans ((h1 a h).1 j), fun j => ((h2 a h).2 j).trans ((h1 a h).2 j)⟩
theorem Only.mono {lo hi lo' hi' : Nat} {σ τ : Sg} (h : Only lo hi σ τ) (h1 : lo' ≤ lo) (h2 : hi ≤ hi') : Only lo' hi' σ τ := fun a ha => h a (by omega)
theorem Only.stI (σ : Sg) (k j : Nat) (v : Int32) : Only k (k + 1) σ (stI σ k j v) := fun a h => ⟨fun b => by rw [rI_stI, if_neg (by omega)], fun b => rL_stI ..⟩
theorem Only.stL (σ : Sg) (k j : Nat) (v : Int64) : Only k (k + 1) σ (stL σ k j v) := fun a h => ⟨fun b => rI_stL .., fun b => by rw [rL_stL, if_neg (by omega)]⟩
/-- the Row k holds n numbers, those of f -/
def rowIs (σ : Sg) (k n : Nat) (f : Nat → Int32) : Prop := n ≤ kLen (k + 1) ∧ rI σ k 1 = nI n ∧ ∀ j, j < n → rI σ (k + 1) j = f j
theorem rowIs.keep {σ τ : Sg} {k n lo hi : Nat} {f : Nat → Int32} (h : rowIs σ k n f) (ho : Only lo hi σ τ) (hk : k + 1 < lo ∨ hi ≤ k) : rowIs τ k n f := ⟨h.1, by rw [(ho k (by omega)).1]; exact h.2.1, fun j hj => by rw [(ho (k + 1) (by omega)).1]; exact h.2.2 j hj⟩
theorem rowIs.cong {σ : Sg} {k n : Nat} {f f' : Nat → Int32} (h : rowIs σ k n f) (hf : ∀ j, j < n → f j = f' j) : rowIs σ k n f' := ⟨h.1, h.2.1, fun j hj => (h.2.2 j hj).trans (hf j hj)⟩
theorem rowIs.lt {σ : Sg} {k n : Nat} {f : Nat → Int32} (h : rowIs σ k n f) : n ≤ 1024 := Nat.le_trans h.1 (kLen_le _)
theorem at_in {σ : Sg} {k n j : Nat} {f : Nat → Int32} (h : rowIs σ k n f) (hj : j < n) : f_X7_at σ k (nI j) = some (f j) := by
  have h1 := h.lt
  have h2 := kLen_le (k + 1)
  have h3 := h.1
  unfold f_X7_at
  rw [if_neg (nI_pos (by omega)), h.2.1, if_neg (nI_ge hj (by omega)), if_neg (nI_ge (Nat.lt_of_lt_of_le hj h3) (by omega)), if_pos (inb_nI (by omega) (by omega)), ix_nI (by omega), h.2.2 j hj]
theorem at_out {σ : Sg} {k n j : Nat} {f : Nat → Int32} (h : rowIs σ k n f) (hj : n ≤ j) (hj2 : j < 2 ^ 31) : f_X7_at σ k (nI j) = some 0 := by
  unfold f_X7_at
  rw [if_neg (nI_pos hj2), h.2.1, if_pos (nI_le hj hj2)]
theorem put_in {σ : Sg} {k n j : Nat} {f : Nat → Int32} (v : Int32) (h : rowIs σ k n f) (hj : j < n) : ∃ τ, f_X7_put σ k (nI j) v = some τ ∧ rowIs τ k n (upd f j v) ∧ Only k (k + 2) σ τ := by
  have h1 := h.lt
  have h2 := kLen_le (k + 1)
  have h3 := h.1
  refine ⟨stI σ (k + 1) j v, ?_, ⟨h.1, ?_, fun i hi => ?_⟩, (Only.stI σ (k + 1) j v).mono (by omega) (by omega)⟩
  · unfold f_X7_put
    rw [if_neg (nI_pos (by omega)), h.2.1, if_neg (nI_ge hj (by omega)), if_neg (nI_ge (Nat.lt_of_lt_of_le hj h3) (by omega)), if_pos (inb_nI (by omega) (by omega)), ix_nI (by omega)]
    rfl
  · rw [rI_stI, if_neg (by omega)]; exact h.2.1
  · rw [rI_stI]
    unfold upd
    by_cases q : i = j
    · rw [if_pos ⟨rfl, q⟩, if_pos q]
    · rw [if_neg (fun z => q z.2), if_neg q]; exact h.2.2 i hi
theorem put_out {σ : Sg} {k n j : Nat} {f : Nat → Int32} (v : Int32) (h : rowIs σ k n f) (hj : n ≤ j) (hj2 : j < 2 ^ 31) : f_X7_put σ k (nI j) v = some σ := by
  unfold f_X7_put
  rw [if_neg (nI_pos hj2), h.2.1, if_pos (nI_le hj hj2)]
theorem add_in {σ : Sg} {k n : Nat} {f : Nat → Int32} (v : Int32) (h : rowIs σ k n f) (hn : n < kLen (k + 1)) : ∃ τ, f_X7_add σ k v = some τ ∧ rowIs τ k (n + 1) (upd f n v) ∧ Only k (k + 2) σ τ := by
  have h2 := kLen_le (k + 1)
  refine ⟨stI (stI σ (k + 1) n v) k 1 (nI (n + 1)), ?_, ⟨hn, ?_, fun i hi => ?_⟩, ((Only.stI σ (k + 1) n v).mono (by omega) (by omega)).trans ((Only.stI (stI σ (k + 1) n v) k 1 _).mono (by omega) (by omega))⟩
  · unfold f_X7_add
    rw [h.2.1, if_neg (nI_pos (by omega)), if_neg (nI_ge hn (by omega)), if_pos (inb_nI hn (by omega)), ix_nI (by omega)]
    show some (stI (stI σ (k + 1) n v) k 1 (rI (stI σ (k + 1) n v) k 1 + 1)) = _
    rw [rI_stI, if_neg (by omega), h.2.1, nI_1]
  · rw [rI_stI, if_pos ⟨rfl, rfl⟩]
  · rw [rI_stI, if_neg (by omega), rI_stI]
    unfold upd
    by_cases q : i = n
    · rw [if_pos ⟨rfl, q⟩, if_pos q]
    · rw [if_neg (fun z => q z.2), if_neg q]; exact h.2.2 i (by omega)
theorem restart_in (σ : Sg) (k : Nat) (f : Nat → Int32) : ∃ τ, f_X7_restart σ k = some τ ∧ rowIs τ k 0 f ∧ Only k (k + 2) σ τ := by
  refine ⟨stI σ k 1 0, rfl, ⟨Nat.zero_le _, ?_, fun j hj => absurd hj (Nat.not_lt_zero _)⟩, (Only.stI σ k 1 0).mono (by omega) (by omega)⟩
  rw [rI_stI, if_pos ⟨rfl, rfl⟩]; rfl
theorem isFull_in {σ : Sg} {k n : Nat} {f : Nat → Int32} (h : rowIs σ k n f) : f_X7_isFull σ k = if n < kLen (k + 1) then 0 else 1 := by
  have h2 := kLen_le (k + 1)
  have h3 := h.lt
  unfold f_X7_isFull
  rw [h.2.1]
  by_cases q : n < kLen (k + 1)
  · rw [if_pos q, if_pos (nI_lt q (by omega))]
  · rw [if_neg q, if_neg (nI_nlt (by omega) (by omega))]
theorem size_in {σ : Sg} {k n : Nat} {f : Nat → Int32} (h : rowIs σ k n f) : f_X7_size σ k = nI n := h.2.1
/-- from the place i on, k0 takes what k1 holds -/
theorem take_loop {k0 k1 n : Nat} {f : Nat → Int32} (hk : k0 + 1 < k1 ∨ k1 + 1 < k0) (hn : n ≤ kLen (k0 + 1)) : ∀ (m i fu : Nat) (σ : Sg) (f0 : Nat → Int32), m + i = n → m < fu → rowIs σ k1 n f → rowIs σ k0 i f0 → (∀ j, j < i → f0 j = f j) → ∃ τ, b_X7_take_6 k0 k1 fu σ (nI i) = some τ ∧ rowIs τ k0 n f ∧ Only k0 (k0 + 2) σ τ := by
  intro m
  induction m with
  | zero =>
    intro i fu σ f0 hm hf h1 h0 he
    obtain ⟨fu, rfl⟩ : ∃ q, fu = q + 1 := ⟨fu - 1, by omega⟩
    have hl := h1.lt
    refine ⟨σ, ?_, ?_, Only.rf⟩
    · rw [b_X7_take_6, h1.2.1, if_pos (nI_le (by omega) (by omega))]
    · have : i = n := by omega
      subst this
      exact h0.cong he
  | succ m ih =>
    intro i fu σ f0 hm hf h1 h0 he
    obtain ⟨fu, rfl⟩ : ∃ q, fu = q + 1 := ⟨fu - 1, by omega⟩
    have hl := h1.lt
    obtain ⟨τ, e1, e2, e3⟩ := add_in (f i) h0 (by omega)
    obtain ⟨υ, g1, g2, g3⟩ := ih (i + 1) fu τ _ (by omega) (by omega) (h1.keep e3 (by omega)) e2 (fun j hj => by
      unfold upd
      by_cases q : j = i
      · rw [if_pos q, q]
      · rw [if_neg q]; exact he j (by omega))
    refine ⟨υ, ?_, g2, e3.trans g3⟩
    rw [b_X7_take_6, h1.2.1, if_neg (nI_ge (by omega) (by omega)), at_in h1 (by omega)]
    show (f_X7_add σ k0 (f i)).bind _ = _
    rw [e1]
    show b_X7_take_6 k0 k1 fu τ (nI i + 1) = _
    rw [nI_1]
    exact g1
theorem take_in {σ : Sg} {k0 k1 n : Nat} {f : Nat → Int32} (hk : k0 + 1 < k1 ∨ k1 + 1 < k0) (hn : n ≤ kLen (k0 + 1)) (h : rowIs σ k1 n f) : ∃ τ, f_X7_take σ k0 k1 = some τ ∧ rowIs τ k0 n f ∧ Only k0 (k0 + 2) σ τ := by
  obtain ⟨τ, e1, e2, e3⟩ := restart_in σ k0 f
  have h1 := h.keep e3 (by omega)
  have hl := h.lt
  obtain ⟨υ, g1, g2, g3⟩ := take_loop hk hn n 0 FU τ f (by omega) (by unfold FU; omega) h1 e2 (fun _ _ => rfl)
  refine ⟨υ, ?_, g2, e3.trans g3⟩
  unfold f_X7_take
  rw [e1]
  exact g1
