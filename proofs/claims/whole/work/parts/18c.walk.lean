/-! ===== walk: the least round ===== -/
def hB (x k : Nat) : Bool := decide (¬ f_X12_has (nI x) (nI k) = 0)
theorem rm_bits : ∀ x, x < 128 → ∀ k, k < 7 → hB x k = true → nI x &&& ((1 <<< (nI k &&& 31)) ^^^ (-1)) = nI (x - 2 ^ k) ∧ 2 ^ k ≤ x := by decide +kernel
theorem rm_bit2 : ∀ x, x < 128 → ∀ k, k < 7 → hB x k = true → ∀ j, j < 7 → hB (x - 2 ^ k) j = (hB x j && decide (j ≠ k)) := by decide +kernel
theorem no_bits : ∀ x, x < 128 → x ≠ 0 → ∃ k, k < 7 ∧ hB x k = true := by decide +kernel
theorem no_bit0 : ∀ k, k < 7 → hB 0 k = false := by decide +kernel
theorem and_self0 : ∀ s, s < 128 → nI s &&& (nI s ^^^ (-1)) = 0 := by decide +kernel
/-- how many bits from k on, t places -/
def ctB (x : Nat) : Nat → Nat → Nat
  | _, 0 => 0
  | k, t + 1 => (if hB x k = true then 1 else 0) + ctB x (k + 1) t
theorem ctB_s (x k t : Nat) : ctB x k (t + 1) = (if hB x k = true then 1 else 0) + ctB x (k + 1) t := rfl
theorem ct_ones : ∀ x, x < 128 → f_X12_ones (nI x) = some (nI (ctB x 0 7)) := by decide +kernel
theorem ct_rm : ∀ x, x < 128 → ∀ k, k < 7 → hB x k = true → ctB (x - 2 ^ k) 0 7 + 1 = ctB x 0 7 := by decide +kernel
theorem ct_pos : ∀ x, x < 128 → ctB x 0 7 ≤ 7 ∧ (ctB x 0 7 = 0 → x = 0) := by decide +kernel
theorem ct_skip (x : Nat) : ∀ (m k t : Nat), (∀ j, k ≤ j → j < k + m → hB x j = false) → ctB x k (m + t) = ctB x (k + m) t
  | 0, k, t, _ => by rw [Nat.zero_add]; rfl
  | m + 1, k, t, h => by
    rw [show m + 1 + t = (m + t) + 1 by omega, ctB_s, if_neg (by rw [h k (by omega) (by omega)]; decide), Nat.zero_add, ct_skip x m (k + 1) t (fun j h1 h2 => h j (by omega) (by omega)), show k + 1 + m = k + (m + 1) by omega]
def wN (x y : Nat) : Nat := if y ≤ x then (if x - y ≤ 6 then x - y else 12 - (x - y)) else (if y - x ≤ 6 then y - x else 12 - (y - x))
theorem wN_le (x y : Nat) : wN x y ≤ 6 := by
  unfold wN
  split <;> split <;> omega
def bsW (x : Nat) (f : Nat → Nat) : Nat → Option (Nat × Nat) → Option (Nat × Nat) := fun k o => if hB x k = true then oS o k (f k) else o
/-- the hours still to go from p, x being left: with m, the fuel -/
def dW (H : Nat → Nat) : Nat → Nat → Nat → Nat
  | 0, _, p => wN (H p) (H 7)
  | m + 1, x, p => match fo (bsW x (fun k => wN (H p) (H k) + 1 + dW H m (x - 2 ^ k) k)) 0 7 none with
    | none => wN (H p) (H 7)
    | some q => q.2
theorem dW_s (H : Nat → Nat) (m x p : Nat) : dW H (m + 1) x p = match fo (bsW x (fun k => wN (H p) (H k) + 1 + dW H m (x - 2 ^ k) k)) 0 7 none with
    | none => wN (H p) (H 7)
    | some q => q.2 := rfl
theorem bs_0 (f : Nat → Nat) : fo (bsW 0 f) 0 7 none = none := fo_id 7 0 (fun j _ h => if_neg (by rw [no_bit0 j (by omega)]; decide))
theorem dW_0 (H : Nat → Nat) (m p : Nat) : dW H m 0 p = wN (H p) (H 7) := by
  cases m with
  | zero => rfl
  | succ m => rw [dW_s, bs_0]
theorem bs_cong {x : Nat} {f f' : Nat → Nat} (h : ∀ k, k < 7 → hB x k = true → f k = f' k) (o : Option (Nat × Nat)) : fo (bsW x f) 0 7 o = fo (bsW x f') 0 7 o := fo_cong 7 0 o (fun j _ h2 y => by
  unfold bsW
  by_cases q : hB x j = true
  · rw [if_pos q, if_pos q, h j (by omega) q]
  · rw [if_neg q, if_neg q])
theorem two_pow_pos' (k : Nat) : 0 < 2 ^ k := Nat.two_pow_pos k
theorem dW_st (H : Nat → Nat) : ∀ m m' x p, x < 128 → x ≤ m → x ≤ m' → dW H m x p = dW H m' x p
  | 0, m', x, p, _, h1, _ => by
    have : x = 0 := by omega
    subst this
    rw [dW_0, dW_0]
  | m + 1, 0, x, p, _, _, h2 => by
    have : x = 0 := by omega
    subst this
    rw [dW_0, dW_0]
  | m + 1, m' + 1, x, p, hx, h1, h2 => by
    rw [dW_s, dW_s, bs_cong (f' := fun k => wN (H p) (H k) + 1 + dW H m' (x - 2 ^ k) k) (fun k hk hb => by
      have hp := two_pow_pos' k
      have hr := (rm_bits x hx k hk hb).2
      rw [dW_st H m m' (x - 2 ^ k) k (by omega) (by omega) (by omega)])]
/-- what the next one asked costs, and all behind it -/
def fW (H : Nat → Nat) (x p : Nat) : Nat → Nat := fun k => wN (H p) (H k) + 1 + dW H 128 (x - 2 ^ k) k
def Fw (H : Nat → Nat) (x p : Nat) : Option (Nat × Nat) := fo (bsW x (fW H x p)) 0 7 none
theorem D_eq (H : Nat → Nat) {x : Nat} (p : Nat) (hx : x < 128) : dW H 128 x p = match Fw H x p with
    | none => wN (H p) (H 7)
    | some q => q.2 := by
  rw [show dW H 128 x p = match fo (bsW x (fun k => wN (H p) (H k) + 1 + dW H 127 (x - 2 ^ k) k)) 0 7 none with
    | none => wN (H p) (H 7)
    | some q => q.2 from rfl, bs_cong (f' := fW H x p) (fun k hk hb => by
      have hp := two_pow_pos' k
      have hr := (rm_bits x hx k hk hb).2
      unfold fW
      rw [dW_st H 127 128 (x - 2 ^ k) k (by omega) (by omega) (by omega)])]
  rfl
theorem bs_mem {x : Nat} {f : Nat → Nat} (n : Nat) : ∀ q, fo (bsW x f) 0 n none = some q → q.1 < n ∧ hB x q.1 = true ∧ q.2 = f q.1 := by
  have := fo_inv (st := bsW x f) (fun k o => ∀ q, o = some q → q.1 < k ∧ hB x q.1 = true ∧ q.2 = f q.1) n 0 none (fun q h => by cases h) (fun j o h1 h2 ih q hq => by
    unfold bsW at hq
    by_cases w : hB x j = true
    · rw [if_pos w] at hq
      cases o with
      | none =>
        cases hq
        exact ⟨by omega, w, rfl⟩
      | some r =>
        by_cases z : f j < r.2
        · rw [show oS (some r) j (f j) = some (j, f j) from if_pos z] at hq
          cases hq
          exact ⟨by omega, w, rfl⟩
        · rw [show oS (some r) j (f j) = some r from if_neg z] at hq
          obtain ⟨i1, i2⟩ := ih q hq
          exact ⟨by omega, i2⟩
    · rw [if_neg w] at hq
      obtain ⟨i1, i2⟩ := ih q hq
      exact ⟨by omega, i2⟩)
  rw [Nat.zero_add] at this
  exact this
theorem oS_ne (o : Option (Nat × Nat)) (d m : Nat) : oS o d m ≠ none := by
  cases o with
  | none => exact fun h => by cases h
  | some q =>
    unfold oS
    simp only
    split <;> exact fun h => by cases h
theorem bs_none {x : Nat} {f : Nat → Nat} (n : Nat) : fo (bsW x f) 0 n none = none → ∀ j, j < n → hB x j = false := by
  have := fo_inv (st := bsW x f) (fun k o => o = none → ∀ j, j < k → hB x j = false) n 0 none (fun _ j hj => absurd hj (by omega)) (fun j o h1 h2 ih hq i hi => by
    unfold bsW at hq
    by_cases w : hB x j = true
    · rw [if_pos w] at hq
      exact absurd hq (oS_ne _ _ _)
    · rw [if_neg w] at hq
      by_cases z : i = j
      · subst z
        exact Bool.eq_false_iff.mpr w
      · exact ih hq i (by omega))
  rw [Nat.zero_add] at this
  exact this
theorem dW_le (H : Nat → Nat) : ∀ m x p, dW H m x p ≤ 7 * m + 6
  | 0, _, p => by
    have := wN_le (H p) (H 7)
    show wN (H p) (H 7) ≤ _
    omega
  | m + 1, x, p => by
    rw [dW_s]
    cases hq : fo (bsW x (fun k => wN (H p) (H k) + 1 + dW H m (x - 2 ^ k) k)) 0 7 none with
    | none =>
      have := wN_le (H p) (H 7)
      show wN (H p) (H 7) ≤ _
      omega
    | some q =>
      obtain ⟨_, _, h3⟩ := bs_mem 7 q hq
      have h4 := dW_le H m (x - 2 ^ q.1) q.1
      have := wN_le (H p) (H q.1)
      show q.2 ≤ _
      rw [h3]
      omega
theorem fW_le (H : Nat → Nat) (x p k : Nat) : fW H x p k < 1000 := by
  have h4 := dW_le H 128 (x - 2 ^ k) k
  have := wN_le (H p) (H k)
  unfold fW
  omega
theorem bs_oG {H : Nat → Nat} {x p : Nat} (n : Nat) (hn : n ≤ 7) : oG (fo (bsW x (fW H x p)) 0 n none) := by
  intro q hq
  obtain ⟨h1, h2, h3⟩ := bs_mem n q hq
  have := fW_le H x p q.1
  omega
def kF (H : Nat → Nat) (x p : Nat) : Nat := match Fw H x p with
  | none => 0
  | some q => q.1
def pth (H : Nat → Nat) : Nat → Nat → Nat → Nat
  | 0, x, p => kF H x p
  | i + 1, x, p => pth H i (x - 2 ^ kF H x p) (kF H x p)
theorem Fw_some {H : Nat → Nat} {x : Nat} (p : Nat) (hx : x < 128) (h0 : x ≠ 0) : ∃ q, Fw H x p = some q := by
  cases hq : Fw H x p with
  | some q => exact ⟨q, rfl⟩
  | none =>
    obtain ⟨k, h1, h2⟩ := no_bits x hx h0
    rw [bs_none 7 hq k h1] at h2
    cases h2
theorem kF_in {H : Nat → Nat} {x : Nat} (p : Nat) (hx : x < 128) (h0 : x ≠ 0) : kF H x p < 7 ∧ hB x (kF H x p) = true ∧ dW H 128 x p = fW H x p (kF H x p) := by
  obtain ⟨q, hq⟩ := Fw_some (H := H) p hx h0
  obtain ⟨h1, h2, h3⟩ := bs_mem 7 q hq
  have hk : kF H x p = q.1 := by unfold kF; rw [hq]
  have hd : dW H 128 x p = q.2 := by rw [D_eq H p hx, hq]
  rw [hk, hd]
  exact ⟨h1, h2, h3⟩
/-! the table -/
theorem bit_and (x y : Int32) (i : Nat) : f_X12_has (x &&& y) (nI i) = if f_X12_has x (nI i) = 0 then 0 else f_X12_has y (nI i) := by
  have e2 : ((x &&& y) >>> (nI i &&& 31)) &&& 1 = ((x >>> (nI i &&& 31)) &&& 1) &&& ((y >>> (nI i &&& 31)) &&& 1) := by
    generalize nI i &&& 31 = s
    apply Int32.toBitVec_inj.mp
    simp only [Int32.toBitVec_and, Int32.toBitVec_shiftRight, BitVec.sshiftRight_eq', BitVec.sshiftRight_and_distrib]
    ext j hj
    simp only [BitVec.getElem_and]
    cases (BitVec.sshiftRight x.toBitVec (s.toBitVec.smod 32).toNat)[j] <;> cases (BitVec.sshiftRight y.toBitVec (s.toBitVec.smod 32).toNat)[j] <;> cases (Int32.toBitVec 1)[j] <;> rfl
  rw [← has_and, ← has_and, ← has_and, e2]
  rcases and01 (x >>> (nI i &&& 31)) with w | w <;> rcases and01 (y >>> (nI i &&& 31)) with z | z <;> rw [w, z] <;> decide
theorem hB_and {x y : Nat} {z : Int32} {k : Nat} (h : nI x &&& z = 0) (hb : hB x k = true) (hk : k < 7) : f_X12_has z (nI k) = 0 := by
  have h1 := bit_and (nI x) z k
  have z0 : ∀ k, k < 7 → f_X12_has 0 (nI k) = 0 := by decide +kernel
  rw [h, z0 k hk, if_neg (of_decide_eq_true hb)] at h1
  exact h1.symm
theorem bit_not : ∀ x, x < 128 → ∀ k, k < 7 → f_X12_has (nI x ^^^ (-1)) (nI k) = if f_X12_has (nI x) (nI k) = 0 then 1 else 0 := by decide +kernel
/-- whether the table is asked at x, p -/
def mS (s x p : Nat) : Bool := if p = 7 then decide (x = s) else (decide (nI x &&& (nI s ^^^ (-1)) = 0) && decide (¬ f_X12_has (nI s &&& (nI x ^^^ (-1))) (nI p) = 0))
theorem mS_sub {s x p : Nat} (hs : s < 128) (hx : x < 128) (h : mS s x p = true) : nI x &&& (nI s ^^^ (-1)) = 0 := by
  unfold mS at h
  by_cases q : p = 7
  · rw [if_pos q] at h
    have := of_decide_eq_true h
    subst this
    exact and_self0 x hx
  · rw [if_neg q, Bool.and_eq_true] at h
    exact of_decide_eq_true h.1
theorem mS_next {s x p k : Nat} (hs : s < 128) (hx : x < 128) (h : mS s x p = true) (hk : k < 7) (hb : hB x k = true) : mS s (x - 2 ^ k) k = true := by
  have h0 := mS_sub hs hx h
  have hp2 := two_pow_pos' k
  have hr := (rm_bits x hx k hk hb).1
  have hn := hB_and (y := 0) h0 hb hk
  rw [bit_not s hs k hk] at hn
  have hsk : ¬ f_X12_has (nI s) (nI k) = 0 := fun z => by rw [if_pos z] at hn; exact absurd hn (by decide)
  have hxk := rm_bit2 x hx k hk hb k hk
  rw [hb, Bool.true_and, decide_eq_false (fun z => z rfl)] at hxk
  have hxk0 : f_X12_has (nI (x - 2 ^ k)) (nI k) = 0 := Decidable.not_not.mp (of_decide_eq_false hxk)
  unfold mS
  rw [if_neg (by omega), Bool.and_eq_true]
  constructor
  · refine decide_eq_true ?_
    rw [← hr, Int32.and_assoc, Int32.and_comm ((1 <<< (nI k &&& 31)) ^^^ (-1)), ← Int32.and_assoc, h0, Int32.zero_and]
  · refine decide_eq_true ?_
    rw [bit_and, if_neg hsk, bit_not (x - 2 ^ k) (by omega) k hk, if_pos hxk0]
    decide
theorem may_c2 {σ : Sg} {s x p : Nat} (h2 : rI σ 102 2 = nI s) (hs : s < 128) (hx : x < 128) (hp : p < 8) : (f_X10_mayStand σ (nI x) (nI p) = 0) = (mS s x p = false) := by
  unfold f_X10_mayStand mS
  rw [h2]
  by_cases q : p = 7
  · subst q
    rw [if_pos (show nI 7 = 7 from rfl), if_pos rfl]
    by_cases w : x = s
    · subst w
      rw [if_pos rfl, decide_eq_true rfl]
      simp
    · rw [if_neg (fun z => w (nIinj (by omega) (by omega) z)), decide_eq_false w]
      simp
  · rw [if_neg (show ¬ nI p = 7 from fun z => q (nIinj (b := 7) (by omega) (by omega) z)), if_neg q, hasBit_has _ (by omega)]
    by_cases w : nI x &&& (nI s ^^^ (-1)) = 0
    · by_cases z : f_X12_has (nI s &&& (nI x ^^^ (-1))) (nI p) = 0
      · rw [if_pos w, if_pos z, decide_eq_true w, decide_eq_false (fun y => y z)]
        simp
      · rw [if_pos w, if_neg z, decide_eq_true w, decide_eq_true z]
        simp
    · rw [if_neg w, decide_eq_false w]
      simp
def TI (H : Nat → Nat) (T : Nat → Int32) (s x0 p0 : Nat) : Prop := ∀ x p, x ≤ s → p < 8 → (x < x0 ∨ (x = x0 ∧ p < p0)) → mS s x p = true → T (x * 8 + p) = nI (dW H 128 x p)
theorem way_c {σ : Sg} {H : Nat → Nat} (h : rowIs σ 105 8 (fun j => nI (H j))) (h12 : ∀ j, H j ≤ 11) {i j : Nat} (hi : i < 8) (hj : j < 8) : f_X10_way σ (nI i) (nI j) = some (nI (wN (H i) (H j))) := by
  have a1 := h12 i
  have a2 := h12 j
  unfold f_X10_way wN
  rw [at_in h hi, ob_some, at_in h hj, ob_some, nam_e]
  have e12 : (12 : Int32) = nI 12 := rfl
  by_cases q : H j ≤ H i
  · rw [if_pos q, pk_sub q, if_pos (nI_pos' (by omega)), e12, pk_sub (by omega)]
    by_cases w : H i - H j ≤ 6
    · rw [if_pos w, if_neg (nI_nlt (by omega) (by omega))]
    · rw [if_neg w, if_pos (nI_lt (by omega) (by omega))]
  · have hneg : ¬ 0 ≤ nI (H i) - nI (H j) := fun z => by
      have := pk_sub_toInt (a := H i) (b := H j) (by omega) (by omega)
      rw [li_le, this] at z
      have e0 : (0 : Int32).toInt = 0 := rfl
      omega
    have hsub : 0 - (nI (H i) - nI (H j)) = nI (H j - H i) := by
      rw [Int32.zero_sub, Int32.neg_sub, pk_sub (by omega)]
    rw [if_neg q, if_neg hneg, hsub, e12, pk_sub (by omega)]
    by_cases w : H j - H i ≤ 6
    · rw [if_pos w, if_neg (nI_nlt (by omega) (by omega))]
    · rw [if_neg w, if_pos (nI_lt (by omega) (by omega))]
theorem by_c {σ : Sg} {H : Nat → Nat} {T : Nat → Int32} {x p k : Nat} (h : rowIs σ 105 8 (fun j => nI (H j))) (h12 : ∀ j, H j ≤ 11) (hT : rowIs σ 103 1024 T) (hx : x < 128) (hp : p < 8) (hk : k < 7) (hb : hB x k = true) (ht : T ((x - 2 ^ k) * 8 + k) = nI (dW H 128 (x - 2 ^ k) k)) : f_X10_hoursBy σ (nI x) (nI p) (nI k) = some (nI (fW H x p k)) := by
  have hp2 := two_pow_pos' k
  unfold f_X10_hoursBy f_X10_hoursFrom
  rw [way_c h h12 hp (by omega), ob_some, (rm_bits x hx k hk hb).1, L8, pk_mul, nI_add, at_in hT (by omega), ob_some, ob_some, ht, nI_1, nI_add]
  rfl
def oM (o : Option (Nat × Nat)) : Int32 := match o with
  | none => 1000000
  | some q => nI q.2
def oK (o : Option (Nat × Nat)) : Int32 := match o with
  | none => 0
  | some q => nI q.1
theorem fb_loop {σ : Sg} {H : Nat → Nat} {T : Nat → Int32} {x p : Nat} (h : rowIs σ 105 8 (fun j => nI (H j))) (h12 : ∀ j, H j ≤ 11) (hT : rowIs σ 103 1024 T) (hx : x < 128) (hp : p < 8) (ht : ∀ k, k < 7 → hB x k = true → T ((x - 2 ^ k) * 8 + k) = nI (dW H 128 (x - 2 ^ k) k)) : ∀ (t k fu : Nat) (o : Option (Nat × Nat)), t + k = 7 → t < fu → oG o → b_X10_firstBest_9 σ (nI x) (nI p) fu (oK o) (oM o) (nI k) = some (oK (fo (bsW x (fW H x p)) k t o)) := by
  intro t
  induction t with
  | zero =>
    intro k fu o hk hf ho
    obtain ⟨fu, rfl⟩ : ∃ q, fu = q + 1 := ⟨fu - 1, by omega⟩
    rw [b_X10_firstBest_9, if_pos (show (7 : Int32) ≤ nI k from nI_le (a := 7) (by omega) (by omega))]
    rfl
  | succ t ih =>
    intro k fu o hk hf ho
    obtain ⟨fu, rfl⟩ : ∃ q, fu = q + 1 := ⟨fu - 1, by omega⟩
    have hMM : ∀ r : Nat, r < 2000 → ¬ (1000000 : Int32) ≤ nI r := fun r hr => nI_ge (b := 1000000) (by omega) (by omega)
    rw [b_X10_firstBest_9, if_neg (show ¬ (7 : Int32) ≤ nI k from nI_ge (b := 7) (by omega) (by omega)), hasBit_has _ (by omega), fo_s]
    unfold b_X10_firstBest_38 b_X10_firstBest_54
    simp only [nam_e, nI_1]
    by_cases q : f_X12_has (nI x) (nI k) = 0
    · have hb : hB x k = false := decide_eq_false (fun z => z q)
      have e1 : oM o ≤ 1000000 := by
        cases o with
        | none => exact (li_le _ _).mpr (Int.le_refl _)
        | some r =>
          have := ho r rfl
          exact nI_le (b := 1000000) (by omega) (by omega)
      rw [if_pos q, if_pos e1, show bsW x (fW H x p) k o = o from if_neg (by rw [hb]; decide)]
      exact ih (k + 1) fu o (by omega) (by omega) ho
    · have hb : hB x k = true := decide_eq_true q
      have hle := fW_le H x p k
      rw [if_neg q, by_c h h12 hT hx hp (by omega) hb (ht k (by omega) hb), ob_some, show bsW x (fW H x p) k o = oS o k (fW H x p k) from if_pos hb]
      have hG := oG_S ho (show k < 1000 by omega) hle
      have ih' := ih (k + 1) fu (oS o k (fW H x p k)) (by omega) (by omega) hG
      cases o with
      | none =>
        rw [if_neg (show ¬ oM none ≤ nI (fW H x p k) from hMM _ (by omega))]
        exact ih'
      | some r =>
        obtain ⟨g1, g2⟩ := ho r rfl
        by_cases w : fW H x p k < r.2
        · rw [show oS (some r) k (fW H x p k) = some (k, fW H x p k) from if_pos w] at ih' ⊢
          rw [if_neg (show ¬ oM (some r) ≤ nI (fW H x p k) from nI_ge w (by omega))]
          exact ih'
        · rw [show oS (some r) k (fW H x p k) = some r from if_neg w] at ih' ⊢
          rw [if_pos (show oM (some r) ≤ nI (fW H x p k) from nI_le (by omega) (by omega))]
          exact ih'
theorem fb_c {σ : Sg} {H : Nat → Nat} {T : Nat → Int32} {x p : Nat} (h : rowIs σ 105 8 (fun j => nI (H j))) (h12 : ∀ j, H j ≤ 11) (hT : rowIs σ 103 1024 T) (hx : x < 128) (hp : p < 8) (ht : ∀ k, k < 7 → hB x k = true → T ((x - 2 ^ k) * 8 + k) = nI (dW H 128 (x - 2 ^ k) k)) : f_X10_firstBest σ (nI x) (nI p) = some (nI (kF H x p)) := by
  refine (show f_X10_firstBest σ (nI x) (nI p) = _ from fb_loop h h12 hT hx hp ht 7 0 FU none (by omega) (by unfold FU; omega) oG_0).trans ?_
  show some (oK (Fw H x p)) = some (nI (kF H x p))
  unfold kF
  cases Fw H x p <;> rfl
theorem least_c {σ : Sg} {H : Nat → Nat} {T : Nat → Int32} {x p : Nat} (h : rowIs σ 105 8 (fun j => nI (H j))) (h12 : ∀ j, H j ≤ 11) (hT : rowIs σ 103 1024 T) (hx : x < 128) (hp : p < 8) (ht : ∀ k, k < 7 → hB x k = true → T ((x - 2 ^ k) * 8 + k) = nI (dW H 128 (x - 2 ^ k) k)) : f_X10_leastHours σ (nI x) (nI p) = some (nI (dW H 128 x p)) := by
  unfold f_X10_leastHours
  by_cases q : x = 0
  · subst q
    rw [if_pos (show nI 0 = 0 from rfl), show f_X10_way σ (nI p) 7 = _ from way_c h h12 (j := 7) hp (by omega), ob_some, dW_0]
  · obtain ⟨k1, k2, k3⟩ := kF_in (H := H) p hx q
    rw [if_neg (nI_ne0 (by omega) (by omega)), fb_c h h12 hT hx hp ht, ob_some, by_c h h12 hT hx hp k1 k2 (ht _ k1 k2), ob_some, k3]
theorem TI_sub {H : Nat → Nat} {T : Nat → Int32} {s x p x0 p0 : Nat} (hs : s < 128) (hx : x ≤ s) (hT : TI H T s x0 p0) (h0 : x ≤ x0) (hm : mS s x p = true) : ∀ k, k < 7 → hB x k = true → T ((x - 2 ^ k) * 8 + k) = nI (dW H 128 (x - 2 ^ k) k) := fun k hk hb => by
  have hp := two_pow_pos' k
  have hr := (rm_bits x (by omega) k hk hb).2
  exact hT (x - 2 ^ k) k (by omega) (by omega) (Or.inl (by omega)) (mS_next hs (by omega) hm hk hb)
theorem plan_in {s x : Nat} {H : Nat → Nat} (l2 : Int32) (c19 : Sg → Int32 → Option Sg) (h12 : ∀ j, H j ≤ 11) (hs : s < 128) (hx : x ≤ s) : ∀ (t p fu : Nat) (σ : Sg) (T : Nat → Int32), t + p = 8 → t < fu → rowIs σ 105 8 (fun j => nI (H j)) → rowIs σ 103 1024 T → rI σ 102 2 = nI s → TI H T s x p → ∃ τ T', b_X10_plan_30 4 l2 c19 fu σ (nI x) (nI p) = c19 τ (nI (x + 1)) ∧ rowIs τ 103 1024 T' ∧ TI H T' s (x + 1) 0 ∧ Only 103 105 σ τ := by
  intro t
  induction t with
  | zero =>
    intro p fu σ T ht hf h1 h2 h3 h4
    obtain ⟨fu, rfl⟩ : ∃ q, fu = q + 1 := ⟨fu - 1, by omega⟩
    refine ⟨σ, T, ?_, h2, fun y q hy hq hl hm => h4 y q hy hq (by omega) hm, Only.rf⟩
    rw [b_X10_plan_30, if_pos (show (7 : Int32) < nI p from nI_lt (a := 7) (by omega) (by omega)), nam_e, nI_1]
  | succ t ih =>
    intro p fu σ T ht hf h1 h2 h3 h4
    obtain ⟨fu, rfl⟩ : ∃ q, fu = q + 1 := ⟨fu - 1, by omega⟩
    rw [b_X10_plan_30, if_neg (show ¬ (7 : Int32) < nI p from nI_nlt (a := 7) (b := p) (by omega) (by omega))]
    unfold b_X10_plan_68
    simp only [nam_e, nI_1]
    have hmay := may_c2 (x := x) (p := p) h3 hs (by omega) (by omega)
    cases hm : mS s x p with
    | false =>
      rw [if_pos (hmay.mpr hm)]
      exact ih (p + 1) fu σ T (by omega) (by omega) h1 h2 h3 (fun y q hy hq hl hm2 => by
        by_cases w : y = x ∧ q = p
        · obtain ⟨rfl, rfl⟩ := w
          rw [hm] at hm2; cases hm2
        · exact h4 y q hy hq (by omega) hm2)
    | true =>
      have hn : ¬ f_X10_mayStand σ (nI x) (nI p) = 0 := fun z => by
        rw [hmay.mp z] at hm; cases hm
      obtain ⟨s1, a1, b1, c1⟩ := put_in (j := x * 8 + p) (nI (dW H 128 x p)) h2 (by omega)
      have c1' : Only 103 105 σ s1 := c1.mono (by omega) (by omega)
      obtain ⟨τ, T', k1, k2, k3, k4⟩ := ih (p + 1) fu s1 _ (by omega) (by omega) (h1.keep c1' (by omega)) b1 (by rw [(c1' 102 (by omega)).1]; exact h3) (fun y q hy hq hl hm2 => by
        by_cases w : y = x ∧ q = p
        · obtain ⟨rfl, rfl⟩ := w
          exact pk_us
        · rw [pk_un (by omega)]
          exact h4 y q hy hq (by omega) hm2)
      refine ⟨τ, T', ?_, k2, k3, c1'.trans k4⟩
      rw [if_neg hn, least_c h1 h12 h2 (by omega) (by omega) (TI_sub hs hx h4 (Nat.le_refl _) hm), ob_some, L8, pk_mul, nI_add, a1, ob_some]
      exact k1
theorem plan_out {s : Nat} {H : Nat → Nat} (l2 : Int32) (h12 : ∀ j, H j ≤ 11) (hs : s < 128) : ∀ (t x fu : Nat) (σ : Sg) (T : Nat → Int32), t + x = s + 1 → t < fu → rowIs σ 105 8 (fun j => nI (H j)) → rowIs σ 103 1024 T → rI σ 102 2 = nI s → TI H T s x 0 → ∃ τ T', b_X10_plan_19 4 l2 fu σ (nI x) = some τ ∧ rowIs τ 103 1024 T' ∧ TI H T' s (s + 1) 0 ∧ Only 103 105 σ τ := by
  intro t
  induction t with
  | zero =>
    intro x fu σ T ht hf h1 h2 h3 h4
    obtain ⟨fu, rfl⟩ : ∃ q, fu = q + 1 := ⟨fu - 1, by omega⟩
    have : x = s + 1 := by omega
    subst this
    refine ⟨σ, T, ?_, h2, h4, Only.rf⟩
    rw [b_X10_plan_19, h3, if_pos (nI_lt (by omega) (by omega))]
  | succ t ih =>
    intro x fu σ T ht hf h1 h2 h3 h4
    obtain ⟨fu, rfl⟩ : ∃ q, fu = q + 1 := ⟨fu - 1, by omega⟩
    obtain ⟨s1, T1, a1, b1, b2, c1⟩ := plan_in l2 (b_X10_plan_19 4 l2 fu) h12 hs (show x ≤ s by omega) 8 0 FU σ T (by omega) (by unfold FU; omega) h1 h2 h3 h4
    obtain ⟨τ, T', k1, k2, k3, k4⟩ := ih (x + 1) fu s1 T1 (by omega) (by omega) (h1.keep c1 (by omega)) b1 (by rw [(c1 102 (by omega)).1]; exact h3) b2
    refine ⟨τ, T', ?_, k2, k3, c1.trans k4⟩
    rw [b_X10_plan_19, h3, if_neg (nI_nlt (by omega) (by omega))]
    exact (show b_X10_plan_30 4 l2 (b_X10_plan_19 4 l2 fu) FU σ (nI x) (nI 0) = _ from a1).trans k1
theorem settle_loop {a : Nat} {h : Nat → Int32} {H : Nat → Nat} (ha : a ≤ 7) (hh : ∀ j, j < a → h j = nI (H j)) (h0 : ∀ j, a ≤ j → H j = 0) : ∀ (t i fu : Nat) (σ : Sg), t + i = 7 → t < fu → rowIs σ 4 a h → rowIs σ 105 i (fun j => nI (H j)) → ∃ τ, b_X10_settle_9 4 fu σ (nI i) = some τ ∧ rowIs τ 105 8 (fun j => nI (H j)) ∧ Only 105 107 σ τ := by
  intro t
  induction t with
  | zero =>
    intro i fu σ ht hf h1 h2
    obtain ⟨fu, rfl⟩ : ∃ q, fu = q + 1 := ⟨fu - 1, by omega⟩
    have : i = 7 := by omega
    subst this
    obtain ⟨s1, a1, b1, c1⟩ := add_in 0 h2 (show 7 < 8 by omega)
    refine ⟨s1, ?_, b1.ext (by show nI (H 7) = 0; rw [h0 7 ha]; rfl) (fun _ _ => rfl), c1⟩
    rw [b_X10_settle_9, if_pos (show (7 : Int32) ≤ nI 7 from nI_le (a := 7) (by omega) (by omega)), a1, ob_some]
  | succ t ih =>
    intro i fu σ ht hf h1 h2
    obtain ⟨fu, rfl⟩ : ∃ q, fu = q + 1 := ⟨fu - 1, by omega⟩
    have e1 : f_X7_at σ 4 (nI i) = some (nI (H i)) := by
      by_cases q : i < a
      · rw [at_in h1 q, hh i q]
      · rw [at_out h1 (by omega) (by omega), h0 i (by omega)]; rfl
    obtain ⟨s1, a1, b1, c1⟩ := add_in (nI (H i)) h2 (show i < 8 by omega)
    obtain ⟨τ, k1, k2, k3⟩ := ih (i + 1) fu s1 (by omega) (by omega) (h1.keep c1 (by omega)) (b1.ext rfl (fun _ _ => rfl))
    refine ⟨τ, ?_, k2, c1.trans k3⟩
    rw [b_X10_settle_9, if_neg (show ¬ (7 : Int32) ≤ nI i from nI_ge (b := 7) (by omega) (by omega)), e1, ob_some, a1, ob_some, nam_e, nI_1]
    exact k1
theorem plan_c {σ : Sg} {a s : Nat} {h : Nat → Int32} {H : Nat → Nat} (ha : a ≤ 7) (hh : ∀ j, j < a → h j = nI (H j)) (h0 : ∀ j, a ≤ j → H j = 0) (h12 : ∀ j, H j ≤ 11) (hs : s < 128) (h1 : rowIs σ 4 a h) : ∃ τ T, f_X10_plan σ 4 (nI s) = some τ ∧ rowIs τ 105 8 (fun j => nI (H j)) ∧ rowIs τ 103 1024 T ∧ rI τ 102 2 = nI s ∧ TI H T s (s + 1) 0 ∧ Only 102 107 σ τ := by
  obtain ⟨s1, a1, b1, c1⟩ := restart_in σ 105 (fun j => nI (H j))
  obtain ⟨s2, a2, b2, c2⟩ := settle_loop ha hh h0 7 0 FU s1 (by omega) (by unfold FU; omega) (h1.keep c1 (by omega)) b1
  have o3 : Only 102 103 s2 (stI s2 102 2 (nI s)) := Only.stI s2 102 2 _
  have o4 : Only 103 104 (stI s2 102 2 (nI s)) (stI (stI s2 102 2 (nI s)) 103 1 (nI (kLen (103 + 1)))) := Only.stI _ 103 1 _
  generalize hs4 : stI (stI s2 102 2 (nI s)) 103 1 (nI (kLen (103 + 1))) = s4 at o4
  have b4 : rowIs s4 103 1024 (rI s4 104) := ⟨by decide, by rw [← hs4, rI_eq, kl104], fun _ _ => rfl⟩
  have e4 : rI s4 102 2 = nI s := by rw [← hs4, rI_ne _ _ (by omega), rI_eq]
  obtain ⟨τ, T', k1, k2, k3, k4⟩ := plan_out (H := H) (nI s) h12 hs (s + 1) 0 FU s4 _ (by omega) (by unfold FU; omega) ((b2.keep o3 (by omega)).keep o4 (by omega)) b4 e4 (fun x p _ _ hl => absurd hl (by omega))
  refine ⟨τ, T', ?_, ((b2.keep o3 (by omega)).keep o4 (by omega)).keep k4 (by omega), k2, by rw [(k4 102 (by omega)).1]; exact e4, k3, ((((c1.mono (by omega) (by omega)).trans (c2.mono (by omega) (by omega))).trans (o3.mono (by omega) (by omega))).trans (o4.mono (by omega) (by omega))).trans (k4.mono (by omega) (by omega))⟩
  unfold f_X10_plan f_X10_settle f_X7_useAll
  rw [a1, ob_some, show b_X10_settle_9 4 FU s1 0 = some s2 from a2, ob_some, nam_e, nam_e, ob_some, hs4]
  exact k1
theorem visit_loop {σ : Sg} {s i : Nat} {H : Nat → Nat} {T : Nat → Int32} (h : rowIs σ 105 8 (fun j => nI (H j))) (h12 : ∀ j, H j ≤ 11) (hT : rowIs σ 103 1024 T) (hs : s < 128) (hI : TI H T s (s + 1) 0) (hi : i < 7) : ∀ (t n fu x p : Nat), t + n = i + 1 → t < fu → x ≤ s → p < 8 → mS s x p = true → t ≤ ctB x 0 7 → b_X10_visited_11 σ (nI i) fu (nI x) (nI p) (nI n) = some (nI (if t = 0 then p else pth H (t - 1) x p)) := by
  intro t
  induction t with
  | zero =>
    intro n fu x p ht hf hx hp hm hc
    obtain ⟨fu, rfl⟩ : ∃ q, fu = q + 1 := ⟨fu - 1, by omega⟩
    rw [b_X10_visited_11, if_pos (nI_lt (by omega) (by omega)), if_pos rfl]
  | succ t ih =>
    intro n fu x p ht hf hx hp hm hc
    obtain ⟨fu, rfl⟩ : ∃ q, fu = q + 1 := ⟨fu - 1, by omega⟩
    have hx0 : x ≠ 0 := fun z => by
      subst z
      have : ctB 0 0 7 = 0 := by decide +kernel
      omega
    obtain ⟨k1, k2, _⟩ := kF_in (H := H) p (show x < 128 by omega) hx0
    have hr := rm_bits x (by omega) _ k1 k2
    have hcr := ct_rm x (by omega) _ k1 k2
    have hpw := two_pow_pos' (kF H x p)
    have hsub := TI_sub hs hx hI (show x ≤ s + 1 by omega) hm
    rw [b_X10_visited_11, if_neg (nI_nlt (by omega) (by omega)), if_neg (nI_ne0 (by omega) (by omega)), fb_c h h12 hT (by omega) hp hsub, ob_some, nam_e, nam_e, hr.1, nI_1, ih (n + 1) fu (x - 2 ^ kF H x p) (kF H x p) (by omega) (by omega) (by omega) (by omega) (mS_next hs (by omega) hm k1 k2) (by omega)]
    rw [if_neg (show ¬ t + 1 = 0 by omega), Nat.add_sub_cancel]
    by_cases q : t = 0
    · subst q
      rw [if_pos rfl]
      rfl
    · obtain ⟨t', rfl⟩ : ∃ t', t = t' + 1 := ⟨t - 1, by omega⟩
      rw [if_neg q, Nat.add_sub_cancel]
      rfl
