theorem bits_of (p : Nat → Bool) {i : Nat} (hi : i < 10) : f_X12_has (fo (biS p) 0 10 0) (nI i) = b2i (p i) := by
  have z : ∀ i, i < 10 → f_X12_has 0 (nI i) = 0 := by decide +kernel
  have := fo_inv (st := biS p) (fun k s => ∀ i, i < 10 → f_X12_has s (nI i) = if i < k ∧ p i = true then 1 else 0) 10 0 0 (fun i hi => by rw [z i hi, if_neg (by omega)]) (fun j s h1 h2 ih i hi => by
    unfold biS
    by_cases q : p j = true
    · rw [if_pos q, bit_or s (by omega) hi, ih i hi]
      by_cases w : i = j
      · subst w
        rw [if_pos rfl, if_pos ⟨by omega, q⟩]
      · rw [if_neg w]
        by_cases e : i < j ∧ p i = true
        · rw [if_pos e, if_pos ⟨by omega, e.2⟩]
        · rw [if_neg e, if_neg (fun z => e ⟨by omega, z.2⟩)]
    · rw [if_neg q, ih i hi]
      by_cases e : i < j ∧ p i = true
      · rw [if_pos e, if_pos ⟨by omega, e.2⟩]
      · rw [if_neg e, if_neg]
        rintro ⟨e1, e2⟩
        by_cases w : i = j
        · subst w; exact q e2
        · exact e ⟨by omega, e2⟩)
  have h2 := this i hi
  rw [h2]
  unfold b2i
  by_cases q : p i = true
  · rw [if_pos ⟨by omega, q⟩, if_pos q]
  · rw [if_neg (fun z => q z.2), if_neg q]
def pL (kd d m : Int32) (f : Nat) : Bool := decide (¬ f_X12_lends kd d m (nI f) = 0)
theorem enough_c (d m : Int32) {kdn : Nat} (h5 : kdn ≤ 5) : ∀ (t i fu : Nat) (s : Int32), t + i = 10 → t < fu → b_X2_giftsEnough_5 (nI kdn) d m fu s (nI i) = some (fo (biS (pL (nI kdn) d m)) i t s) := by
  intro t
  induction t with
  | zero =>
    intro i fu s ht hf
    obtain ⟨fu, rfl⟩ : ∃ q, fu = q + 1 := ⟨fu - 1, by omega⟩
    rw [b_X2_giftsEnough_5, if_pos (show (9 : Int32) < nI i from nI_lt (a := 9) (by omega) (by omega))]
    rfl
  | succ t ih =>
    intro i fu s ht hf
    obtain ⟨fu, rfl⟩ : ∃ q, fu = q + 1 := ⟨fu - 1, by omega⟩
    rw [b_X2_giftsEnough_5, if_neg (show ¬ (9 : Int32) < nI i from nI_nlt (a := 9) (b := i) (by omega) (by omega)), lends_same d m (nI i) h5, fo_s]
    unfold b_X2_giftsEnough_30
    simp only [nam_e, nI_1]
    by_cases q : f_X12_lends (nI kdn) d m (nI i) = 0
    · rw [if_pos q, ih (i + 1) fu s (by omega) (by omega)]
      have : biS (pL (nI kdn) d m) i s = s := if_neg (fun z => (of_decide_eq_true (show decide (¬ f_X12_lends (nI kdn) d m (nI i) = 0) = true from z)) q)
      rw [this]
    · rw [if_neg q, ih (i + 1) fu _ (by omega) (by omega)]
      have : biS (pL (nI kdn) d m) i s = s ||| (1 <<< (nI i &&& 31)) := if_pos (decide_eq_true q)
      rw [this]
/-- what one gets who brings own, the other one more or not -/
def getG (p : Nat → Bool) (own : Nat) (more : Bool) : Int32 := if (more && p own) = true then 8 - nI own else -(nI own / 2)
theorem gets_c (p : Nat → Bool) {i : Nat} (hi : i < 10) : f_X9_gets (fo (biS p) 0 10 0) (nI i) = getG p i true := by
  unfold f_X9_gets getG
  rw [hasBit_has _ (by omega), bits_of p hi, Bool.true_and]
  cases p i with
  | false => rw [if_pos (show b2i false = 0 from rfl), if_neg (by decide)]
  | true => rw [if_neg (show ¬ b2i true = 0 by decide), if_pos rfl]
theorem first_c (p : Nat → Bool) {i j : Nat} (hi : i < 10) (hj : j < 10) : f_X9_firstGets (fo (biS p) 0 10 0) (nI i) (nI j) = getG p i (decide (j ≤ i)) := by
  unfold f_X9_firstGets
  by_cases q : j ≤ i
  · rw [if_neg (nI_nlt q (by omega)), gets_c p hi, decide_eq_true q]
  · rw [if_pos (nI_lt (by omega) (by omega)), decide_eq_false q]
    unfold getG
    rw [Bool.false_and, if_neg (by decide)]
theorem second_c (p : Nat → Bool) {i j : Nat} (hi : i < 10) (hj : j < 10) : f_X9_secondGets (fo (biS p) 0 10 0) (nI i) (nI j) = getG p j (decide (i < j)) := by
  unfold f_X9_secondGets
  by_cases q : i < j
  · rw [if_neg (nI_ge q (by omega)), gets_c p hj, decide_eq_true q]
  · rw [if_pos (nI_le (by omega) (by omega)), decide_eq_false q]
    unfold getG
    rw [Bool.false_and, if_neg (by decide)]
theorem gets_r {σ : Sg} {k own other : Nat} (f : Bool) (hk : k < 7) (ho : own < 10) (ht : other < 10) : f_X12_getsBy σ (nI k) (nI own) (nI other) (b2i f) = some (getG (pL (rI σ 113 (4 + k)) (rI σ 113 2) (rI σ 113 (32 + k))) own (if f = true then decide (other ≤ own) else decide (other < own))) := by
  unfold f_X12_getsBy b_X12_getsBy_15 b_X12_getsBy_19 b_X12_getsBy_20 b_X12_getsBy_43
  rw [would_r _ hk, ob_some]
  have key : (if f_X12_lends (rI σ 113 (4 + k)) (rI σ 113 2) (rI σ 113 (32 + k)) (nI own) = 0 then some (-(nI own / 2)) else some (8 - nI own)) = some (getG (pL (rI σ 113 (4 + k)) (rI σ 113 2) (rI σ 113 (32 + k))) own true) := by
    unfold getG pL
    rw [Bool.true_and]
    by_cases q : f_X12_lends (rI σ 113 (4 + k)) (rI σ 113 2) (rI σ 113 (32 + k)) (nI own) = 0
    · rw [if_pos q, if_neg (fun z => (of_decide_eq_true (show decide (¬ f_X12_lends (rI σ 113 (4 + k)) (rI σ 113 2) (rI σ 113 (32 + k)) (nI own) = 0) = true from z)) q)]
    · rw [if_neg q, if_pos (decide_eq_true q)]
  have kf : some (-(nI own / 2)) = some (getG (pL (rI σ 113 (4 + k)) (rI σ 113 2) (rI σ 113 (32 + k))) own false) := by
    unfold getG
    rw [Bool.false_and, if_neg (by decide)]
  rw [if_neg (show ¬ (1 : Int32) = 0 by decide), if_pos (show (0 : Int32) = 0 from rfl), key, kf]
  by_cases q : other < own
  · rw [if_pos (nI_lt q (by omega)), decide_eq_true q, decide_eq_true (show other ≤ own by omega)]
    cases f <;> rfl
  · rw [if_neg (nI_nlt (by omega) (by omega)), decide_eq_false q]
    by_cases w : own = other
    · subst w
      rw [if_pos rfl, decide_eq_true (Nat.le_refl _)]
      cases f with
      | false => rw [if_pos (show b2i false = 0 from rfl), if_neg (by decide)]
      | true => rw [if_neg (show ¬ b2i true = 0 by decide), if_pos rfl]
    · rw [if_neg (fun z => w (nIinj (by omega) (by omega) z)), decide_eq_false (show ¬ other ≤ own by omega)]
      cases f <;> rfl
