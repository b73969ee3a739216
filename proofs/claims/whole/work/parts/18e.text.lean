/-! ===== read: how a text is gone through ===== -/
def ltB (x : Int32) : Bool := decide (¬ f_X8_isLetter x = 0)
def fgB (x : Int32) : Bool := decide (¬ f_X8_isFigure x = 0)
def blB (x : Int32) : Bool := decide (x = 32)
def skT (T : Nat → Int32) (P : Int32 → Bool) : Nat → Nat → Nat
  | 0, p => p
  | t + 1, p => if P (T p) = true then skT T P t (p + 1) else p
def sk (n : Nat) (T : Nat → Int32) (P : Int32 → Bool) (p : Nat) : Nat := skT T P (n - p) p
theorem sk_stop {n : Nat} {T : Nat → Int32} {P : Int32 → Bool} {p : Nat} (h : n ≤ p) : sk n T P p = p := by
  unfold sk
  rw [show n - p = 0 by omega]
  rfl
theorem sk_yes {n : Nat} {T : Nat → Int32} {P : Int32 → Bool} {p : Nat} (h : p < n) (hp : P (T p) = true) : sk n T P p = sk n T P (p + 1) := by
  unfold sk
  rw [show n - p = (n - (p + 1)) + 1 by omega, skT, if_pos hp]
theorem sk_no {n : Nat} {T : Nat → Int32} {P : Int32 → Bool} {p : Nat} (hp : ¬ P (T p) = true) : sk n T P p = p := by
  by_cases h : p < n
  · unfold sk
    rw [show n - p = (n - (p + 1)) + 1 by omega, skT, if_neg hp]
  · exact sk_stop (by omega)
theorem sk_in {n : Nat} {T : Nat → Int32} {P : Int32 → Bool} : ∀ (d p : Nat), d + p = n → p ≤ sk n T P p ∧ sk n T P p ≤ n ∧ (sk n T P p < n → ¬ P (T (sk n T P p)) = true)
  | 0, p, h => by
    rw [sk_stop (by omega)]
    exact ⟨Nat.le_refl _, by omega, fun h2 => by omega⟩
  | d + 1, p, h => by
    by_cases q : P (T p) = true
    · rw [sk_yes (by omega) q]
      obtain ⟨h1, h2, h3⟩ := sk_in (n := n) (T := T) (P := P) d (p + 1) (by omega)
      exact ⟨by omega, h2, h3⟩
    · rw [sk_no q]
      exact ⟨Nat.le_refl _, by omega, fun _ => q⟩
theorem sk_le {n p : Nat} (T : Nat → Int32) (P : Int32 → Bool) (h : p ≤ n) : p ≤ sk n T P p ∧ sk n T P p ≤ n := ⟨(sk_in (n - p) p (by omega)).1, (sk_in (n - p) p (by omega)).2.1⟩
theorem sk_sk {n p : Nat} (T : Nat → Int32) (P : Int32 → Bool) (h : p ≤ n) : sk n T P (sk n T P p) = sk n T P p := by
  obtain ⟨_, h2, h3⟩ := sk_in (n := n) (T := T) (P := P) (n - p) p (by omega)
  by_cases q : sk n T P p < n
  · exact sk_no (h3 q)
  · exact sk_stop (by omega)
/-- figures from q on, the number having begun at s -/
def dgT (T : Nat → Int32) (s : Nat) : Nat → Nat → Int32 → Nat × Int32
  | 0, q, v => (q, v)
  | t + 1, q, v => if fgB (T q) = true then dgT T s t (q + 1) (if 2 ≤ q - s then v else ((10 * v) + T q) - 48) else (q, v)
theorem dgT_in (T : Nat → Int32) (s : Nat) : ∀ t q v, q ≤ (dgT T s t q v).1 ∧ (dgT T s t q v).1 ≤ q + t
  | 0, q, v => ⟨Nat.le_refl _, Nat.le_refl _⟩
  | t + 1, q, v => by
    unfold dgT
    by_cases w : fgB (T q) = true
    · rw [if_pos w]
      have := dgT_in T s t (q + 1) (if 2 ≤ q - s then v else ((10 * v) + T q) - 48)
      omega
    · rw [if_neg w]
      exact ⟨Nat.le_refl _, by show q ≤ _; omega⟩
def dfE (n : Nat) (T : Nat → Int32) (q : Nat) : Nat := (dgT T q (n - q) q 0).1
def vl (n : Nat) (T : Nat → Int32) (q : Nat) : Int32 := (dgT T q (n - q) q 0).2
theorem dfE_fig {n q : Nat} {T : Nat → Int32} (h : q < n) (hf : fgB (T q) = true) : q + 1 ≤ dfE n T q ∧ dfE n T q ≤ n := by
  unfold dfE
  rw [show n - q = (n - (q + 1)) + 1 by omega, dgT, if_pos hf]
  have := dgT_in T q (n - (q + 1)) (q + 1) (if 2 ≤ q - q then 0 else ((10 * 0) + T q) - 48)
  omega
theorem dfE_no {n q : Nat} {T : Nat → Int32} (h : n ≤ q ∨ ¬ fgB (T q) = true) : dfE n T q = q := by
  unfold dfE
  by_cases w : n ≤ q
  · rw [show n - q = 0 by omega]; rfl
  · rw [show n - q = (n - (q + 1)) + 1 by omega, dgT, if_neg (h.resolve_left w)]
def tk (n : Nat) (T : Nat → Int32) (q : Nat) : Int32 := if n ≤ q then 0 else if ltB (T q) = true then 1 else if fgB (T q) = true then (if dfE n T q - q ≤ 2 then 2 else 4) else if T q = 59 then 3 else 4
def nx (n : Nat) (T : Nat → Int32) (q : Nat) : Nat := if n ≤ q then q else if ltB (T q) = true then sk n T ltB q else if fgB (T q) = true then dfE n T q else q + 1
theorem lt_fg (x : Int32) (h : ltB x = true) : ¬ fgB x = true := by
  have h1 : ¬ f_X8_isLetter x = 0 := of_decide_eq_true h
  intro h2
  have h3 : ¬ f_X8_isFigure x = 0 := of_decide_eq_true h2
  unfold f_X8_isLetter at h1
  unfold f_X8_isFigure at h3
  by_cases q1 : x < 97
  · rw [if_pos q1] at h1; exact h1 rfl
  · by_cases q2 : x < 48
    · rw [if_pos q2] at h3; exact h3 rfl
    · rw [if_neg q2] at h3
      by_cases q3 : 57 < x
      · rw [if_pos q3] at h3; exact h3 rfl
      · rw [li_lt] at q1 q3
        have e1 : (97 : Int32).toInt = 97 := rfl
        have e2 : (57 : Int32).toInt = 57 := rfl
        omega
theorem nx_in {n q : Nat} (T : Nat → Int32) (h : q < n) : q + 1 ≤ nx n T q ∧ nx n T q ≤ n := by
  unfold nx
  rw [if_neg (by omega)]
  by_cases q1 : ltB (T q) = true
  · rw [if_pos q1, sk_yes h q1]
    have := sk_le T ltB (show q + 1 ≤ n by omega)
    omega
  · rw [if_neg q1]
    by_cases q2 : fgB (T q) = true
    · rw [if_pos q2]
      exact dfE_fig h q2
    · rw [if_neg q2]; omega
theorem tk_0 {n q : Nat} {T : Nat → Int32} (h : q < n) : ¬ tk n T q = 0 := by
  unfold tk
  rw [if_neg (by omega)]
  split
  · decide
  · split
    · split <;> decide
    · split <;> decide
theorem tk_lt {n q : Nat} {T : Nat → Int32} (h : ¬ tk n T q = 0) : q < n := by
  by_cases w : n ≤ q
  · exact absurd (if_pos w) h
  · omega
theorem tk_2 {n q : Nat} {T : Nat → Int32} : tk n T q = 2 ↔ (1 ≤ dfE n T q - q ∧ dfE n T q - q ≤ 2) := by
  unfold tk
  by_cases w : n ≤ q
  · rw [if_pos w, dfE_no (Or.inl w), Nat.sub_self]
    exact ⟨fun h => absurd h (by decide), fun h => by omega⟩
  · rw [if_neg w]
    by_cases q1 : ltB (T q) = true
    · rw [if_pos q1, dfE_no (Or.inr (lt_fg _ q1)), Nat.sub_self]
      exact ⟨fun h => absurd h (by decide), fun h => by omega⟩
    · rw [if_neg q1]
      by_cases q2 : fgB (T q) = true
      · have := dfE_fig (show q < n by omega) q2
        rw [if_pos q2]
        by_cases q3 : dfE n T q - q ≤ 2
        · rw [if_pos q3]
          exact ⟨fun _ => by omega, fun _ => rfl⟩
        · rw [if_neg q3]
          exact ⟨fun h => absurd h (by decide), fun h => by omega⟩
      · rw [if_neg q2, dfE_no (Or.inr q2), Nat.sub_self]
        refine ⟨fun h => ?_, fun h => by omega⟩
        split at h <;> exact absurd h (by decide)
theorem tk_3 {n q : Nat} {T : Nat → Int32} : tk n T q = 3 ↔ (q < n ∧ T q = 59) := by
  have e1 : ¬ ltB 59 = true := by decide
  have e2 : ¬ fgB 59 = true := by decide
  unfold tk
  by_cases w : n ≤ q
  · rw [if_pos w]
    exact ⟨fun h => absurd h (by decide), fun h => by omega⟩
  · rw [if_neg w]
    by_cases q3 : T q = 59
    · rw [q3, if_neg e1, if_neg e2, if_pos rfl]
      exact ⟨fun _ => ⟨by omega, rfl⟩, fun _ => rfl⟩
    · refine ⟨fun h => ?_, fun h => absurd h.2 q3⟩
      split at h
      · exact absurd h (by decide)
      · split at h
        · split at h <;> exact absurd h (by decide)
        · first
          | exact absurd h (by decide)
          | (rw [if_neg q3] at h; exact absurd h (by decide))
theorem nx_2 {n q : Nat} {T : Nat → Int32} (h : tk n T q = 2) : nx n T q = dfE n T q := by
  have h0 := tk_lt (T := T) (show ¬ tk n T q = 0 by rw [h]; decide)
  unfold tk at h
  unfold nx
  rw [if_neg (by omega)] at h ⊢
  by_cases q1 : ltB (T q) = true
  · rw [if_pos q1] at h; exact absurd h (by decide)
  · rw [if_neg q1] at h ⊢
    by_cases q2 : fgB (T q) = true
    · rw [if_pos q2]
    · rw [if_neg q2] at h
      split at h <;> exact absurd h (by decide)
theorem nx_3 {n q : Nat} {T : Nat → Int32} (h : tk n T q = 3) : nx n T q = q + 1 := by
  obtain ⟨h0, h1⟩ := tk_3.mp h
  have e1 : ¬ ltB 59 = true := by decide
  have e2 : ¬ fgB 59 = true := by decide
  unfold nx
  rw [if_neg (by omega), h1, if_neg e1, if_neg e2]
/-! the reader's tokens, in the same words -/
theorem step0_c {n : Nat} {T : Nat → Int32} (hn : n ≤ 150) : ∀ (t p fu : Nat) (σ : Sg), t + p = n → t < fu → rowIs σ 67 n T → rI σ 69 5 = nI p → ∃ τ, b_X8_step_0 fu σ = b_X8_step_43 τ ∧ rI τ 69 5 = nI (sk n T blB p) ∧ (∀ j, j ≠ 5 → rI τ 69 j = rI σ 69 j) ∧ Only 69 70 σ τ := by
  intro t
  induction t with
  | zero =>
    intro p fu σ ht hf hr hp
    obtain ⟨fu, rfl⟩ : ∃ q, fu = q + 1 := ⟨fu - 1, by omega⟩
    refine ⟨σ, ?_, by rw [sk_stop (by omega)]; exact hp, fun _ _ => rfl, Only.rf⟩
    rw [b_X8_step_0, size_in hr, hp, if_pos (nI_le (by omega) (by omega))]
  | succ t ih =>
    intro p fu σ ht hf hr hp
    obtain ⟨fu, rfl⟩ : ∃ q, fu = q + 1 := ⟨fu - 1, by omega⟩
    by_cases q : T p = 32
    · have o1 : Only 69 70 σ (stI σ 69 5 (nI (p + 1))) := Only.stI σ 69 5 _
      obtain ⟨τ, k1, k2, k3, k4⟩ := ih (p + 1) fu (stI σ 69 5 (nI (p + 1))) (by omega) (by omega) (hr.keep o1 (by omega)) (rI_eq _ _ _ _)
      refine ⟨τ, ?_, by rw [sk_yes (by omega) (decide_eq_true q)]; exact k2, fun j hj => by rw [k3 j hj, rI_nj _ _ hj], o1.trans k4⟩
      rw [b_X8_step_0, size_in hr, hp, if_neg (nI_ge (by omega) (by omega)), at_in hr (by omega), ob_some, if_pos q, nam_e, nI_1]
      exact k1
    · refine ⟨σ, ?_, by rw [sk_no (fun z => q (of_decide_eq_true z))]; exact hp, fun _ _ => rfl, Only.rf⟩
      rw [b_X8_step_0, size_in hr, hp, if_neg (nI_ge (by omega) (by omega)), at_in hr (by omega), ob_some, if_neg q]
theorem letters_c {n : Nat} {T : Nat → Int32} (hn : n ≤ 150) : ∀ (t p fu : Nat) (σ : Sg), t + p = n → t < fu → rowIs σ 67 n T → rI σ 69 5 = nI p → ∃ τ, b_X8_takeLetters_5 fu σ = some τ ∧ rI τ 69 5 = nI (sk n T ltB p) ∧ (∀ j, j ≠ 5 → rI τ 69 j = rI σ 69 j) ∧ Only 69 70 σ τ := by
  intro t
  induction t with
  | zero =>
    intro p fu σ ht hf hr hp
    obtain ⟨fu, rfl⟩ : ∃ q, fu = q + 1 := ⟨fu - 1, by omega⟩
    refine ⟨σ, ?_, by rw [sk_stop (by omega)]; exact hp, fun _ _ => rfl, Only.rf⟩
    rw [b_X8_takeLetters_5, size_in hr, hp, if_pos (nI_le (by omega) (by omega))]
  | succ t ih =>
    intro p fu σ ht hf hr hp
    obtain ⟨fu, rfl⟩ : ∃ q, fu = q + 1 := ⟨fu - 1, by omega⟩
    by_cases q : f_X8_isLetter (T p) = 0
    · refine ⟨σ, ?_, by rw [sk_no (fun z => absurd q (of_decide_eq_true z))]; exact hp, fun _ _ => rfl, Only.rf⟩
      rw [b_X8_takeLetters_5, size_in hr, hp, if_neg (nI_ge (by omega) (by omega)), at_in hr (by omega), ob_some, if_pos q]
    · have o1 : Only 69 70 σ (stI σ 69 5 (nI (p + 1))) := Only.stI σ 69 5 _
      obtain ⟨τ, k1, k2, k3, k4⟩ := ih (p + 1) fu (stI σ 69 5 (nI (p + 1))) (by omega) (by omega) (hr.keep o1 (by omega)) (rI_eq _ _ _ _)
      refine ⟨τ, ?_, by rw [sk_yes (by omega) (decide_eq_true q)]; exact k2, fun j hj => by rw [k3 j hj, rI_nj _ _ hj], o1.trans k4⟩
      rw [b_X8_takeLetters_5, size_in hr, hp, if_neg (nI_ge (by omega) (by omega)), at_in hr (by omega), ob_some, if_neg q, nam_e, nI_1]
      exact k1
theorem figures_c {n s : Nat} {T : Nat → Int32} (hn : n ≤ 150) : ∀ (t q fu : Nat) (σ : Sg) (v : Int32), t + q = n → t < fu → s ≤ q → rowIs σ 67 n T → rI σ 69 4 = nI s → rI σ 69 5 = nI q → rI σ 69 6 = v → ∃ τ, b_X8_takeFigures_5 fu σ = some τ ∧ rI τ 69 5 = nI (dgT T s t q v).1 ∧ rI τ 69 6 = (dgT T s t q v).2 ∧ rI τ 69 3 = (if (dgT T s t q v).1 - s ≤ 2 then 2 else 4) ∧ (∀ j, j ≠ 3 → j ≠ 5 → j ≠ 6 → rI τ 69 j = rI σ 69 j) ∧ Only 69 70 σ τ := by
  intro t
  have e95 : ∀ (q : Nat) (σ : Sg), s ≤ q → q ≤ n → rI σ 69 4 = nI s → rI σ 69 5 = nI q → b_X8_takeFigures_95 σ = some (stI σ 69 3 (if q - s ≤ 2 then 2 else 4)) := fun q σ h1 h2 h3 h4 => by
    unfold b_X8_takeFigures_95
    rw [h3, h4, pk_sub h1, L2, nam_e, nam_e]
    by_cases w : q - s ≤ 2
    · rw [if_neg (nI_nlt w (by omega)), if_pos w]
    · rw [if_pos (nI_lt (by omega) (by omega)), if_neg w]
  induction t with
  | zero =>
    intro q fu σ v ht hf hs hr h4 h5 h6
    obtain ⟨fu, rfl⟩ : ∃ q, fu = q + 1 := ⟨fu - 1, by omega⟩
    refine ⟨stI σ 69 3 (if q - s ≤ 2 then 2 else 4), ?_, by rw [rI_nj _ _ (by omega)]; exact h5, by rw [rI_nj _ _ (by omega)]; exact h6, rI_eq _ _ _ _, fun j h1 _ _ => rI_nj _ _ h1, Only.stI σ 69 3 _⟩
    rw [b_X8_takeFigures_5, size_in hr, h5, if_pos (nI_le (by omega) (by omega)), e95 q σ hs (by omega) h4 h5]
  | succ t ih =>
    intro q fu σ v ht hf hs hr h4 h5 h6
    obtain ⟨fu, rfl⟩ : ∃ q, fu = q + 1 := ⟨fu - 1, by omega⟩
    by_cases w : f_X8_isFigure (T q) = 0
    · have ed : dgT T s (t + 1) q v = (q, v) := by rw [dgT, if_neg (show ¬ fgB (T q) = true from fun z => absurd w (of_decide_eq_true z))]
      rw [ed]
      refine ⟨stI σ 69 3 (if q - s ≤ 2 then 2 else 4), ?_, by rw [rI_nj _ _ (by omega)]; exact h5, by rw [rI_nj _ _ (by omega)]; exact h6, rI_eq _ _ _ _, fun j h1 _ _ => rI_nj _ _ h1, Only.stI σ 69 3 _⟩
      rw [b_X8_takeFigures_5, size_in hr, h5, if_neg (nI_ge (by omega) (by omega)), at_in hr (by omega), ob_some, if_pos w, e95 q σ hs (by omega) h4 h5]
    · have ed : dgT T s (t + 1) q v = dgT T s t (q + 1) (if 2 ≤ q - s then v else ((10 * v) + T q) - 48) := by rw [dgT, if_pos (show fgB (T q) = true from decide_eq_true w)]
      rw [ed]
      have o1 : Only 69 70 σ (stI (stI σ 69 6 (if 2 ≤ q - s then v else ((10 * v) + T q) - 48)) 69 5 (nI (q + 1))) := (Only.stI σ 69 6 _).trans (Only.stI _ 69 5 _)
      obtain ⟨τ, k1, k2, k3, k4, k5, k6⟩ := ih (q + 1) fu (stI (stI σ 69 6 (if 2 ≤ q - s then v else ((10 * v) + T q) - 48)) 69 5 (nI (q + 1))) (if 2 ≤ q - s then v else ((10 * v) + T q) - 48) (by omega) (by omega) (by omega) (hr.keep o1 (by omega)) (by rw [rI_nj _ _ (by omega), rI_nj _ _ (by omega)]; exact h4) (rI_eq _ _ _ _) (by rw [rI_nj _ _ (by omega), rI_eq])
      refine ⟨τ, ?_, k2, k3, k4, fun j j1 j2 j3 => by rw [k5 j j1 j2 j3, rI_nj _ _ j2, rI_nj _ _ j3], o1.trans k6⟩
      rw [b_X8_takeFigures_5, size_in hr, h5, if_neg (nI_ge (by omega) (by omega)), at_in hr (by omega), ob_some, if_neg w, h4, pk_sub hs, ob_some, h6]
      unfold b_X8_takeFigures_79
      by_cases z : 2 ≤ q - s
      · rw [if_pos (show (2 : Int32) ≤ nI (q - s) from nI_le (a := 2) z (by omega)), nam_e, nam_e, rI_nj _ _ (by omega), h5, nI_1]
        rw [if_pos z] at k1
        exact k1
      · rw [if_neg (show ¬ (2 : Int32) ≤ nI (q - s) from nI_ge (b := 2) (by omega) (by omega)), nam_e, nam_e, rI_nj _ _ (by omega), h5, nI_1]
        rw [if_neg z] at k1
        exact k1
/-- the token that stands at p, blanks passed -/
def CK (n : Nat) (T : Nat → Int32) (σ : Sg) (p : Nat) : Prop := rI σ 69 3 = tk n T (sk n T blB p) ∧ rI σ 69 4 = nI (sk n T blB p) ∧ rI σ 69 5 = nI (nx n T (sk n T blB p)) ∧ (tk n T (sk n T blB p) = 2 → rI σ 69 6 = vl n T (sk n T blB p))
theorem step_c {n p : Nat} {T : Nat → Int32} {σ : Sg} (hn : n ≤ 150) (hr : rowIs σ 67 n T) (hp : rI σ 69 5 = nI p) (hpn : p ≤ n) : ∃ τ, f_X8_step σ = some τ ∧ CK n T τ p ∧ (∀ j, 7 ≤ j → rI τ 69 j = rI σ 69 j) ∧ Only 69 70 σ τ := by
  obtain ⟨s1, a1, b1, b2, c1⟩ := step0_c hn (n - p) p FU σ (by omega) (by unfold FU; omega) hr hp
  obtain ⟨q1, q2⟩ := sk_le T blB hpn
  unfold CK
  generalize hq : sk n T blB p = q at b1 q1 q2 ⊢
  have o2 : Only 69 70 s1 (stI s1 69 4 (nI q)) := Only.stI s1 69 4 _
  generalize hs2 : stI s1 69 4 (nI q) = s2 at o2
  have hr2 : rowIs s2 67 n T := (hr.keep c1 (by omega)).keep o2 (by omega)
  have e4 : rI s2 69 4 = nI q := by rw [← hs2, rI_eq]
  have e5 : rI s2 69 5 = nI q := by rw [← hs2, rI_nj _ _ (by omega)]; exact b1
  have eo : ∀ j, 7 ≤ j → rI s2 69 j = rI σ 69 j := fun j hj => by rw [← hs2, rI_nj _ _ (by omega)]; exact b2 j (by omega)
  have c12 : Only 69 70 σ s2 := c1.trans o2
  have e43 : f_X8_step σ = (f_X7_at s2 67 (nI q)).bind fun x2 => (if (nI q) < (f_X7_size s2 67) then (if (f_X8_isLetter x2) = 0 then (if (f_X8_isFigure x2) = 0 then (if x2 = 59 then b_X8_step_125 s2 3 else b_X8_step_125 s2 4) else (f_X8_takeFigures s2).bind fun s5 => (some s5)) else (f_X8_takeLetters s2).bind fun s6 => (some s6)) else nam (stI s2 69 3 0) fun s7 => (some s7)) := by
    refine (show f_X8_step σ = _ from a1).trans ?_
    unfold b_X8_step_43
    rw [b1, hs2, nam_e, e4]
  by_cases w : n ≤ q
  · have ht : tk n T q = 0 := if_pos w
    have hx : nx n T q = q := if_pos w
    refine ⟨stI s2 69 3 0, ?_, ⟨by rw [rI_eq, ht], by rw [rI_nj _ _ (by omega)]; exact e4, by rw [rI_nj _ _ (by omega), hx]; exact e5, fun h => by rw [ht] at h; exact absurd h (by decide)⟩, fun j hj => by rw [rI_nj _ _ (by omega)]; exact eo j hj, c12.trans (Only.stI s2 69 3 _)⟩
    rw [e43, at_out hr2 w (by omega), ob_some, size_in hr2, if_neg (nI_nlt w (by omega)), nam_e]
  · rw [at_in hr2 (by omega), ob_some, size_in hr2, if_pos (nI_lt (by omega) (by omega))] at e43
    by_cases z1 : f_X8_isLetter (T q) = 0
    · have nl : ¬ ltB (T q) = true := fun z => of_decide_eq_true z z1
      rw [if_pos z1] at e43
      by_cases z2 : f_X8_isFigure (T q) = 0
      · have nf : ¬ fgB (T q) = true := fun z => of_decide_eq_true z z2
        rw [if_pos z2] at e43
        have hx : nx n T q = q + 1 := by
          unfold nx
          rw [if_neg w, if_neg nl, if_neg nf]
        have h125 : ∀ v, tk n T q = v → v ≠ 2 → f_X8_step σ = b_X8_step_125 s2 v → ∃ τ, f_X8_step σ = some τ ∧ (rI τ 69 3 = tk n T q ∧ rI τ 69 4 = nI q ∧ rI τ 69 5 = nI (nx n T q) ∧ (tk n T q = 2 → rI τ 69 6 = vl n T q)) ∧ (∀ j, 7 ≤ j → rI τ 69 j = rI σ 69 j) ∧ Only 69 70 σ τ := fun v hv hv2 he => by
          refine ⟨stI (stI s2 69 3 v) 69 5 (nI (q + 1)), ?_, ⟨by rw [rI_nj _ _ (by omega), rI_eq, hv], by rw [rI_nj _ _ (by omega), rI_nj _ _ (by omega)]; exact e4, by rw [rI_eq, hx], fun h => absurd (hv.symm.trans h) hv2⟩, fun j hj => by rw [rI_nj _ _ (by omega), rI_nj _ _ (by omega)]; exact eo j hj, (c12.trans (Only.stI s2 69 3 _)).trans (Only.stI _ 69 5 _)⟩
          rw [he]
          unfold b_X8_step_125
          rw [nam_e, nam_e, rI_nj _ _ (by omega), e5, nI_1]
        by_cases z3 : T q = 59
        · rw [if_pos z3] at e43
          exact h125 3 (by unfold tk; rw [if_neg w, if_neg nl, if_neg nf, if_pos z3]) (by decide) e43
        · rw [if_neg z3] at e43
          exact h125 4 (by unfold tk; rw [if_neg w, if_neg nl, if_neg nf, if_neg z3]) (by decide) e43
      · have yf : fgB (T q) = true := decide_eq_true z2
        rw [if_neg z2] at e43
        have o3 : Only 69 70 s2 (stI s2 69 6 0) := Only.stI s2 69 6 _
        obtain ⟨s3, a3, b3, b4, b5, b6, c3⟩ := figures_c (s := q) hn (n - q) q FU (stI s2 69 6 0) 0 (by omega) (by unfold FU; omega) (Nat.le_refl _) (hr2.keep o3 (by omega)) (by rw [rI_nj _ _ (by omega)]; exact e4) (by rw [rI_nj _ _ (by omega)]; exact e5) (rI_eq _ _ _ _)
        have hx : nx n T q = dfE n T q := by
          unfold nx
          rw [if_neg w, if_neg nl, if_pos yf]
        have ht : tk n T q = if dfE n T q - q ≤ 2 then 2 else 4 := by
          unfold tk
          rw [if_neg w, if_neg nl, if_pos yf]
        refine ⟨s3, ?_, ⟨by rw [ht]; exact b5, by rw [b6 4 (by omega) (by omega) (by omega), rI_nj _ _ (by omega)]; exact e4, by rw [hx]; exact b3, fun _ => b4⟩, fun j hj => by rw [b6 j (by omega) (by omega) (by omega), rI_nj _ _ (by omega)]; exact eo j hj, (c12.trans o3).trans c3⟩
        rw [e43]
        unfold f_X8_takeFigures
        rw [nam_e, a3, ob_some]
    · have yl : ltB (T q) = true := decide_eq_true z1
      rw [if_neg z1] at e43
      have o3 : Only 69 70 s2 (stI s2 69 3 1) := Only.stI s2 69 3 _
      obtain ⟨s3, a3, b3, b4, c3⟩ := letters_c hn (n - q) q FU (stI s2 69 3 1) (by omega) (by unfold FU; omega) (hr2.keep o3 (by omega)) (by rw [rI_nj _ _ (by omega)]; exact e5)
      have hx : nx n T q = sk n T ltB q := by
        unfold nx
        rw [if_neg w, if_pos yl]
      have ht : tk n T q = 1 := by
        unfold tk
        rw [if_neg w, if_pos yl]
      refine ⟨s3, ?_, ⟨by rw [ht, b4 3 (by omega), rI_eq], by rw [b4 4 (by omega), rI_nj _ _ (by omega)]; exact e4, by rw [hx]; exact b3, fun h => by rw [ht] at h; exact absurd h (by decide)⟩, fun j hj => by rw [b4 j (by omega), rI_nj _ _ (by omega)]; exact eo j hj, (c12.trans o3).trans c3⟩
      rw [e43]
      unfold f_X8_takeLetters
      rw [nam_e, a3, ob_some]
/-! the reference's scan -/
def RK (n : Nat) (T : Nat → Int32) (τ : Sg) : Prop := rI τ 112 3 = nI n ∧ rI τ 115 = T
def Pb (a j : Nat) : Prop := a = 112 ∧ 6 ≤ j
theorem RK_k {n : Nat} {T : Nat → Int32} {τ υ : Sg} (h : RK n T τ) (hu : Un Pb τ υ) : RK n T υ := ⟨by rw [(hu 112 3 (by unfold Pb; omega)).1]; exact h.1, (funext (fun j => (hu 115 j (by unfold Pb; omega)).1)).trans h.2⟩
def bt (n : Nat) (T : Nat → Int32) (p : Nat) : Int32 := if p < n then T p else -1
theorem i115 {n : Nat} (h : n < 150) : inb (nI n) (kLen 115) = true := inb_nI h (by decide)
theorem byte_r {n p : Nat} {T : Nat → Int32} {τ : Sg} (hn : n ≤ 150) (h : RK n T τ) (hp : p < 2 ^ 31) : f_X12_byteAt τ (nI p) = some (bt n T p) := by
  unfold f_X12_byteAt bt
  rw [h.1, h.2]
  by_cases q : p < n
  · rw [if_neg (nI_ge q (by omega)), if_pos (i115 (by omega)), if_pos q, ix_nI hp]
  · rw [if_pos (nI_le (by omega) hp), if_neg q]
theorem blanks_loop {n : Nat} {T : Nat → Int32} (hn : n ≤ 150) : ∀ (t p fu : Nat) (τ : Sg), t + p = n → t < fu → RK n T τ → rI τ 112 7 = nI p → ∃ υ, b_X12_blanks_0 fu τ = some υ ∧ rI υ 112 7 = nI (sk n T blB p) ∧ rI υ 112 8 = nI (sk n T blB p) ∧ Un Pb τ υ := by
  intro t
  have fin : ∀ (p fu : Nat) (τ : Sg), p ≤ n → RK n T τ → rI τ 112 7 = nI p → ¬ bt n T p = 32 → sk n T blB p = p → ∃ υ, b_X12_blanks_0 (fu + 1) τ = some υ ∧ rI υ 112 7 = nI (sk n T blB p) ∧ rI υ 112 8 = nI (sk n T blB p) ∧ Un Pb τ υ := fun p fu τ hpn h hp hb hs => by
    refine ⟨stI τ 112 8 (nI p), ?_, by rw [rI_nj _ _ (by omega), hs]; exact hp, by rw [rI_eq, hs], Un.stI _ _ _ _ ⟨rfl, by omega⟩⟩
    rw [b_X12_blanks_0, hp, byte_r hn h (by omega), ob_some, if_neg hb, nam_e]
  induction t with
  | zero =>
    intro p fu τ ht hf h hp
    obtain ⟨fu, rfl⟩ : ∃ q, fu = q + 1 := ⟨fu - 1, by omega⟩
    exact fin p fu τ (by omega) h hp (by unfold bt; rw [if_neg (by omega)]; decide) (sk_stop (by omega))
  | succ t ih =>
    intro p fu τ ht hf h hp
    obtain ⟨fu, rfl⟩ : ∃ q, fu = q + 1 := ⟨fu - 1, by omega⟩
    have hb : bt n T p = T p := if_pos (by omega)
    by_cases q : T p = 32
    · have u1 : Un Pb τ (stI τ 112 7 (nI (p + 1))) := Un.stI _ _ _ _ ⟨rfl, by omega⟩
      obtain ⟨υ, k1, k2, k3, k4⟩ := ih (p + 1) fu (stI τ 112 7 (nI (p + 1))) (by omega) (by omega) (RK_k h u1) (rI_eq _ _ _ _)
      rw [sk_yes (by omega) (show blB (T p) = true from decide_eq_true q)]
      refine ⟨υ, ?_, k2, k3, u1.trans k4⟩
      rw [b_X12_blanks_0, hp, byte_r hn h (by omega), ob_some, hb, if_pos q, nam_e, nI_1]
      exact k1
    · exact fin p fu τ (by omega) h hp (by rw [hb]; exact q) (sk_no (fun z => q (of_decide_eq_true z)))
theorem blanks_r {n p : Nat} {T : Nat → Int32} {τ : Sg} (hn : n ≤ 150) (h : RK n T τ) (hp : rI τ 112 7 = nI p) (hpn : p ≤ n) : ∃ υ, f_X12_blanks τ = some υ ∧ rI υ 112 7 = nI (sk n T blB p) ∧ rI υ 112 8 = nI (sk n T blB p) ∧ Un Pb τ υ := blanks_loop hn (n - p) p FU τ (by omega) (by unfold FU; omega) h hp
theorem lett_loop {n : Nat} {T : Nat → Int32} (hn : n ≤ 150) : ∀ (t p fu : Nat) (τ : Sg), t + p = n → t < fu → RK n T τ → rI τ 112 7 = nI p → ∃ υ, b_X12_takesWord_4 fu τ = some υ ∧ rI υ 112 7 = nI (sk n T ltB p) ∧ rI υ 112 8 = rI τ 112 8 ∧ Un Pb τ υ := by
  intro t
  induction t with
  | zero =>
    intro p fu τ ht hf h hp
    obtain ⟨fu, rfl⟩ : ∃ q, fu = q + 1 := ⟨fu - 1, by omega⟩
    refine ⟨τ, ?_, by rw [sk_stop (by omega)]; exact hp, rfl, Un.rf⟩
    rw [b_X12_takesWord_4, hp, byte_r hn h (by omega), ob_some, in_97_122, show bt n T p = -1 from if_neg (by omega), if_pos (by decide)]
  | succ t ih =>
    intro p fu τ ht hf h hp
    obtain ⟨fu, rfl⟩ : ∃ q, fu = q + 1 := ⟨fu - 1, by omega⟩
    have hb : bt n T p = T p := if_pos (by omega)
    by_cases q : f_X8_isLetter (T p) = 0
    · refine ⟨τ, ?_, by rw [sk_no (fun z => absurd q (of_decide_eq_true z))]; exact hp, rfl, Un.rf⟩
      rw [b_X12_takesWord_4, hp, byte_r hn h (by omega), ob_some, in_97_122, hb, if_pos (show f_X11_between (T p) 97 122 = 0 from q)]
    · have u1 : Un Pb τ (stI τ 112 7 (nI (p + 1))) := Un.stI _ _ _ _ ⟨rfl, by omega⟩
      obtain ⟨υ, k1, k2, k3, k4⟩ := ih (p + 1) fu (stI τ 112 7 (nI (p + 1))) (by omega) (by omega) (RK_k h u1) (rI_eq _ _ _ _)
      rw [sk_yes (by omega) (show ltB (T p) = true from decide_eq_true q)]
      refine ⟨υ, ?_, k2, by rw [k3, rI_nj _ _ (by omega)], u1.trans k4⟩
      rw [b_X12_takesWord_4, hp, byte_r hn h (by omega), ob_some, in_97_122, hb, if_neg (show ¬ f_X11_between (T p) 97 122 = 0 from q), nam_e, nI_1]
      exact k1
theorem word_r {n p : Nat} {T : Nat → Int32} {τ : Sg} (hn : n ≤ 150) (h : RK n T τ) (hp : rI τ 112 7 = nI p) (hpn : p ≤ n) : ∃ υ, f_X12_takesWord τ = some υ ∧ rI υ 112 7 = nI (sk n T ltB (sk n T blB p)) ∧ rI υ 112 8 = nI (sk n T blB p) ∧ Un Pb τ υ := by
  obtain ⟨s1, a1, b1, b2, c1⟩ := blanks_r hn h hp hpn
  obtain ⟨q1, q2⟩ := sk_le T blB hpn
  obtain ⟨υ, k1, k2, k3, k4⟩ := lett_loop hn (n - sk n T blB p) (sk n T blB p) FU s1 (by omega) (by unfold FU; omega) (RK_k h c1) b1
  refine ⟨υ, ?_, k2, k3.trans b2, c1.trans k4⟩
  unfold f_X12_takesWord
  rw [a1, ob_some]
  exact k1
theorem digits_r {n s : Nat} {T : Nat → Int32} (lo hi : Int32) (hn : n ≤ 150) : ∀ (t q fu : Nat) (τ : Sg) (v : Int32), t + q = n → t < fu → s ≤ q → RK n T τ → rI τ 112 7 = nI q → rI τ 112 8 = nI s → rI τ 112 9 = v → ∃ υ, b_X12_takesNumber_9 lo hi fu τ = (if f_X11_between (nI ((dgT T s t q v).1 - s)) 1 2 = 0 then some (0, υ) else (if f_X11_between (dgT T s t q v).2 lo hi = 0 then some (0, υ) else some (1, υ))) ∧ rI υ 112 7 = nI (dgT T s t q v).1 ∧ rI υ 112 8 = nI s ∧ rI υ 112 9 = (dgT T s t q v).2 ∧ Un Pb τ υ := by
  intro t
  have fin : ∀ (q fu : Nat) (τ : Sg) (v : Int32), q ≤ n → s ≤ q → RK n T τ → rI τ 112 7 = nI q → rI τ 112 8 = nI s → rI τ 112 9 = v → f_X11_between (bt n T q) 48 57 = 0 → b_X12_takesNumber_9 lo hi (fu + 1) τ = (if f_X11_between (nI (q - s)) 1 2 = 0 then some (0, τ) else (if f_X11_between v lo hi = 0 then some (0, τ) else some (1, τ))) := fun q fu τ v hq hs h h7 h8 h9 hb => by
    rw [b_X12_takesNumber_9, h7, byte_r hn h (by omega), ob_some, in_48_57, if_pos hb, h8, pk_sub hs, in_1_2, h9, in_btw]
  induction t with
  | zero =>
    intro q fu τ v ht hf hs h h7 h8 h9
    obtain ⟨fu, rfl⟩ : ∃ q, fu = q + 1 := ⟨fu - 1, by omega⟩
    exact ⟨τ, fin q fu τ v (by omega) hs h h7 h8 h9 (by unfold bt; rw [if_neg (by omega)]; decide), h7, h8, h9, Un.rf⟩
  | succ t ih =>
    intro q fu τ v ht hf hs h h7 h8 h9
    obtain ⟨fu, rfl⟩ : ∃ q, fu = q + 1 := ⟨fu - 1, by omega⟩
    have hb : bt n T q = T q := if_pos (by omega)
    by_cases w : f_X8_isFigure (T q) = 0
    · have ed : dgT T s (t + 1) q v = (q, v) := by rw [dgT, if_neg (show ¬ fgB (T q) = true from fun z => absurd w (of_decide_eq_true z))]
      rw [ed]
      exact ⟨τ, fin q fu τ v (by omega) hs h h7 h8 h9 (by rw [hb]; exact w), h7, h8, h9, Un.rf⟩
    · have ed : dgT T s (t + 1) q v = dgT T s t (q + 1) (if 2 ≤ q - s then v else ((10 * v) + T q) - 48) := by rw [dgT, if_pos (show fgB (T q) = true from decide_eq_true w)]
      rw [ed]
      have u1 : Un Pb τ (stI (stI τ 112 9 (if 2 ≤ q - s then v else ((10 * v) + T q) - 48)) 112 7 (nI (q + 1))) := (Un.stI _ _ _ _ ⟨rfl, by omega⟩).trans (Un.stI _ _ _ _ ⟨rfl, by omega⟩)
      obtain ⟨υ, k1, k2, k3, k4, k5⟩ := ih (q + 1) fu (stI (stI τ 112 9 (if 2 ≤ q - s then v else ((10 * v) + T q) - 48)) 112 7 (nI (q + 1))) (if 2 ≤ q - s then v else ((10 * v) + T q) - 48) (by omega) (by omega) (by omega) (RK_k h u1) (rI_eq _ _ _ _) (by rw [rI_nj _ _ (by omega), rI_nj _ _ (by omega)]; exact h8) (by rw [rI_nj _ _ (by omega), rI_eq])
      refine ⟨υ, ?_, k2, k3, k4, u1.trans k5⟩
      rw [b_X12_takesNumber_9, h7, byte_r hn h (by omega), ob_some, in_48_57, hb, if_neg (show ¬ f_X11_between (T q) 48 57 = 0 from w), h8, pk_sub hs, h9, ob_some]
      unfold b_X12_takesNumber_70
      by_cases z : 2 ≤ q - s
      · rw [if_pos (show (2 : Int32) ≤ nI (q - s) from nI_le (a := 2) z (by omega)), nam_e, nam_e, rI_nj _ _ (by omega), h7, nI_1]
        rw [if_pos z] at k1 ⊢
        exact k1
      · rw [if_neg (show ¬ (2 : Int32) ≤ nI (q - s) from nI_ge (b := 2) (by omega) (by omega)), nam_e, nam_e, rI_nj _ _ (by omega), h7, nI_1]
        rw [if_neg z] at k1 ⊢
        exact k1
theorem num_r {n p : Nat} {T : Nat → Int32} {τ : Sg} (lo hi : Int32) (hn : n ≤ 150) (h : RK n T τ) (hp : rI τ 112 7 = nI p) (hpn : p ≤ n) : ∃ υ, f_X12_takesNumber τ lo hi = some (if tk n T (sk n T blB p) = 2 ∧ ¬ f_X11_between (vl n T (sk n T blB p)) lo hi = 0 then 1 else 0, υ) ∧ rI υ 112 8 = nI (sk n T blB p) ∧ (tk n T (sk n T blB p) = 2 → rI υ 112 7 = nI (nx n T (sk n T blB p)) ∧ rI υ 112 9 = vl n T (sk n T blB p)) ∧ Un Pb τ υ := by
  obtain ⟨s1, a1, b1, b2, c1⟩ := blanks_r hn h hp hpn
  obtain ⟨q1, q2⟩ := sk_le T blB hpn
  generalize sk n T blB p = q at b1 b2 q1 q2 ⊢
  have u1 : Un Pb s1 (stI s1 112 9 0) := Un.stI _ _ _ _ ⟨rfl, by omega⟩
  obtain ⟨υ, k1, k2, k3, k4, k5⟩ := digits_r (s := q) lo hi hn (n - q) q FU (stI s1 112 9 0) 0 (by omega) (by unfold FU; omega) (Nat.le_refl _) (RK_k h (c1.trans u1)) (by rw [rI_nj _ _ (by omega)]; exact b1) (by rw [rI_nj _ _ (by omega)]; exact b2) (rI_eq _ _ _ _)
  refine ⟨υ, ?_, k3, fun ht => ⟨by rw [nx_2 ht]; exact k2, k4⟩, (c1.trans u1).trans k5⟩
  unfold f_X12_takesNumber
  rw [a1, ob_some, nam_e]
  refine k1.trans ?_
  show (if f_X11_between (nI (dfE n T q - q)) 1 2 = 0 then some (0, υ) else (if f_X11_between (vl n T q) lo hi = 0 then some (0, υ) else some (1, υ))) = _
  have hd := dgT_in T q (n - q) q 0
  have hd2 : dfE n T q - q ≤ 150 := by
    show (dgT T q (n - q) q 0).1 - q ≤ 150
    omega
  have e1 : (1 : Int32).toInt = 1 := rfl
  have e2 : (2 : Int32).toInt = 2 := rfl
  by_cases w : tk n T q = 2
  · have := tk_2.mp w
    rw [if_neg (show ¬ f_X11_between (nI (dfE n T q - q)) 1 2 = 0 by rw [btw_iff, tN (by omega)]; omega)]
    by_cases z : f_X11_between (vl n T q) lo hi = 0
    · rw [if_pos z, if_neg (fun y => y.2 z)]
    · rw [if_neg z, if_pos ⟨w, z⟩]
  · have h0 : f_X11_between (nI (dfE n T q - q)) 1 2 = 0 := by
      rw [btw_iff, tN (by omega)]
      have h3 : ¬ (1 ≤ dfE n T q - q ∧ dfE n T q - q ≤ 2) := fun y => w (tk_2.mpr y)
      omega
    rw [if_pos h0, if_neg (fun y => w y.1)]
theorem end_r {n p : Nat} {T : Nat → Int32} {τ : Sg} (hn : n ≤ 150) (h : RK n T τ) (hp : rI τ 112 7 = nI p) (hpn : p ≤ n) : ∃ υ, f_X12_takesEnd τ = some (if tk n T (sk n T blB p) = 3 then 1 else 0, υ) ∧ rI υ 112 8 = nI (sk n T blB p) ∧ rI υ 112 7 = nI (sk n T blB p + 1) ∧ Un Pb τ υ := by
  obtain ⟨s1, a1, b1, b2, c1⟩ := blanks_r hn h hp hpn
  obtain ⟨q1, q2⟩ := sk_le T blB hpn
  generalize sk n T blB p = q at b1 b2 q1 q2 ⊢
  have u1 : Un Pb s1 (stI s1 112 7 (nI (q + 1))) := Un.stI _ _ _ _ ⟨rfl, by omega⟩
  have e8 : rI (stI s1 112 7 (nI (q + 1))) 112 8 = nI q := by rw [rI_nj _ _ (by omega)]; exact b2
  refine ⟨stI s1 112 7 (nI (q + 1)), ?_, e8, rI_eq _ _ _ _, c1.trans u1⟩
  unfold f_X12_takesEnd
  rw [a1, ob_some, b1, nI_1, nam_e, e8, byte_r hn (RK_k h (c1.trans u1)) (by omega), ob_some]
  by_cases w : tk n T q = 3
  · obtain ⟨w1, w2⟩ := tk_3.mp w
    rw [if_pos (show bt n T q = 59 by unfold bt; rw [if_pos w1]; exact w2), if_pos w]
  · have : ¬ bt n T q = 59 := fun z => by
      unfold bt at z
      by_cases y : q < n
      · rw [if_pos y] at z
        exact w (tk_3.mpr ⟨y, z⟩)
      · rw [if_neg y] at z
        exact absurd z (by decide)
    rw [if_neg this, if_neg w]
