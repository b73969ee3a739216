/-- what the stones l against r would show with keeper k's stone off by b -/
def tiG (g : Nat → Int32) (n : Nat) (l r : Int32) (k : Nat) (b : Int32) : Int32 := f_X12_trueTip (sm (fun j => g (25 + j)) l n + (if f_X12_has l (nI k) = 0 then (0 : Int32) else b)) (sm (fun j => g (25 + j)) r n + (if f_X12_has r (nI k) = 0 then (0 : Int32) else b))
theorem ti_c {σ : Sg} {k0 n k : Nat} {g : Nat → Int32} (h : rowIs σ k0 n (fun j => g (25 + j))) (hn : n ≤ 7) (hk : k < 32) (l r b : Int32) : f_X1_tipIfOff σ k0 l r (nI k) b = some (tiG g n l r k b) := by
  have e1 := sumOf_in l h (by omega)
  have e2 := sumOf_in r h (by omega)
  unfold f_X1_tipIfOff b_X1_tipIfOff_19 b_X1_tipIfOff_41 tiG
  rw [e1, ob_some, hasBit_has _ hk, hasBit_has _ hk]
  simp only [nam_e, e2, ob_some, tip_same]
  by_cases q1 : f_X12_has l (nI k) = 0 <;> by_cases q2 : f_X12_has r (nI k) = 0 <;> simp only [q1, q2, if_true, if_false]
def pR (g : Nat → Int32) (n k : Nat) (b : Int32) (i : Nat) : Bool := decide (tiG g n (g (44 + 3 * i)) (g (44 + (3 * i + 1))) k b = g (44 + (3 * i + 2)))
theorem fitR_c {σ : Sg} {n c k : Nat} {g : Nat → Int32} (b : Int32) (hh : rowIs σ 6 n (fun j => g (25 + j))) (hr : rowIs σ 10 (3 * c) (fun j => g (44 + j))) (hn : n ≤ 7) (hc : c ≤ 6) (hk : k < 32) : ∀ (t i fu : Nat), t + i = c → t < fu → b_X1_fitsReadings_8 σ 1 (nI k) b fu (nI (3 * i)) = some (b2i (allF (pR g n k b) i t)) := by
  intro t
  induction t with
  | zero =>
    intro i fu ht hf
    obtain ⟨fu, rfl⟩ : ∃ q, fu = q + 1 := ⟨fu - 1, by omega⟩
    rw [b_X1_fitsReadings_8, show f_X7_size σ (1 + 9) = _ from hr.2.1, L2, nI_add, if_pos (nI_le (by omega) (by omega))]
    rfl
  | succ t ih =>
    intro i fu ht hf
    obtain ⟨fu, rfl⟩ : ∃ q, fu = q + 1 := ⟨fu - 1, by omega⟩
    have ih' := ih (i + 1) fu (by omega) (by omega)
    rw [show 3 * (i + 1) = 3 * i + 3 by omega] at ih'
    have u0 : f_X7_at σ (1 + 9) (nI (3 * i)) = _ := at_in hr (by omega)
    have u1 : f_X7_at σ (1 + 9) (nI (3 * i + 1)) = _ := at_in hr (by omega)
    have u2 : f_X7_at σ (1 + 9) (nI (3 * i + 2)) = _ := at_in hr (by omega)
    have ut : ∀ l r, f_X1_tipIfOff σ (1 + 5) l r (nI k) b = _ := fun l r => ti_c (k0 := 6) hh hn hk l r b
    rw [b_X1_fitsReadings_8, show f_X7_size σ (1 + 9) = _ from hr.2.1, L2, nI_add, if_neg (nI_ge (by omega) (by omega)), u0, ob_some, L1, nI_add, u1, ob_some, ut, ob_some, u2, ob_some, nam_e, L3, nI_add, ih', allF_s]
    by_cases q : tiG g n (g (44 + 3 * i)) (g (44 + (3 * i + 1))) k b = g (44 + (3 * i + 2))
    · have : pR g n k b i = true := decide_eq_true q
      rw [if_pos q, this, Bool.true_and]
    · have : pR g n k b i = false := decide_eq_false q
      rw [if_neg q, this, Bool.false_and]
      rfl
theorem fitR_r {σ : Sg} {n c k : Nat} (b : Int32) (hN : rI σ 113 0 = nI n) (hC : rI σ 113 43 = nI c) (hn : n ≤ 7) (hc : c ≤ 6) : ∀ (t i fu : Nat) (s : Bool), t + i = c → t < fu → b_X12_wasRead_5 σ (nI k) b fu (b2i s) (nI i) = some (b2i (s && allF (pR (rI σ 113) n k b) i t)) := by
  intro t
  induction t with
  | zero =>
    intro i fu s ht hf
    obtain ⟨fu, rfl⟩ : ∃ q, fu = q + 1 := ⟨fu - 1, by omega⟩
    rw [b_X12_wasRead_5, if_pos (show inb 43 (kLen 113) = true from i113 (n := 43) (by omega)), show rI σ 113 (ix 43) = nI c from hC, if_pos (nI_le (by omega) (by omega))]
    cases s <;> rfl
  | succ t ih =>
    intro i fu s ht hf
    obtain ⟨fu, rfl⟩ : ∃ q, fu = q + 1 := ⟨fu - 1, by omega⟩
    have iT := ih (i + 1) fu true (by omega) (by omega)
    have iF := ih (i + 1) fu false (by omega) (by omega)
    rw [show b2i true = 1 from rfl, Bool.true_and] at iT
    rw [show b2i false = 0 from rfl, Bool.false_and] at iF
    have es : ∀ l, f_X12_sumOf σ 25 l = _ := fun l => sumR (q := 25) l hN hn (by omega)
    rw [b_X12_wasRead_5, if_pos (show inb 43 (kLen 113) = true from i113 (n := 43) (by omega)), show rI σ 113 (ix 43) = nI c from hC, if_neg (nI_ge (by omega) (by omega)), allF_s]
    unfold b_X12_wasRead_69 b_X12_wasRead_94 b_X12_wasRead_129 b_X12_wasRead_130
    have i0 : inb (44 + 3 * nI i) (kLen 113) = true := by rw [L44, L3, pk_mul, nI_add]; exact i113 (by omega)
    have i1 : inb (44 + 3 * nI i + 1) (kLen 113) = true := by rw [L44, L3, pk_mul, nI_add, nI_1]; exact i113 (by omega)
    have i2 : inb (44 + 3 * nI i + 2) (kLen 113) = true := by rw [L44, L3, L2, pk_mul, nI_add, nI_add]; exact i113 (by omega)
    have x0 : ix (44 + 3 * nI i) = 44 + 3 * i := by rw [L44, L3, pk_mul, nI_add]; exact ix_nI (by omega)
    have x1 : ix (44 + 3 * nI i + 1) = 44 + (3 * i + 1) := by rw [L44, L3, pk_mul, nI_add, nI_1, Nat.add_assoc]; exact ix_nI (by omega)
    have x2 : ix (44 + 3 * nI i + 2) = 44 + (3 * i + 2) := by rw [L44, L3, L2, pk_mul, nI_add, nI_add, Nat.add_assoc]; exact ix_nI (by omega)
    simp only [i0, i1, i2, x0, x1, x2, if_true, nam_e, es, ob_some, nI_1, iT, iF]
    have key : ∀ A B : Option Int32, (if b2i s = 0 then A else if tiG (rI σ 113) n (rI σ 113 (44 + 3 * i)) (rI σ 113 (44 + (3 * i + 1))) k b = rI σ 113 (44 + (3 * i + 2)) then B else A) = if (s && pR (rI σ 113) n k b i) = true then B else A := fun A B => by
      cases s with
      | false => rfl
      | true =>
        rw [if_neg (show ¬ b2i true = 0 by decide), Bool.true_and]
        by_cases q : tiG (rI σ 113) n (rI σ 113 (44 + 3 * i)) (rI σ 113 (44 + (3 * i + 1))) k b = rI σ 113 (44 + (3 * i + 2))
        · rw [if_pos q, if_pos (show pR (rI σ 113) n k b i = true from decide_eq_true q)]
        · rw [if_neg q, if_neg (show ¬ pR (rI σ 113) n k b i = true from fun z => q (of_decide_eq_true z))]
    have fin : (if (s && pR (rI σ 113) n k b i) = true then some (b2i (allF (pR (rI σ 113) n k b) (i + 1) t)) else some 0) = some (b2i (s && (pR (rI σ 113) n k b i && allF (pR (rI σ 113) n k b) (i + 1) t))) := by
      rw [← Bool.and_assoc]
      cases (s && pR (rI σ 113) n k b i) with
      | false => rw [if_neg (by decide), Bool.false_and]; rfl
      | true => rw [if_pos rfl, Bool.true_and]
    rw [← fin, ← key]
    unfold tiG
    by_cases q1 : f_X12_has (rI σ 113 (44 + 3 * i)) (nI k) = 0 <;> by_cases q2 : f_X12_has (rI σ 113 (44 + (3 * i + 1))) (nI k) = 0 <;> simp only [q1, q2, if_true, if_false] <;> rfl
