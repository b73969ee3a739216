/-! ===== read: the five words ===== -/
def lwB (T : Nat → Int32) (q L : Nat) : Nat → List Int32 → Bool
  | _, [] => !decide (8 ≤ L)
  | k, c :: cs => (if c = 0 then !decide (k < L) else (!decide (L ≤ k)) && decide (T (q + k) = c)) && lwB T q L (k + 1) cs
theorem zl_97 : ((97 : Int32) = 0) = False := eq_false (by decide)
theorem zl_98 : ((98 : Int32) = 0) = False := eq_false (by decide)
theorem zl_99 : ((99 : Int32) = 0) = False := eq_false (by decide)
theorem zl_100 : ((100 : Int32) = 0) = False := eq_false (by decide)
theorem zl_101 : ((101 : Int32) = 0) = False := eq_false (by decide)
theorem zl_107 : ((107 : Int32) = 0) = False := eq_false (by decide)
theorem zl_108 : ((108 : Int32) = 0) = False := eq_false (by decide)
theorem zl_109 : ((109 : Int32) = 0) = False := eq_false (by decide)
theorem zl_110 : ((110 : Int32) = 0) = False := eq_false (by decide)
theorem zl_111 : ((111 : Int32) = 0) = False := eq_false (by decide)
theorem zl_112 : ((112 : Int32) = 0) = False := eq_false (by decide)
theorem zl_114 : ((114 : Int32) = 0) = False := eq_false (by decide)
theorem zl_115 : ((115 : Int32) = 0) = False := eq_false (by decide)
theorem zl_116 : ((116 : Int32) = 0) = False := eq_false (by decide)
theorem zl_121 : ((121 : Int32) = 0) = False := eq_false (by decide)
theorem wq_0 (T : Nat → Int32) (q L : Nat) : (decide (L = 6) && allF (fun i => decide (T (q + i) = f_charAt 0 (nI i))) 0 6) = lwB T q L 0 [109, 97, 114, 107, 101, 116, 0] := by
  have c0 : f_charAt 0 (nI 0) = 109 := by decide
  have c1 : f_charAt 0 (nI 1) = 97 := by decide
  have c2 : f_charAt 0 (nI 2) = 114 := by decide
  have c3 : f_charAt 0 (nI 3) = 107 := by decide
  have c4 : f_charAt 0 (nI 4) = 101 := by decide
  have c5 : f_charAt 0 (nI 5) = 116 := by decide
  simp only [allF, lwB, c0, c1, c2, c3, c4, c5, zl_97, zl_98, zl_99, zl_100, zl_101, zl_107, zl_108, zl_109, zl_110, zl_111, zl_112, zl_114, zl_115, zl_116, zl_121, if_false, if_true, Bool.and_true, Nat.zero_add, Nat.reduceAdd]
  rw [Bool.eq_iff_iff]
  simp only [Bool.and_eq_true, Bool.not_eq_true', decide_eq_true_eq, decide_eq_false_iff_not]
  constructor
  · rintro ⟨h, a0, a1, a2, a3, a4, a5⟩
    exact ⟨⟨by omega, a0⟩, ⟨by omega, a1⟩, ⟨by omega, a2⟩, ⟨by omega, a3⟩, ⟨by omega, a4⟩, ⟨by omega, a5⟩, by omega, by omega⟩
  · rintro ⟨⟨h0, a0⟩, ⟨h1, a1⟩, ⟨h2, a2⟩, ⟨h3, a3⟩, ⟨h4, a4⟩, ⟨h5, a5⟩, g0, g1⟩
    exact ⟨by omega, a0, a1, a2, a3, a4, a5⟩
theorem wq_1 (T : Nat → Int32) (q L : Nat) : (decide (L = 6) && allF (fun i => decide (T (q + i) = f_charAt 1 (nI i))) 0 6) = lwB T q L 0 [107, 101, 101, 112, 101, 114, 0] := by
  have c0 : f_charAt 1 (nI 0) = 107 := by decide
  have c1 : f_charAt 1 (nI 1) = 101 := by decide
  have c2 : f_charAt 1 (nI 2) = 101 := by decide
  have c3 : f_charAt 1 (nI 3) = 112 := by decide
  have c4 : f_charAt 1 (nI 4) = 101 := by decide
  have c5 : f_charAt 1 (nI 5) = 114 := by decide
  simp only [allF, lwB, c0, c1, c2, c3, c4, c5, zl_97, zl_98, zl_99, zl_100, zl_101, zl_107, zl_108, zl_109, zl_110, zl_111, zl_112, zl_114, zl_115, zl_116, zl_121, if_false, if_true, Bool.and_true, Nat.zero_add, Nat.reduceAdd]
  rw [Bool.eq_iff_iff]
  simp only [Bool.and_eq_true, Bool.not_eq_true', decide_eq_true_eq, decide_eq_false_iff_not]
  constructor
  · rintro ⟨h, a0, a1, a2, a3, a4, a5⟩
    exact ⟨⟨by omega, a0⟩, ⟨by omega, a1⟩, ⟨by omega, a2⟩, ⟨by omega, a3⟩, ⟨by omega, a4⟩, ⟨by omega, a5⟩, by omega, by omega⟩
  · rintro ⟨⟨h0, a0⟩, ⟨h1, a1⟩, ⟨h2, a2⟩, ⟨h3, a3⟩, ⟨h4, a4⟩, ⟨h5, a5⟩, g0, g1⟩
    exact ⟨by omega, a0, a1, a2, a3, a4, a5⟩
theorem wq_2 (T : Nat → Int32) (q L : Nat) : (decide (L = 4) && allF (fun i => decide (T (q + i) = f_charAt 2 (nI i))) 0 4) = lwB T q L 0 [109, 111, 111, 100, 0, 0, 0] := by
  have c0 : f_charAt 2 (nI 0) = 109 := by decide
  have c1 : f_charAt 2 (nI 1) = 111 := by decide
  have c2 : f_charAt 2 (nI 2) = 111 := by decide
  have c3 : f_charAt 2 (nI 3) = 100 := by decide
  simp only [allF, lwB, c0, c1, c2, c3, zl_97, zl_98, zl_99, zl_100, zl_101, zl_107, zl_108, zl_109, zl_110, zl_111, zl_112, zl_114, zl_115, zl_116, zl_121, if_false, if_true, Bool.and_true, Nat.zero_add, Nat.reduceAdd]
  rw [Bool.eq_iff_iff]
  simp only [Bool.and_eq_true, Bool.not_eq_true', decide_eq_true_eq, decide_eq_false_iff_not]
  constructor
  · rintro ⟨h, a0, a1, a2, a3⟩
    exact ⟨⟨by omega, a0⟩, ⟨by omega, a1⟩, ⟨by omega, a2⟩, ⟨by omega, a3⟩, by omega, by omega, by omega, by omega⟩
  · rintro ⟨⟨h0, a0⟩, ⟨h1, a1⟩, ⟨h2, a2⟩, ⟨h3, a3⟩, g0, g1, g2, g3⟩
    exact ⟨by omega, a0, a1, a2, a3⟩
theorem wq_3 (T : Nat → Int32) (q L : Nat) : (decide (L = 7) && allF (fun i => decide (T (q + i) = f_charAt 3 (nI i))) 0 7) = lwB T q L 0 [98, 97, 108, 97, 110, 99, 101] := by
  have c0 : f_charAt 3 (nI 0) = 98 := by decide
  have c1 : f_charAt 3 (nI 1) = 97 := by decide
  have c2 : f_charAt 3 (nI 2) = 108 := by decide
  have c3 : f_charAt 3 (nI 3) = 97 := by decide
  have c4 : f_charAt 3 (nI 4) = 110 := by decide
  have c5 : f_charAt 3 (nI 5) = 99 := by decide
  have c6 : f_charAt 3 (nI 6) = 101 := by decide
  simp only [allF, lwB, c0, c1, c2, c3, c4, c5, c6, zl_97, zl_98, zl_99, zl_100, zl_101, zl_107, zl_108, zl_109, zl_110, zl_111, zl_112, zl_114, zl_115, zl_116, zl_121, if_false, if_true, Bool.and_true, Nat.zero_add, Nat.reduceAdd]
  rw [Bool.eq_iff_iff]
  simp only [Bool.and_eq_true, Bool.not_eq_true', decide_eq_true_eq, decide_eq_false_iff_not]
  constructor
  · rintro ⟨h, a0, a1, a2, a3, a4, a5, a6⟩
    exact ⟨⟨by omega, a0⟩, ⟨by omega, a1⟩, ⟨by omega, a2⟩, ⟨by omega, a3⟩, ⟨by omega, a4⟩, ⟨by omega, a5⟩, ⟨by omega, a6⟩, by omega⟩
  · rintro ⟨⟨h0, a0⟩, ⟨h1, a1⟩, ⟨h2, a2⟩, ⟨h3, a3⟩, ⟨h4, a4⟩, ⟨h5, a5⟩, ⟨h6, a6⟩, g0⟩
    exact ⟨by omega, a0, a1, a2, a3, a4, a5, a6⟩
theorem wq_4 (T : Nat → Int32) (q L : Nat) : (decide (L = 4) && allF (fun i => decide (T (q + i) = f_charAt 4 (nI i))) 0 4) = lwB T q L 0 [100, 97, 121, 115, 0, 0, 0] := by
  have c0 : f_charAt 4 (nI 0) = 100 := by decide
  have c1 : f_charAt 4 (nI 1) = 97 := by decide
  have c2 : f_charAt 4 (nI 2) = 121 := by decide
  have c3 : f_charAt 4 (nI 3) = 115 := by decide
  simp only [allF, lwB, c0, c1, c2, c3, zl_97, zl_98, zl_99, zl_100, zl_101, zl_107, zl_108, zl_109, zl_110, zl_111, zl_112, zl_114, zl_115, zl_116, zl_121, if_false, if_true, Bool.and_true, Nat.zero_add, Nat.reduceAdd]
  rw [Bool.eq_iff_iff]
  simp only [Bool.and_eq_true, Bool.not_eq_true', decide_eq_true_eq, decide_eq_false_iff_not]
  constructor
  · rintro ⟨h, a0, a1, a2, a3⟩
    exact ⟨⟨by omega, a0⟩, ⟨by omega, a1⟩, ⟨by omega, a2⟩, ⟨by omega, a3⟩, by omega, by omega, by omega, by omega⟩
  · rintro ⟨⟨h0, a0⟩, ⟨h1, a1⟩, ⟨h2, a2⟩, ⟨h3, a3⟩, g0, g1, g2, g3⟩
    exact ⟨by omega, a0, a1, a2, a3⟩
theorem ch {b r : Bool} {K : Option Int32} (h : K = some (b2i r)) : (if b2i b = 0 then some 0 else K) = some (b2i (b && r)) := by
  cases b with
  | false => rfl
  | true => exact (if_neg (by decide)).trans h
theorem lett_r {n q L k : Nat} {T : Nat → Int32} {τ : Sg} (c : Int32) (hn : n ≤ 150) (h : RK n T τ) (h8 : rI τ 112 8 = nI q) (hL : q + L ≤ n) (hk : k ≤ 6) : f_X12_isLetter τ (nI k) c (nI L) = some (b2i (if c = 0 then !decide (k < L) else (!decide (L ≤ k)) && decide (T (q + k) = c))) := by
  unfold f_X12_isLetter
  by_cases q1 : c = 0
  · rw [if_pos q1, if_pos q1]
    by_cases q2 : k < L
    · rw [if_pos (nI_lt q2 (by omega)), decide_eq_true q2]; rfl
    · rw [if_neg (nI_nlt (by omega) (by omega)), decide_eq_false q2]; rfl
  · rw [if_neg q1, if_neg q1]
    by_cases q2 : L ≤ k
    · rw [if_pos (nI_le q2 (by omega)), decide_eq_true q2]; rfl
    · rw [if_neg (nI_ge (by omega) (by omega)), decide_eq_false q2, h8, nI_add, if_pos (i115 (by omega)), ix_nI (by omega), h.2]
      by_cases q3 : T (q + k) = c
      · rw [if_pos q3, decide_eq_true q3]; rfl
      · rw [if_neg q3, decide_eq_false q3]; rfl
theorem isWord_r {n q L : Nat} {T : Nat → Int32} {τ : Sg} (c0 c1 c2 c3 c4 c5 c6 : Int32) (hn : n ≤ 150) (h : RK n T τ) (h7 : rI τ 112 7 = nI (q + L)) (h8 : rI τ 112 8 = nI q) (hL : q + L ≤ n) : f_X12_isWord τ c0 c1 c2 c3 c4 c5 c6 = some (b2i (lwB T q L 0 [c0, c1, c2, c3, c4, c5, c6])) := by
  have l0 := lett_r (k := 0) c0 hn h h8 hL (by omega)
  have l1 := lett_r (k := 1) c1 hn h h8 hL (by omega)
  have l2 := lett_r (k := 2) c2 hn h h8 hL (by omega)
  have l3 := lett_r (k := 3) c3 hn h h8 hL (by omega)
  have l4 := lett_r (k := 4) c4 hn h h8 hL (by omega)
  have l5 := lett_r (k := 5) c5 hn h h8 hL (by omega)
  have l6 := lett_r (k := 6) c6 hn h h8 hL (by omega)
  have l8 : (if (8 : Int32) ≤ nI L then some (0 : Int32) else some 1) = some (b2i (!decide (8 ≤ L))) := by
    by_cases w : 8 ≤ L
    · rw [if_pos (show (8 : Int32) ≤ nI L from nI_le (a := 8) w (by omega)), decide_eq_true w]; rfl
    · rw [if_neg (show ¬ (8 : Int32) ≤ nI L from nI_ge (b := 8) (by omega) (by omega)), decide_eq_false w]; rfl
  unfold f_X12_isWord
  rw [h7, h8, pk_sub (by omega), Nat.add_sub_cancel_left, nam_e, show f_X12_isLetter τ 0 c0 (nI L) = _ from l0, ob_some, show f_X12_isLetter τ 1 c1 (nI L) = _ from l1, ob_some, show f_X12_isLetter τ 2 c2 (nI L) = _ from l2, ob_some, show f_X12_isLetter τ 3 c3 (nI L) = _ from l3, ob_some, show f_X12_isLetter τ 4 c4 (nI L) = _ from l4, ob_some, show f_X12_isLetter τ 5 c5 (nI L) = _ from l5, ob_some, show f_X12_isLetter τ 6 c6 (nI L) = _ from l6, ob_some]
  exact ch (ch (ch (ch (ch (ch (ch l8))))))
def mtW (n : Nat) (T : Nat → Int32) (q w : Nat) : Bool := decide (tk n T q = 1) && (decide (nx n T q - q = tLen.getD w 0) && allF (fun i => decide (T (q + i) = f_charAt w (nI i))) 0 (tLen.getD w 0))
theorem tk_1 {n q : Nat} {T : Nat → Int32} (h : tk n T q = 1) : q < n ∧ nx n T q = sk n T ltB q := by
  have h0 := tk_lt (T := T) (show ¬ tk n T q = 0 by rw [h]; decide)
  unfold tk at h
  unfold nx
  rw [if_neg (by omega)] at h ⊢
  by_cases q1 : ltB (T q) = true
  · exact ⟨h0, if_pos q1⟩
  · rw [if_neg q1] at h
    by_cases q2 : fgB (T q) = true
    · rw [if_pos q2] at h
      split at h <;> exact absurd h (by decide)
    · rw [if_neg q2] at h
      split at h <;> exact absurd h (by decide)
theorem tk_n1 {n q : Nat} {T : Nat → Int32} (h : ¬ tk n T q = 1) : sk n T ltB q = q := by
  by_cases w : n ≤ q
  · exact sk_stop w
  · refine sk_no (fun z => h ?_)
    unfold tk
    rw [if_neg w, if_pos z]
theorem isWordC_loop {n q w len : Nat} {T : Nat → Int32} {σ : Sg} (hr : rowIs σ 67 n T) (hn : n ≤ 150) (h4 : rI σ 69 4 = nI q) (hlen : tLen.getD w 0 = len) (hl7 : len ≤ 7) (hq : q + len ≤ n) : ∀ (t i fu : Nat), t + i = len → t < fu → b_X8_isWord_28 σ w fu (nI i) = some (b2i (allF (fun i => decide (T (q + i) = f_charAt w (nI i))) i t)) := by
  intro t
  induction t with
  | zero =>
    intro i fu ht hf
    obtain ⟨fu, rfl⟩ : ∃ q, fu = q + 1 := ⟨fu - 1, by omega⟩
    rw [b_X8_isWord_28, hlen, if_pos (nI_le (by omega) (by omega))]
    rfl
  | succ t ih =>
    intro i fu ht hf
    obtain ⟨fu, rfl⟩ : ∃ q, fu = q + 1 := ⟨fu - 1, by omega⟩
    rw [b_X8_isWord_28, hlen, if_neg (nI_ge (by omega) (by omega)), h4, nI_add, at_in hr (by omega), ob_some, if_pos (inb_nI (by omega) (by omega)), allF_s]
    by_cases z : T (q + i) = f_charAt w (nI i)
    · rw [if_pos z, nam_e, nI_1, ih (i + 1) fu (by omega) (by omega), decide_eq_true z, Bool.true_and]
    · rw [if_neg z, decide_eq_false z, Bool.false_and]
      rfl
theorem isWord_c {n p w len : Nat} {T : Nat → Int32} {σ : Sg} (hr : rowIs σ 67 n T) (hn : n ≤ 150) (hC : CK n T σ p) (hlen : tLen.getD w 0 = len) (hl7 : len ≤ 7) : f_X8_isWord σ w = some (b2i (mtW n T (sk n T blB p) w)) := by
  obtain ⟨h3, h4, h5, _⟩ := hC
  generalize sk n T blB p = q at h3 h4 h5 ⊢
  unfold f_X8_isWord mtW
  rw [h3, h4, h5, hlen]
  by_cases w1 : tk n T q = 1
  · obtain ⟨q1, q2⟩ := tk_1 w1
    have q3 := nx_in T q1
    rw [if_pos w1, decide_eq_true w1, Bool.true_and, pk_sub (by omega)]
    by_cases w2 : nx n T q - q = len
    · rw [w2, if_pos rfl, decide_eq_true rfl, Bool.true_and]
      exact isWordC_loop hr hn h4 hlen hl7 (by omega) len 0 FU (by omega) (by unfold FU; omega)
    · rw [if_neg (fun z => w2 (nIinj (by omega) (by omega) z)), decide_eq_false w2, Bool.false_and]
      rfl
  · rw [if_neg w1, decide_eq_false w1, Bool.false_and]
    rfl
def wd (n : Nat) (T : Nat → Int32) (q : Nat) : Nat := if mtW n T q 0 = true then 0 else if mtW n T q 1 = true then 1 else if mtW n T q 2 = true then 2 else if mtW n T q 3 = true then 3 else if mtW n T q 4 = true then 4 else 5
def wC (w : Nat) : Int32 := if w = 5 then -1 else nI w
def wR (w : Nat) : Int32 := if w = 5 then 0 else nI (w + 1)
theorem wd_le (n : Nat) (T : Nat → Int32) (q : Nat) : wd n T q ≤ 5 := by
  unfold wd
  repeat' split
  all_goals omega
theorem told_w {n p : Nat} {T : Nat → Int32} {σ : Sg} (hr : rowIs σ 67 n T) (hn : n ≤ 150) (hC : CK n T σ p) : f_X8_wordTold σ = some (wC (wd n T (sk n T blB p))) := by
  unfold f_X8_wordTold wd
  rw [isWord_c hr hn hC (w := 0) (len := 6) rfl (by omega), ob_some, isWord_c hr hn hC (w := 1) (len := 6) rfl (by omega), ob_some, isWord_c hr hn hC (w := 2) (len := 4) rfl (by omega), ob_some, isWord_c hr hn hC (w := 3) (len := 7) rfl (by omega), ob_some, isWord_c hr hn hC (w := 4) (len := 4) rfl (by omega), ob_some]
  cases mtW n T (sk n T blB p) 0
  · cases mtW n T (sk n T blB p) 1
    · cases mtW n T (sk n T blB p) 2
      · cases mtW n T (sk n T blB p) 3
        · cases mtW n T (sk n T blB p) 4 <;> rfl
        · rfl
      · rfl
    · rfl
  · rfl
theorem wordOf_r {n q : Nat} {T : Nat → Int32} {τ : Sg} (hn : n ≤ 150) (h : RK n T τ) (h7 : rI τ 112 7 = nI (sk n T ltB q)) (h8 : rI τ 112 8 = nI q) (hq : q ≤ n) : f_X12_wordOf τ = some (wR (wd n T q)) := by
  obtain ⟨k1, k2⟩ := sk_le T ltB hq
  have e : ∀ w m, tLen.getD w 0 = m → 0 < m → mtW n T q w = (decide (sk n T ltB q - q = m) && allF (fun i => decide (T (q + i) = f_charAt w (nI i))) 0 m) := fun w m hm h0 => by
    unfold mtW
    rw [hm]
    by_cases w1 : tk n T q = 1
    · rw [decide_eq_true w1, Bool.true_and, (tk_1 w1).2]
    · rw [decide_eq_false w1, Bool.false_and, tk_n1 w1, Nat.sub_self, decide_eq_false (by omega), Bool.false_and]
  generalize hL : sk n T ltB q - q = L at e
  have h7' : rI τ 112 7 = nI (q + L) := by rw [h7]; congr 1; omega
  have i0 := isWord_r 109 97 114 107 101 116 0 hn h h7' h8 (by omega)
  have i1 := isWord_r 107 101 101 112 101 114 0 hn h h7' h8 (by omega)
  have i2 := isWord_r 109 111 111 100 0 0 0 hn h h7' h8 (by omega)
  have i3 := isWord_r 98 97 108 97 110 99 101 hn h h7' h8 (by omega)
  have i4 := isWord_r 100 97 121 115 0 0 0 hn h h7' h8 (by omega)
  rw [← wq_0, ← e 0 6 rfl (by omega)] at i0
  rw [← wq_1, ← e 1 6 rfl (by omega)] at i1
  rw [← wq_2, ← e 2 4 rfl (by omega)] at i2
  rw [← wq_3, ← e 3 7 rfl (by omega)] at i3
  rw [← wq_4, ← e 4 4 rfl (by omega)] at i4
  unfold f_X12_wordOf wd
  rw [i0, ob_some, i1, ob_some, i2, ob_some, i3, ob_some, i4, ob_some]
  cases mtW n T q 0
  · cases mtW n T q 1
    · cases mtW n T q 2
      · cases mtW n T q 3
        · cases mtW n T q 4 <;> rfl
        · rfl
      · rfl
    · rfl
  · rfl
