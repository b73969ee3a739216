/-! ===== pure facts: literals, guards, bits ===== -/
theorem L0 : (0 : Int32) = nI 0 := rfl
theorem L1 : (1 : Int32) = nI 1 := rfl
theorem L2 : (2 : Int32) = nI 2 := rfl
theorem L3 : (3 : Int32) = nI 3 := rfl
theorem L4 : (4 : Int32) = nI 4 := rfl
theorem L5 : (5 : Int32) = nI 5 := rfl
theorem L6 : (6 : Int32) = nI 6 := rfl
theorem L7 : (7 : Int32) = nI 7 := rfl
theorem L8 : (8 : Int32) = nI 8 := rfl
theorem L9 : (9 : Int32) = nI 9 := rfl
theorem L10 : (10 : Int32) = nI 10 := rfl
theorem L11 : (11 : Int32) = nI 11 := rfl
theorem L12 : (12 : Int32) = nI 12 := rfl
theorem L13 : (13 : Int32) = nI 13 := rfl
theorem L14 : (14 : Int32) = nI 14 := rfl
theorem L15 : (15 : Int32) = nI 15 := rfl
theorem L16 : (16 : Int32) = nI 16 := rfl
theorem L18 : (18 : Int32) = nI 18 := rfl
theorem L20 : (20 : Int32) = nI 20 := rfl
theorem L25 : (25 : Int32) = nI 25 := rfl
theorem L32 : (32 : Int32) = nI 32 := rfl
theorem L39 : (39 : Int32) = nI 39 := rfl
theorem L43 : (43 : Int32) = nI 43 := rfl
theorem L44 : (44 : Int32) = nI 44 := rfl
theorem L48 : (48 : Int32) = nI 48 := rfl
theorem L50 : (50 : Int32) = nI 50 := rfl
theorem L57 : (57 : Int32) = nI 57 := rfl
theorem L59 : (59 : Int32) = nI 59 := rfl
theorem L60 : (60 : Int32) = nI 60 := rfl
theorem L61 : (61 : Int32) = nI 61 := rfl
theorem L62 : (62 : Int32) = nI 62 := rfl
theorem L63 : (63 : Int32) = nI 63 := rfl
theorem L87 : (87 : Int32) = nI 87 := rfl
theorem L88 : (88 : Int32) = nI 88 := rfl
theorem L97 : (97 : Int32) = nI 97 := rfl
theorem L98 : (98 : Int32) = nI 98 := rfl
theorem L99 : (99 : Int32) = nI 99 := rfl
theorem L100 : (100 : Int32) = nI 100 := rfl
theorem L101 : (101 : Int32) = nI 101 := rfl
theorem L107 : (107 : Int32) = nI 107 := rfl
theorem L108 : (108 : Int32) = nI 108 := rfl
theorem L109 : (109 : Int32) = nI 109 := rfl
theorem L110 : (110 : Int32) = nI 110 := rfl
theorem L111 : (111 : Int32) = nI 111 := rfl
theorem L112 : (112 : Int32) = nI 112 := rfl
theorem L113 : (113 : Int32) = nI 113 := rfl
theorem L114 : (114 : Int32) = nI 114 := rfl
theorem L115 : (115 : Int32) = nI 115 := rfl
theorem L116 : (116 : Int32) = nI 116 := rfl
theorem L119 : (119 : Int32) = nI 119 := rfl
theorem L120 : (120 : Int32) = nI 120 := rfl
theorem L121 : (121 : Int32) = nI 121 := rfl
theorem L122 : (122 : Int32) = nI 122 := rfl
theorem L127 : (127 : Int32) = nI 127 := rfl
theorem L150 : (150 : Int32) = nI 150 := rfl
theorem L241 : (241 : Int32) = nI 241 := rfl
theorem L250 : (250 : Int32) = nI 250 := rfl
theorem L300 : (300 : Int32) = nI 300 := rfl
theorem L482 : (482 : Int32) = nI 482 := rfl
theorem L723 : (723 : Int32) = nI 723 := rfl
theorem L724 : (724 : Int32) = nI 724 := rfl
theorem L755 : (755 : Int32) = nI 755 := rfl
theorem L762 : (762 : Int32) = nI 762 := rfl
theorem L999 : (999 : Int32) = nI 999 := rfl
theorem L1000 : (1000 : Int32) = nI 1000 := rfl
theorem L9999 : (9999 : Int32) = nI 9999 := rfl
theorem L1000000 : (1000000 : Int32) = nI 1000000 := rfl
theorem L31 : (31 : Int32) = nI 31 := rfl
theorem kl113 : kLen 113 = 964 := rfl
theorem kl114 : kLen 114 = 2 := rfl
theorem kl115 : kLen 115 = 150 := rfl
theorem kl116 : kLen 116 = 3 := rfl
theorem kl117 : kLen 117 = 8 := rfl
theorem kl118 : kLen 118 = 8 := rfl
theorem kl119 : kLen 119 = 7 := rfl
theorem kl120 : kLen 120 = 300 := rfl
theorem kl121 : kLen 121 = 7 := rfl
theorem kl68 : kLen 68 = 150 := rfl
theorem kl93 : kLen 93 = 3 := rfl
theorem kl101 : kLen 101 = 7 := rfl
theorem kl104 : kLen 104 = 1024 := rfl
theorem kl106 : kLen 106 = 8 := rfl
theorem kl109 : kLen 109 = 14 := rfl
theorem kl111 : kLen 111 = 14 := rfl
theorem kd00 : (nI 0 = (0 : Int32)) = True := eq_true rfl
theorem kd01 : (nI 0 = (1 : Int32)) = False := eq_false (by decide)
theorem kd02 : (nI 0 = (2 : Int32)) = False := eq_false (by decide)
theorem kd03 : (nI 0 = (3 : Int32)) = False := eq_false (by decide)
theorem kd04 : (nI 0 = (4 : Int32)) = False := eq_false (by decide)
theorem kd05 : (nI 0 = (5 : Int32)) = False := eq_false (by decide)
theorem kd10 : (nI 1 = (0 : Int32)) = False := eq_false (by decide)
theorem kd11 : (nI 1 = (1 : Int32)) = True := eq_true rfl
theorem kd12 : (nI 1 = (2 : Int32)) = False := eq_false (by decide)
theorem kd13 : (nI 1 = (3 : Int32)) = False := eq_false (by decide)
theorem kd14 : (nI 1 = (4 : Int32)) = False := eq_false (by decide)
theorem kd15 : (nI 1 = (5 : Int32)) = False := eq_false (by decide)
theorem kd20 : (nI 2 = (0 : Int32)) = False := eq_false (by decide)
theorem kd21 : (nI 2 = (1 : Int32)) = False := eq_false (by decide)
theorem kd22 : (nI 2 = (2 : Int32)) = True := eq_true rfl
theorem kd23 : (nI 2 = (3 : Int32)) = False := eq_false (by decide)
theorem kd24 : (nI 2 = (4 : Int32)) = False := eq_false (by decide)
theorem kd25 : (nI 2 = (5 : Int32)) = False := eq_false (by decide)
theorem kd30 : (nI 3 = (0 : Int32)) = False := eq_false (by decide)
theorem kd31 : (nI 3 = (1 : Int32)) = False := eq_false (by decide)
theorem kd32 : (nI 3 = (2 : Int32)) = False := eq_false (by decide)
theorem kd33 : (nI 3 = (3 : Int32)) = True := eq_true rfl
theorem kd34 : (nI 3 = (4 : Int32)) = False := eq_false (by decide)
theorem kd35 : (nI 3 = (5 : Int32)) = False := eq_false (by decide)
theorem kd40 : (nI 4 = (0 : Int32)) = False := eq_false (by decide)
theorem kd41 : (nI 4 = (1 : Int32)) = False := eq_false (by decide)
theorem kd42 : (nI 4 = (2 : Int32)) = False := eq_false (by decide)
theorem kd43 : (nI 4 = (3 : Int32)) = False := eq_false (by decide)
theorem kd44 : (nI 4 = (4 : Int32)) = True := eq_true rfl
theorem kd45 : (nI 4 = (5 : Int32)) = False := eq_false (by decide)
theorem kd50 : (nI 5 = (0 : Int32)) = False := eq_false (by decide)
theorem kd51 : (nI 5 = (1 : Int32)) = False := eq_false (by decide)
theorem kd52 : (nI 5 = (2 : Int32)) = False := eq_false (by decide)
theorem kd53 : (nI 5 = (3 : Int32)) = False := eq_false (by decide)
theorem kd54 : (nI 5 = (4 : Int32)) = False := eq_false (by decide)
theorem kd55 : (nI 5 = (5 : Int32)) = True := eq_true rfl
theorem leT {a b : Nat} (h : a ≤ b) (hb : b < 2 ^ 31) : (nI a ≤ nI b) = True := eq_true (nI_le h hb)
theorem leF {a b : Nat} (h : b < a) (ha : a < 2 ^ 31) : (nI a ≤ nI b) = False := eq_false (nI_ge h ha)
theorem ltT {a b : Nat} (h : a < b) (hb : b < 2 ^ 31) : (nI a < nI b) = True := eq_true (nI_lt h hb)
theorem ltF {a b : Nat} (h : b ≤ a) (ha : a < 2 ^ 31) : (nI a < nI b) = False := eq_false (nI_nlt h ha)
theorem eqT {a b : Nat} (h : a = b) : (nI a = nI b) = True := eq_true (by rw [h])
theorem eqF {a b : Nat} (h : a ≠ b) (ha : a < 2 ^ 31) (hb : b < 2 ^ 31) : (nI a = nI b) = False := eq_false (fun q => h (nIinj ha hb q))
theorem inbT {n N : Nat} (h : n < N) (hN : N < 2 ^ 31) : inb (nI n) N = true := inb_nI h hN
theorem nam_e {α β : Type} (e : α) (K : α → β) : nam e K = K e := rfl
theorem ob_some {α β : Type} (a : α) (K : α → Option β) : (some a).bind K = K a := rfl
theorem zT : ((0 : Int32) = 0) = True := eq_self 0
theorem z1F : ((1 : Int32) = 0) = False := by decide
theorem in_btw (x a b : Int32) : f_X12_in (Int32.toInt64 x) (Int32.toInt64 a) (Int32.toInt64 b) = f_X11_between x a b := by
  unfold f_X12_in f_X11_between
  have e1 : (lg_cmp (Int32.toInt64 x) (Int32.toInt64 a) < 0) = (x < a) := by
    rw [lg_cmp_lt, ll_lt, li_lt, Int32.toInt_toInt64, Int32.toInt_toInt64]
  have e2 : (0 < lg_cmp (Int32.toInt64 x) (Int32.toInt64 b)) = (b < x) := by
    rw [lg_cmp_gt, ll_lt, li_lt, Int32.toInt_toInt64, Int32.toInt_toInt64]
  simp only [e1, e2]
theorem in_0_5 (x : Int32) : f_X12_in (Int32.toInt64 x) 0 5 = f_X11_between x 0 5 := in_btw x 0 5
theorem in_0_11 (x : Int32) : f_X12_in (Int32.toInt64 x) 0 11 = f_X11_between x 0 11 := in_btw x 0 11
theorem in_1_250 (x : Int32) : f_X12_in (Int32.toInt64 x) 1 250 = f_X11_between x 1 250 := in_btw x 1 250
theorem in_0_127 (x : Int32) : f_X12_in (Int32.toInt64 x) 0 127 = f_X11_between x 0 127 := in_btw x 0 127
theorem in_0_9 (x : Int32) : f_X12_in (Int32.toInt64 x) 0 9 = f_X11_between x 0 9 := in_btw x 0 9
theorem in_1_99 (x : Int32) : f_X12_in (Int32.toInt64 x) 1 99 = f_X11_between x 1 99 := in_btw x 1 99
theorem in_0_99 (x : Int32) : f_X12_in (Int32.toInt64 x) 0 99 = f_X11_between x 0 99 := in_btw x 0 99
theorem in_1_999 (x : Int32) : f_X12_in (Int32.toInt64 x) 1 999 = f_X11_between x 1 999 := in_btw x 1 999
theorem in_0_1 (x : Int32) : f_X12_in (Int32.toInt64 x) 0 1 = f_X11_between x 0 1 := in_btw x 0 1
theorem in_0_2 (x : Int32) : f_X12_in (Int32.toInt64 x) 0 2 = f_X11_between x 0 2 := in_btw x 0 2
theorem in_0_10 (x : Int32) : f_X12_in (Int32.toInt64 x) 0 10 = f_X11_between x 0 10 := in_btw x 0 10
theorem in_0_999999 (x : Int32) : f_X12_in (Int32.toInt64 x) 0 999999 = f_X11_between x 0 999999 := in_btw x 0 999999
theorem in_0_60 (x : Int32) : f_X12_in (Int32.toInt64 x) 0 60 = f_X11_between x 0 60 := in_btw x 0 60
theorem in_0_999 (x : Int32) : f_X12_in (Int32.toInt64 x) 0 999 = f_X11_between x 0 999 := in_btw x 0 999
theorem in_m2_2 (x : Int32) : f_X12_in (Int32.toInt64 x) (-2) 2 = f_X11_between x (-2) 2 := in_btw x (-2) 2
theorem in_1_2 (x : Int32) : f_X12_in (Int32.toInt64 x) 1 2 = f_X11_between x 1 2 := in_btw x 1 2
theorem in_97_122 (x : Int32) : f_X12_in (Int32.toInt64 x) 97 122 = f_X11_between x 97 122 := in_btw x 97 122
theorem in_48_57 (x : Int32) : f_X12_in (Int32.toInt64 x) 48 57 = f_X11_between x 48 57 := in_btw x 48 57
theorem in_m1_1 (x : Int32) : f_X12_in (Int32.toInt64 x) (-1) 1 = f_X11_between x (-1) 1 := in_btw x (-1) 1
theorem in_0 (x b : Int32) : f_X12_in (Int32.toInt64 x) 0 (Int32.toInt64 b) = f_X11_between x 0 b := in_btw x 0 b
theorem btw01 (x a b : Int32) : f_X11_between x a b = 0 ∨ f_X11_between x a b = 1 := by
  unfold f_X11_between
  split
  · exact Or.inl rfl
  · split
    · exact Or.inl rfl
    · exact Or.inr rfl
theorem btw_iff (x a b : Int32) : f_X11_between x a b = 0 ↔ x.toInt < a.toInt ∨ b.toInt < x.toInt := by
  unfold f_X11_between
  rw [← li_lt, ← li_lt]
  by_cases q : x < a
  · rw [if_pos q]
    exact ⟨fun _ => Or.inl q, fun _ => rfl⟩
  · rw [if_neg q]
    by_cases w : b < x
    · rw [if_pos w]
      exact ⟨fun _ => Or.inr w, fun _ => rfl⟩
    · rw [if_neg w]
      exact ⟨fun h => absurd h (by decide), fun h => h.elim (fun z => absurd z q) (fun z => absurd z w)⟩
theorem btw_of {x : Int32} {lo hi : Nat} (hh : hi < 2 ^ 31) (h : ¬ f_X11_between x (nI lo) (nI hi) = 0) (hl : lo < 2 ^ 31) : ∃ n, lo ≤ n ∧ n ≤ hi ∧ x = nI n := by
  rw [btw_iff, tN hl, tN hh] at h
  obtain ⟨j, h1, rfl⟩ := nIof (x := x) (n := hi + 1) (by omega) (by omega)
  rw [tN (by omega)] at h
  exact ⟨j, by omega, by omega, rfl⟩
theorem btw_in {n lo hi : Nat} (hh : hi < 2 ^ 31) (h1 : lo ≤ n) (h2 : n ≤ hi) : ¬ f_X11_between (nI n) (nI lo) (nI hi) = 0 := by
  rw [btw_iff, tN (by omega), tN (by omega), tN (by omega)]
  omega
theorem tm1 {a : Nat} (h : a < 2 ^ 31) : (nI a - 1).toInt = (a : Int) - 1 := by
  rw [tsub]
  · rw [tN h]; rfl
  · rw [tN h]; show _ ≤ (a : Int) - 1; omega
  · rw [tN h]; show (a : Int) - 1 < _; omega
theorem hk_of {x : Int32} {a : Nat} (ha : a < 2 ^ 31) (h : ¬ f_X11_between x 0 (nI a - 1) = 0) : ∃ n, n < a ∧ x = nI n := by
  rw [btw_iff, tm1 ha] at h
  have e0 : (0 : Int32).toInt = 0 := rfl
  rw [e0] at h
  obtain ⟨j, h1, h2⟩ := nIof (x := x) (n := a) (by omega) (by omega)
  exact ⟨j, h1, h2⟩
theorem hk_in {n a : Nat} (ha : a < 2 ^ 31) (h : n < a) : f_X11_between (nI n) 0 (nI a - 1) = 1 := by
  refine (btw01 _ _ _).resolve_left ?_
  rw [btw_iff, tm1 ha, tN (by omega)]
  have e0 : (0 : Int32).toInt = 0 := rfl
  rw [e0]
  omega
/-- lo ≤ x ≤ hi, as numbers without sign -/
def vIn (x : Int32) (lo hi : Nat) : Prop := ∃ n, lo ≤ n ∧ n ≤ hi ∧ x = nI n
theorem vIn.mk {n lo hi : Nat} (h1 : lo ≤ n) (h2 : n ≤ hi) : vIn (nI n) lo hi := ⟨n, h1, h2, rfl⟩
theorem hasBit_has (b : Int32) {k : Nat} (hk : k < 32) : f_X11_hasBit b (nI k) = f_X12_has b (nI k) := by
  unfold f_X11_hasBit f_X12_has
  rw [if_neg (nI_pos (by omega)), if_neg (show ¬ (32 : Int32) ≤ nI k from nI_ge (b := 32) hk (by omega))]
theorem has01 (b x : Int32) : f_X12_has b x = 0 ∨ f_X12_has b x = 1 := by
  unfold f_X12_has
  split
  · exact Or.inr rfl
  · exact Or.inl rfl
theorem tip_same (x y : Int32) : f_X0_trueTip x y = f_X12_trueTip x y := by
  unfold f_X0_trueTip f_X12_trueTip f_J6_compare_7cf53
  by_cases h1 : y ≤ x
  · by_cases h2 : x = y
    · rw [if_pos h1, if_pos h2, if_pos (by rw [h2, li_le]; exact Int.le_refl _), if_pos h1]
    · rw [if_pos h1, if_neg h2, if_neg (by rw [li_le]; rw [li_le] at h1; rw [li_eq] at h2; omega)]
  · rw [if_neg h1, if_pos (by rw [li_le]; rw [li_le] at h1; omega), if_neg h1]
theorem bent_same (x y : Int32) : f_X0_bentTip x y = f_X12_trueTip (x + 2) y := by
  unfold f_X0_bentTip
  exact tip_same _ _
theorem stiff_same {x y : Nat} (hx : x ≤ 2000) (hy : y ≤ 2000) : f_X0_stiffTip (nI x) (nI y) = f_X12_stiffTip (nI x) (nI y) := by
  unfold f_X0_stiffTip f_X12_stiffTip
  rw [in_m2_2, tip_same]
  have hd := pk_sub_toInt (a := x) (b := y) (by omega) (by omega)
  have e3 : (3 : Int32).toInt = 3 := rfl
  have e0 : (0 : Int32).toInt = 0 := rfl
  have e2 : (2 : Int32).toInt = 2 := rfl
  have e4 : (-2 : Int32).toInt = -2 := rfl
  have hn : (0 - (nI x - nI y)).toInt = (y : Int) - x := by
    rw [tsub] <;> rw [e0, hd] <;> omega
  have hc : (3 ≤ (if 0 ≤ (nI x - nI y) then (nI x - nI y) else 0 - (nI x - nI y))) ↔ f_X11_between (nI x - nI y) (-2) 2 = 0 := by
    rw [btw_iff, e2, e4]
    by_cases q : 0 ≤ nI x - nI y
    · rw [if_pos q, li_le, e3, hd]; rw [li_le, e0, hd] at q; omega
    · rw [if_neg q, li_le, e3, hn, hd]; rw [li_le, e0, hd] at q; omega
  by_cases q : f_X11_between (nI x - nI y) (-2) 2 = 0
  · rw [if_pos (hc.mpr q), if_pos q]
  · rw [if_neg (fun z => q (hc.mp z)), if_neg q]
theorem tip_kind {k x y : Nat} (hk : k ≤ 5) (hx : x ≤ 2000) (hy : y ≤ 2000) : f_X0_tip (nI k) (nI x) (nI y) = f_X12_tipOf (nI k) (nI x) (nI y) := by
  have hs := stiff_same hx hy
  have h2 : (nI x + nI y) - (nI x + nI y) / 2 * 2 = nI ((x + y) % 2) := by
    rw [nI_add]; exact pk_rem (d := 2) (by omega) (by omega) (by omega)
  unfold f_X0_tip f_X12_tipOf
  rw [hs, bent_same, tip_same, h2]
  rcases (show k = 0 ∨ k = 1 ∨ k = 2 ∨ k = 3 ∨ k = 4 ∨ k = 5 by omega) with rfl | rfl | rfl | rfl | rfl | rfl <;> rcases (show (x + y) % 2 = 0 ∨ (x + y) % 2 = 1 by omega) with q | q <;> simp only [q, kd00, kd01, kd02, kd03, kd04, kd05, kd10, kd11, kd12, kd13, kd14, kd15, kd20, kd21, kd22, kd23, kd24, kd25, kd30, kd31, kd32, kd33, kd34, kd35, kd40, kd41, kd42, kd43, kd44, kd45, kd50, kd51, kd52, kd53, kd54, kd55, if_true, if_false]
theorem fades_same {x : Nat} (d : Int32) (h1 : 1 ≤ x) (h2 : x ≤ 250) : f_X2_fadingBehind (nI x) d = f_X12_fades (nI x) d ∧ vIn (f_X12_fades (nI x) d) 1 250 := by
  unfold f_X2_fadingBehind f_X12_fades b_X12_fades_11
  by_cases q : d - d / 2 * 2 = 0
  · rw [if_pos q, if_pos q]
    by_cases w : x = 1
    · subst w
      rw [if_pos (show nI 1 ≤ 1 from nI_le (b := 1) (Nat.le_refl _) (by omega)), if_pos (show nI 1 = 1 from rfl)]
      exact ⟨rfl, vIn.mk (Nat.le_refl _) (by omega)⟩
    · have e1 : ¬ nI x ≤ 1 := nI_ge (a := 1) (by omega) (by omega)
      have e2 : ¬ nI x = 1 := fun z => w (nIinj (b := 1) (by omega) (by omega) z)
      rw [if_neg e1, if_neg e2]
      refine ⟨rfl, ?_⟩
      rw [L1, pk_sub h1]
      exact vIn.mk (by omega) (by omega)
  · rw [if_neg q, if_neg q]
    exact ⟨rfl, vIn.mk h1 h2⟩
theorem goes_same {k x : Nat} (d : Int32) (hk : k ≤ 5) (h1 : 1 ≤ x) (h2 : x ≤ 250) : f_X2_behind (nI k) (nI x) d = f_X12_goes (nI k) (nI x) d ∧ vIn (f_X12_goes (nI k) (nI x) d) 1 250 := by
  obtain ⟨hf, n, g1, g2, g3⟩ := fades_same d h1 h2
  have hf2 := fades_same d g1 g2
  rw [← g3] at hf2
  unfold f_X2_behind f_X12_goes
  rw [hf, hf2.1]
  rcases (show k = 0 ∨ k = 1 ∨ k = 2 ∨ k = 3 ∨ k = 4 ∨ k = 5 by omega) with rfl | rfl | rfl | rfl | rfl | rfl <;> simp only [kd00, kd01, kd02, kd03, kd04, kd05, kd10, kd11, kd12, kd13, kd14, kd15, kd20, kd21, kd22, kd23, kd24, kd25, kd30, kd31, kd32, kd33, kd34, kd35, kd40, kd41, kd42, kd43, kd44, kd45, kd50, kd51, kd52, kd53, kd54, kd55, if_true, if_false, true_and]
  · exact vIn.mk h1 h2
  · exact ⟨n, g1, g2, g3⟩
  · exact vIn.mk h1 h2
  · exact vIn.mk h1 h2
  · exact hf2.2
  · by_cases q : d - d / 3 * 3 = 0
    · rw [if_pos q, if_pos q, nI_1]
      by_cases w : x < 250
      · have e1 : ¬ (250 : Int32) ≤ nI x := nI_ge (b := 250) w (by omega)
        rw [if_neg e1]
        by_cases w2 : x + 1 < 250
        · rw [if_pos (show nI (x + 1) < (250 : Int32) from nI_lt (b := 250) w2 (by omega))]
          exact ⟨rfl, vIn.mk (by omega) (by omega)⟩
        · rw [if_neg (show ¬ nI (x + 1) < (250 : Int32) from nI_nlt (b := 250) (by omega) (by omega))]
          have : x = 249 := by omega
          subst this
          exact ⟨rfl, vIn.mk (by omega) (by omega)⟩
      · have : x = 250 := by omega
        subst this
        simp (disch := omega) only [L250, leT, ltF, if_true, if_false, true_and]
        exact vIn.mk (by omega) (by omega)
    · rw [if_neg q, if_neg q]
      exact ⟨rfl, vIn.mk h1 h2⟩
theorem lends_same {k : Nat} (d m f : Int32) (hk : k ≤ 5) : f_X2_lends (nI k) d m f = f_X12_lends (nI k) d m f := by
  unfold f_X2_lends f_X12_lends b_X12_lends_12 b_X12_lends_63 b_X12_lends_80 b_X2_lends_58 b_X2_lends_86 f_X2_plainLends
  rcases (show k = 0 ∨ k = 1 ∨ k = 2 ∨ k = 3 ∨ k = 4 ∨ k = 5 by omega) with rfl | rfl | rfl | rfl | rfl | rfl <;> by_cases q : m + f < 5 <;> by_cases w : d - d / 7 * 7 = 0 <;> by_cases e : f < 5 <;> by_cases z : m < 8 <;> simp only [q, w, e, z, kd00, kd01, kd02, kd03, kd04, kd05, kd10, kd11, kd12, kd13, kd14, kd15, kd20, kd21, kd22, kd23, kd24, kd25, kd30, kd31, kd32, kd33, kd34, kd35, kd40, kd41, kd42, kd43, kd44, kd45, kd50, kd51, kd52, kd53, kd54, kd55, if_true, if_false, zT, z1F]
theorem lends01 (k d m f : Int32) : f_X12_lends k d m f = 0 ∨ f_X12_lends k d m f = 1 := by
  unfold f_X12_lends b_X12_lends_12 b_X12_lends_63 b_X12_lends_80
  by_cases q : m + f < 5 <;> by_cases w : d - d / 7 * 7 = 0 <;> by_cases e : f < 5 <;> by_cases z : m < 8 <;> by_cases k2 : k = 2 <;> by_cases k3 : k = 3 <;> by_cases k4 : k = 4 <;> by_cases k5 : k = 5 <;> simp only [q, w, e, z, k2, k3, k4, k5, if_true, if_false] <;> decide
