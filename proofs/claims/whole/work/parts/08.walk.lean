-- private void carryOut();
abbrev rm_X8_carryOut : Room := { frames := 4, cells := 0, slots := 0, locals := 87 }
theorem cl_X8_carryOut : Cl yX8_carryOut wsX8_carryOut cX8_carryOut 1 none rm_X8_carryOut 0 := ⟨⟨_, rfl⟩, rfl, rfl, by decide +kernel, by decide +kernel, by decide +kernel⟩
theorem in_X8_carryOut_5 : ∀ w ∈ wsX80, w ∈ wsX8_carryOut := fun w h => List.mem_cons_of_mem _ (List.mem_append_left _ (List.mem_append_left _ (List.mem_append_left _ (List.mem_append_right _ h))))
theorem in_X8_carryOut_0 : ∀ w ∈ wsX30, w ∈ wsX8_carryOut := fun w h => List.mem_cons_of_mem _ (List.mem_append_left _ (List.mem_append_left _ (List.mem_append_right _ h)))
theorem in_X8_carryOut_1 : ∀ w ∈ wsX40, w ∈ wsX8_carryOut := fun w h => List.mem_cons_of_mem _ (List.mem_append_left _ (List.mem_append_right _ h))
def f_X8_carryOut (σ : Sg) : Option Sg := nam (stI σ 69 8 ((rI σ 69 8) + 1)) fun s1 => nam (rI s1 69 7) fun x2 => (if x2 = 1 then (f_X7_at s1 92 0).bind fun x3 => (f_X7_at s1 92 1).bind fun x4 => (f_X7_at s1 92 2).bind fun x5 => (f_X3_addKeeper s1 70 x3 x4 x5).bind fun s6 => (some s6) else (if x2 = 2 then (f_X7_at s1 92 0).bind fun x7 => (f_X7_at s1 92 1).bind fun x8 => (f_X7_put s1 90 x7 x8).bind fun s9 => (some s9) else (if x2 = 3 then (f_X7_at s1 92 0).bind fun x10 => (f_X7_add s1 77 x10).bind fun s11 => (some s11) else (if x2 = 4 then (f_X7_at s1 92 0).bind fun x12 => (f_X3_passDays s1 70 x12).bind fun s13 => (some s13) else (some s1)))))
set_option maxRecDepth 100000 in
set_option maxHeartbeats 4000000 in
theorem c_X8_carryOut {g : Cx} {σ : Sg} (τ : Sg) (h : f_X8_carryOut σ = some τ) : ∀ l, MetF l yX8_carryOut wsX8_carryOut rm_X8_carryOut g [.ref (g.1 69)] σ none τ := by
  refine MetF.of (own0 := RX8) (lv0 := [(0, .ref (g.1 69))]) rfl cl_X8_carryOut (by decide) (Nat.le_of_ble_eq_true rfl) rfl ?_
  unfold f_X8_carryOut at h
  refine v_aload_n 1 0 dX8_carryOut_0 rfl rfl rfl ?_
  refine v_dup 2 dX8_carryOut_1 rfl rfl ?_
  refine vg_5_8 5 (rfl : kK 69 = 5) in_X8_carryOut_5 (mem_at 1 rfl) dX8_carryOut_2 rfl ?_
  refine v_iconst 6 1 dX8_carryOut_5 kc_i_1 rfl ?_
  refine v_iadd 7 dX8_carryOut_6 rfl ?_
  refine vp_5_8 10 h (rfl : kK 69 = 5) in_X8_carryOut_5 (mem_at 1 rfl) dX8_carryOut_7 rfl (fun s1 h => ?_)
  refine v_aload_n 11 0 dX8_carryOut_10 rfl rfl rfl ?_
  refine vg_5_7 14 (rfl : kK 69 = 5) in_X8_carryOut_5 (mem_at 2 rfl) dX8_carryOut_11 rfl ?_
  refine v_namI h (fun x2 h => ?_)
  refine v_ite h (fun q h => ?_) (fun q1 h => ?_)
  · refine v_tabInZ 44 1 dX8_carryOut_14 (ti_of q kc_ti_1) (by decide) (by decide) rfl (by decide) ?_
    refine v_aload_n 45 0 dX8_carryOut_44 rfl rfl rfl ?_
    refine vg_5_0 48 70 (rfl : kK 69 = 5) in_X8_carryOut_5 (mem_at 3 rfl) rfl dX8_carryOut_45 rfl ?_
    refine v_aload_n 49 0 dX8_carryOut_48 rfl rfl rfl ?_
    refine vg_5_2 52 92 (rfl : kK 69 = 5) in_X8_carryOut_5 (mem_at 4 rfl) rfl dX8_carryOut_49 rfl ?_
    refine v_iconst 53 0 dX8_carryOut_52 kc_i_0 rfl ?_
    obtain ⟨x3, h0, h⟩ := ob h
    refine v_cV 56 4 [.int 0] (rfl : kK 92 = 4) rfl (c_X7_at 92 0 (rfl : kK 92 = 4) _ h0) cl_X7_at gX8_carryOut_X7_at rfl ⟨Nat.le_of_ble_eq_true rfl, Nat.le_of_ble_eq_true rfl⟩ rfl rfl (Nat.le_of_ble_eq_true rfl) dX8_carryOut_53 rfl ?_
    refine v_aload_n 57 0 dX8_carryOut_56 rfl rfl rfl ?_
    refine vg_5_2 60 92 (rfl : kK 69 = 5) in_X8_carryOut_5 (mem_at 4 rfl) rfl dX8_carryOut_57 rfl ?_
    refine v_iconst 61 1 dX8_carryOut_60 kc_i_1 rfl ?_
    obtain ⟨x4, h0, h⟩ := ob h
    refine v_cV 64 4 [.int 1] (rfl : kK 92 = 4) rfl (c_X7_at 92 1 (rfl : kK 92 = 4) _ h0) cl_X7_at gX8_carryOut_X7_at rfl ⟨Nat.le_of_ble_eq_true rfl, Nat.le_of_ble_eq_true rfl⟩ rfl rfl (Nat.le_of_ble_eq_true rfl) dX8_carryOut_61 rfl ?_
    refine v_aload_n 65 0 dX8_carryOut_64 rfl rfl rfl ?_
    refine vg_5_2 68 92 (rfl : kK 69 = 5) in_X8_carryOut_5 (mem_at 4 rfl) rfl dX8_carryOut_65 rfl ?_
    refine v_iconst 69 2 dX8_carryOut_68 kc_i_2 rfl ?_
    obtain ⟨x5, h0, h⟩ := ob h
    refine v_cV 72 4 [.int 2] (rfl : kK 92 = 4) rfl (c_X7_at 92 2 (rfl : kK 92 = 4) _ h0) cl_X7_at gX8_carryOut_X7_at rfl ⟨Nat.le_of_ble_eq_true rfl, Nat.le_of_ble_eq_true rfl⟩ rfl rfl (Nat.le_of_ble_eq_true rfl) dX8_carryOut_69 rfl ?_
    obtain ⟨s6, h0, h⟩ := ob h
    refine v_cV 75 0 [.int x3, .int x4, .int x5] (rfl : kK 70 = 0) rfl (c_X3_addKeeper 70 x3 x4 x5 (rfl : kK 70 = 0) _ h0) cl_X3_addKeeper gX8_carryOut_X3_addKeeper rfl ⟨Nat.le_of_ble_eq_true rfl, Nat.le_of_ble_eq_true rfl⟩ rfl rfl (Nat.le_of_ble_eq_true rfl) dX8_carryOut_72 rfl ?_
    refine v_goto 149 dX8_carryOut_75 (by decide) ?_
    exact v_vretS h rfl dX8_carryOut_149
  refine v_ite h (fun q h => ?_) (fun q2 h => ?_)
  · refine v_tabInZ 78 2 dX8_carryOut_14 (ti_of q kc_ti_2) (by decide) (by decide) rfl (by decide) ?_
    refine v_aload_n 79 0 dX8_carryOut_78 rfl rfl rfl ?_
    refine vg_5_0 82 70 (rfl : kK 69 = 5) in_X8_carryOut_5 (mem_at 3 rfl) rfl dX8_carryOut_79 rfl ?_
    refine vg_0_8 85 87 (rfl : kK 70 = 0) in_X8_carryOut_0 (mem_at 5 rfl) rfl dX8_carryOut_82 rfl ?_
    refine vg_1_3 88 90 (rfl : kK 87 = 1) in_X8_carryOut_1 (mem_at 6 rfl) rfl dX8_carryOut_85 rfl ?_
    refine v_aload_n 89 0 dX8_carryOut_88 rfl rfl rfl ?_
    refine vg_5_2 92 92 (rfl : kK 69 = 5) in_X8_carryOut_5 (mem_at 4 rfl) rfl dX8_carryOut_89 rfl ?_
    refine v_iconst 93 0 dX8_carryOut_92 kc_i_0 rfl ?_
    obtain ⟨x7, h0, h⟩ := ob h
    refine v_cV 96 4 [.int 0] (rfl : kK 92 = 4) rfl (c_X7_at 92 0 (rfl : kK 92 = 4) _ h0) cl_X7_at gX8_carryOut_X7_at rfl ⟨Nat.le_of_ble_eq_true rfl, Nat.le_of_ble_eq_true rfl⟩ rfl rfl (Nat.le_of_ble_eq_true rfl) dX8_carryOut_93 rfl ?_
    refine v_aload_n 97 0 dX8_carryOut_96 rfl rfl rfl ?_
    refine vg_5_2 100 92 (rfl : kK 69 = 5) in_X8_carryOut_5 (mem_at 4 rfl) rfl dX8_carryOut_97 rfl ?_
    refine v_iconst 101 1 dX8_carryOut_100 kc_i_1 rfl ?_
    obtain ⟨x8, h0, h⟩ := ob h
    refine v_cV 104 4 [.int 1] (rfl : kK 92 = 4) rfl (c_X7_at 92 1 (rfl : kK 92 = 4) _ h0) cl_X7_at gX8_carryOut_X7_at rfl ⟨Nat.le_of_ble_eq_true rfl, Nat.le_of_ble_eq_true rfl⟩ rfl rfl (Nat.le_of_ble_eq_true rfl) dX8_carryOut_101 rfl ?_
    obtain ⟨s9, h0, h⟩ := ob h
    refine v_cV 107 4 [.int x7, .int x8] (rfl : kK 90 = 4) rfl (c_X7_put 90 x7 x8 (rfl : kK 90 = 4) _ h0) cl_X7_put gX8_carryOut_X7_put rfl ⟨Nat.le_of_ble_eq_true rfl, Nat.le_of_ble_eq_true rfl⟩ rfl rfl (Nat.le_of_ble_eq_true rfl) dX8_carryOut_104 rfl ?_
    refine v_goto 149 dX8_carryOut_107 (by decide) ?_
    exact v_vretS h rfl dX8_carryOut_149
  refine v_ite h (fun q h => ?_) (fun q3 h => ?_)
  · refine v_tabInZ 110 3 dX8_carryOut_14 (ti_of q kc_ti_3) (by decide) (by decide) rfl (by decide) ?_
    refine v_aload_n 111 0 dX8_carryOut_110 rfl rfl rfl ?_
    refine vg_5_0 114 70 (rfl : kK 69 = 5) in_X8_carryOut_5 (mem_at 3 rfl) rfl dX8_carryOut_111 rfl ?_
    refine vg_0_3 117 77 (rfl : kK 70 = 0) in_X8_carryOut_0 (mem_at 7 rfl) rfl dX8_carryOut_114 rfl ?_
    refine v_aload_n 118 0 dX8_carryOut_117 rfl rfl rfl ?_
    refine vg_5_2 121 92 (rfl : kK 69 = 5) in_X8_carryOut_5 (mem_at 4 rfl) rfl dX8_carryOut_118 rfl ?_
    refine v_iconst 122 0 dX8_carryOut_121 kc_i_0 rfl ?_
    obtain ⟨x10, h0, h⟩ := ob h
    refine v_cV 125 4 [.int 0] (rfl : kK 92 = 4) rfl (c_X7_at 92 0 (rfl : kK 92 = 4) _ h0) cl_X7_at gX8_carryOut_X7_at rfl ⟨Nat.le_of_ble_eq_true rfl, Nat.le_of_ble_eq_true rfl⟩ rfl rfl (Nat.le_of_ble_eq_true rfl) dX8_carryOut_122 rfl ?_
    obtain ⟨s11, h0, h⟩ := ob h
    refine v_cV 128 4 [.int x10] (rfl : kK 77 = 4) rfl (c_X7_add 77 x10 (rfl : kK 77 = 4) _ h0) cl_X7_add gX8_carryOut_X7_add rfl ⟨Nat.le_of_ble_eq_true rfl, Nat.le_of_ble_eq_true rfl⟩ rfl rfl (Nat.le_of_ble_eq_true rfl) dX8_carryOut_125 rfl ?_
    refine v_goto 149 dX8_carryOut_128 (by decide) ?_
    exact v_vretS h rfl dX8_carryOut_149
  refine v_ite h (fun q h => ?_) (fun q4 h => ?_)
  · refine v_tabInZ 131 4 dX8_carryOut_14 (ti_of q kc_ti_4) (by decide) (by decide) rfl (by decide) ?_
    refine v_aload_n 132 0 dX8_carryOut_131 rfl rfl rfl ?_
    refine vg_5_0 135 70 (rfl : kK 69 = 5) in_X8_carryOut_5 (mem_at 3 rfl) rfl dX8_carryOut_132 rfl ?_
    refine v_aload_n 136 0 dX8_carryOut_135 rfl rfl rfl ?_
    refine vg_5_2 139 92 (rfl : kK 69 = 5) in_X8_carryOut_5 (mem_at 4 rfl) rfl dX8_carryOut_136 rfl ?_
    refine v_iconst 140 0 dX8_carryOut_139 kc_i_0 rfl ?_
    obtain ⟨x12, h0, h⟩ := ob h
    refine v_cV 143 4 [.int 0] (rfl : kK 92 = 4) rfl (c_X7_at 92 0 (rfl : kK 92 = 4) _ h0) cl_X7_at gX8_carryOut_X7_at rfl ⟨Nat.le_of_ble_eq_true rfl, Nat.le_of_ble_eq_true rfl⟩ rfl rfl (Nat.le_of_ble_eq_true rfl) dX8_carryOut_140 rfl ?_
    obtain ⟨s13, h0, h⟩ := ob h
    refine v_cV 146 0 [.int x12] (rfl : kK 70 = 0) rfl (c_X3_passDays 70 x12 (rfl : kK 70 = 0) _ h0) cl_X3_passDays gX8_carryOut_X3_passDays rfl ⟨Nat.le_of_ble_eq_true rfl, Nat.le_of_ble_eq_true rfl⟩ rfl rfl (Nat.le_of_ble_eq_true rfl) dX8_carryOut_143 rfl ?_
    refine v_goto 149 dX8_carryOut_146 (by decide) ?_
    exact v_vretS h rfl dX8_carryOut_149
  have a1 := ne_lit q1 kc_ti_1
  have a2 := ne_lit q2 kc_ti_2
  have a3 := ne_lit q3 kc_ti_3
  have a4 := ne_lit q4 kc_ti_4
  refine v_tabOut 149 dX8_carryOut_14 (by omega) (by decide) ?_
  exact v_vretS h rfl dX8_carryOut_149
-- private static boolean isFigure(int);
abbrev rm_X8_isFigure : Room := { frames := 0, cells := 0, slots := 0, locals := 0 }
theorem cl_X8_isFigure : Cl yX8_isFigure wsX8_isFigure cX8_isFigure 1 (some .boolean) rm_X8_isFigure 1 := ⟨⟨_, rfl⟩, rfl, rfl, by decide +kernel, by decide +kernel, by decide +kernel⟩
def f_X8_isFigure (l0 : Int32) : Int32 := (if l0 < 48 then 0 else (if 57 < l0 then 0 else 1))
theorem zb_X8_isFigure {l0 : Int32} : f_X8_isFigure l0 = 0 ∨ f_X8_isFigure l0 = 1 := by
  unfold f_X8_isFigure
  try simp only [nam]
  repeat' (first | exact Or.inl rfl | exact Or.inr rfl | split)
set_option maxRecDepth 100000 in
set_option maxHeartbeats 4000000 in
theorem c_X8_isFigure {g : Cx} {σ : Sg} (l0 : Int32) : ∀ l, MetF l yX8_isFigure wsX8_isFigure rm_X8_isFigure g [.int l0] σ (some (.int (f_X8_isFigure l0))) σ := by
  have main : ∀ r : Int32, f_X8_isFigure l0 = r → ∀ l, MetF l yX8_isFigure wsX8_isFigure rm_X8_isFigure g [.int l0] σ (some (.int r)) σ := by
    intro r h
    refine MetF.of (own0 := RX8) (lv0 := [(0, .int l0)]) rfl cl_X8_isFigure (by decide) (Nat.le_of_ble_eq_true rfl) rfl ?_
    unfold f_X8_isFigure at h
    refine v_iload_n 1 0 dX8_isFigure_0 rfl rfl rfl ?_
    refine v_bipush 3 48 dX8_isFigure_1 kc_b_48 rfl ?_
    refine v_icmp_lt 6 16 h dX8_isFigure_3 rfl (by decide) (fun h => ?_) (fun h => ?_)
    · refine v_iconst 17 0 dX8_isFigure_16 kc_i_0 rfl ?_
      exact v_zretT h rfl (Or.inl rfl) dX8_isFigure_17
    · refine v_iload_n 7 0 dX8_isFigure_6 rfl rfl rfl ?_
      refine v_bipush 9 57 dX8_isFigure_7 kc_b_57 rfl ?_
      refine v_icmp_gt 12 16 h dX8_isFigure_9 rfl (by decide) (fun h => ?_) (fun h => ?_)
      · refine v_iconst 17 0 dX8_isFigure_16 kc_i_0 rfl ?_
        exact v_zretT h rfl (Or.inl rfl) dX8_isFigure_17
      · refine v_iconst 13 1 dX8_isFigure_12 kc_i_1 rfl ?_
        refine v_goto 17 dX8_isFigure_13 (by decide) ?_
        exact v_zretT h rfl (Or.inr rfl) dX8_isFigure_17
  exact main _ rfl
-- private static boolean isLetter(int);
abbrev rm_X8_isLetter : Room := { frames := 0, cells := 0, slots := 0, locals := 0 }
theorem cl_X8_isLetter : Cl yX8_isLetter wsX8_isLetter cX8_isLetter 1 (some .boolean) rm_X8_isLetter 1 := ⟨⟨_, rfl⟩, rfl, rfl, by decide +kernel, by decide +kernel, by decide +kernel⟩
def f_X8_isLetter (l0 : Int32) : Int32 := (if l0 < 97 then 0 else (if 122 < l0 then 0 else 1))
theorem zb_X8_isLetter {l0 : Int32} : f_X8_isLetter l0 = 0 ∨ f_X8_isLetter l0 = 1 := by
  unfold f_X8_isLetter
  try simp only [nam]
  repeat' (first | exact Or.inl rfl | exact Or.inr rfl | split)
set_option maxRecDepth 100000 in
set_option maxHeartbeats 4000000 in
theorem c_X8_isLetter {g : Cx} {σ : Sg} (l0 : Int32) : ∀ l, MetF l yX8_isLetter wsX8_isLetter rm_X8_isLetter g [.int l0] σ (some (.int (f_X8_isLetter l0))) σ := by
  have main : ∀ r : Int32, f_X8_isLetter l0 = r → ∀ l, MetF l yX8_isLetter wsX8_isLetter rm_X8_isLetter g [.int l0] σ (some (.int r)) σ := by
    intro r h
    refine MetF.of (own0 := RX8) (lv0 := [(0, .int l0)]) rfl cl_X8_isLetter (by decide) (Nat.le_of_ble_eq_true rfl) rfl ?_
    unfold f_X8_isLetter at h
    refine v_iload_n 1 0 dX8_isLetter_0 rfl rfl rfl ?_
    refine v_bipush 3 97 dX8_isLetter_1 kc_b_97 rfl ?_
    refine v_icmp_lt 6 16 h dX8_isLetter_3 rfl (by decide) (fun h => ?_) (fun h => ?_)
    · refine v_iconst 17 0 dX8_isLetter_16 kc_i_0 rfl ?_
      exact v_zretT h rfl (Or.inl rfl) dX8_isLetter_17
    · refine v_iload_n 7 0 dX8_isLetter_6 rfl rfl rfl ?_
      refine v_bipush 9 122 dX8_isLetter_7 kc_b_122 rfl ?_
      refine v_icmp_gt 12 16 h dX8_isLetter_9 rfl (by decide) (fun h => ?_) (fun h => ?_)
      · refine v_iconst 17 0 dX8_isLetter_16 kc_i_0 rfl ?_
        exact v_zretT h rfl (Or.inl rfl) dX8_isLetter_17
      · refine v_iconst 13 1 dX8_isLetter_12 kc_i_1 rfl ?_
        refine v_goto 17 dX8_isLetter_13 (by decide) ?_
        exact v_zretT h rfl (Or.inr rfl) dX8_isLetter_17
  exact main _ rfl
-- private boolean isWord(java.lang.String);
abbrev rm_X8_isWord : Room := { frames := 5, cells := 0, slots := 0, locals := 141 }
theorem cl_X8_isWord : Cl yX8_isWord wsX8_isWord cX8_isWord 3 (some .boolean) rm_X8_isWord 1 := ⟨⟨_, rfl⟩, rfl, rfl, by decide +kernel, by decide +kernel, by decide +kernel⟩
theorem in_X8_isWord_5 : ∀ w ∈ wsX80, w ∈ wsX8_isWord := fun w h => List.mem_cons_of_mem _ (List.mem_append_left _ (List.mem_append_right _ h))
def b_X8_isWord_28 (σ : Sg) (k1 : Nat) : Nat → Int32 → Option Int32
  | 0, _ => none
  | f + 1, l2 => (if (nI (tLen.getD k1 0)) ≤ l2 then (some (1)) else (f_X7_at σ 67 ((rI σ 69 4) + l2)).bind fun x1 => (if inb l2 (tLen.getD k1 0) = true then (if x1 = (f_charAt k1 l2) then nam (l2 + 1) fun x2 => b_X8_isWord_28 σ k1 f x2 else (some (0))) else none))
def f_X8_isWord (σ : Sg) (k1 : Nat) : Option Int32 := (if (rI σ 69 3) = 1 then (if ((rI σ 69 5) - (rI σ 69 4)) = (nI (tLen.getD k1 0)) then b_X8_isWord_28 σ k1 FU 0 else (some (0))) else (some (0)))
set_option maxRecDepth 100000 in
set_option maxHeartbeats 4000000 in
theorem q_X8_isWord_28 {g : Cx} (σ : Sg) (k1 : Nat) (hk1 : k1 < 5) (r : Int32) : ∀ f : Nat, ∀ l2 : Int32, b_X8_isWord_28 σ k1 f l2 = some r → V g cX8_isWord RX8 wsX8_isWord 3 (some .boolean) rm_X8_isWord (some (.int r)) σ σ 28 [(0, .ref (g.1 69)), (1, .ref (g.2.2.2.2.1 k1)), (2, .int l2)] [] := by
  intro f
  induction f with
  | zero =>
    intro l2 h
    cases h
  | succ f ih =>
    intro l2 h
    rw [b_X8_isWord_28] at h
    refine v_iload_n 29 2 dX8_isWord_28 rfl rfl rfl ?_
    refine v_aload_n 30 1 dX8_isWord_29 rfl rfl rfl ?_
    refine v_strLen 33 hk1 gX8_isWord_J0_length_8abf5 ⟨Nat.le_of_ble_eq_true rfl, Nat.le_of_ble_eq_true rfl⟩ (Nat.le_of_ble_eq_true rfl) dX8_isWord_30 rfl ?_
    refine v_icmp_ge 36 65 h dX8_isWord_33 rfl (by decide) (fun h => ?_) (fun h => ?_)
    · refine v_iconst 66 1 dX8_isWord_65 kc_i_1 rfl ?_
      exact v_zretP h rfl (Or.inr rfl) dX8_isWord_66
    · refine v_aload_n 37 0 dX8_isWord_36 rfl rfl rfl ?_
      refine vg_5_1 40 (rfl : kK 69 = 5) in_X8_isWord_5 (mem_at 4 rfl) dX8_isWord_37 rfl ?_
      refine v_aload_n 41 0 dX8_isWord_40 rfl rfl rfl ?_
      refine vg_5_4 44 (rfl : kK 69 = 5) in_X8_isWord_5 (mem_at 3 rfl) dX8_isWord_41 rfl ?_
      refine v_iload_n 45 2 dX8_isWord_44 rfl rfl rfl ?_
      refine v_iadd 46 dX8_isWord_45 rfl ?_
      obtain ⟨x1, h0, h⟩ := ob h
      refine v_cV 49 4 [.int ((rI σ 69 4) + l2)] (rfl : kK 67 = 4) rfl (c_X7_at 67 ((rI σ 69 4) + l2) (rfl : kK 67 = 4) _ h0) cl_X7_at gX8_isWord_X7_at rfl ⟨Nat.le_of_ble_eq_true rfl, Nat.le_of_ble_eq_true rfl⟩ rfl rfl (Nat.le_of_ble_eq_true rfl) dX8_isWord_46 rfl ?_
      refine v_aload_n 50 1 dX8_isWord_49 rfl rfl rfl ?_
      refine v_iload_n 51 2 dX8_isWord_50 rfl rfl rfl ?_
      refine v_strAt 54 h hk1 gX8_isWord_J0_charAt_5068e ⟨Nat.le_of_ble_eq_true rfl, Nat.le_of_ble_eq_true rfl⟩ (Nat.le_of_ble_eq_true rfl) dX8_isWord_51 rfl (fun h => ?_)
      refine v_icmp_eq 57 59 h dX8_isWord_54 rfl (by decide) (fun h => ?_) (fun h => ?_)
      · refine v_iincN 62 2 h dX8_isWord_59 rfl kc_i_1 (by decide) rfl (fun _ => rfl) (fun x2 h => ?_)
        refine v_goto 28 dX8_isWord_62 (by decide) ?_
        refine v_sub [1, 2, 0] rfl ?_
        exact ih x2 h
      · refine v_iconst 58 0 dX8_isWord_57 kc_i_0 rfl ?_
        exact v_zretP h rfl (Or.inl rfl) dX8_isWord_58
set_option maxRecDepth 100000 in
set_option maxHeartbeats 4000000 in
theorem c_X8_isWord {g : Cx} {σ : Sg} (k1 : Nat) (hk1 : k1 < 5) (r : Int32) (h : f_X8_isWord σ k1 = some r) : ∀ l, MetF l yX8_isWord wsX8_isWord rm_X8_isWord g [.ref (g.1 69), .ref (g.2.2.2.2.1 k1)] σ (some (.int r)) σ := by
  refine MetF.of (own0 := RX8) (lv0 := [(0, .ref (g.1 69)), (1, .ref (g.2.2.2.2.1 k1))]) rfl cl_X8_isWord (by decide) (Nat.le_of_ble_eq_true rfl) rfl ?_
  unfold f_X8_isWord at h
  refine v_aload_n 1 0 dX8_isWord_0 rfl rfl rfl ?_
  refine vg_5_3 4 (rfl : kK 69 = 5) in_X8_isWord_5 (mem_at 1 rfl) dX8_isWord_1 rfl ?_
  refine v_iconst 5 1 dX8_isWord_4 kc_i_1 rfl ?_
  refine v_icmp_ne 8 24 h dX8_isWord_5 rfl (by decide) (fun h => ?_) (fun h => ?_)
  · refine v_iconst 25 0 dX8_isWord_24 kc_i_0 rfl ?_
    exact v_zretP h rfl (Or.inl rfl) dX8_isWord_25
  · refine v_aload_n 9 0 dX8_isWord_8 rfl rfl rfl ?_
    refine vg_5_5 12 (rfl : kK 69 = 5) in_X8_isWord_5 (mem_at 2 rfl) dX8_isWord_9 rfl ?_
    refine v_aload_n 13 0 dX8_isWord_12 rfl rfl rfl ?_
    refine vg_5_4 16 (rfl : kK 69 = 5) in_X8_isWord_5 (mem_at 3 rfl) dX8_isWord_13 rfl ?_
    refine v_isub 17 dX8_isWord_16 rfl ?_
    refine v_aload_n 18 1 dX8_isWord_17 rfl rfl rfl ?_
    refine v_strLen 21 hk1 gX8_isWord_J0_length_8abf5 ⟨Nat.le_of_ble_eq_true rfl, Nat.le_of_ble_eq_true rfl⟩ (Nat.le_of_ble_eq_true rfl) dX8_isWord_18 rfl ?_
    refine v_icmp_eq 24 26 h dX8_isWord_21 rfl (by decide) (fun h => ?_) (fun h => ?_)
    · refine v_iconst 27 0 dX8_isWord_26 kc_i_0 rfl ?_
      refine v_istore_n 28 dX8_isWord_27 rfl (by decide) rfl rfl ?_
      refine v_sub [1, 2, 0] rfl ?_
      exact q_X8_isWord_28 σ k1 hk1 r FU 0 h
    · refine v_iconst 25 0 dX8_isWord_24 kc_i_0 rfl ?_
      exact v_zretP h rfl (Or.inl rfl) dX8_isWord_25
-- private int wordTold();
abbrev rm_X8_wordTold : Room := { frames := 6, cells := 0, slots := 0, locals := 163 }
theorem cl_X8_wordTold : Cl yX8_wordTold wsX8_wordTold cX8_wordTold 1 (some .int) rm_X8_wordTold 0 := ⟨⟨_, rfl⟩, rfl, rfl, by decide +kernel, by decide +kernel, by decide +kernel⟩
def f_X8_wordTold (σ : Sg) : Option Int32 := (f_X8_isWord σ 0).bind fun x1 => (if x1 = 0 then (f_X8_isWord σ 1).bind fun x2 => (if x2 = 0 then (f_X8_isWord σ 2).bind fun x3 => (if x3 = 0 then (f_X8_isWord σ 3).bind fun x4 => (if x4 = 0 then (f_X8_isWord σ 4).bind fun x5 => (if x5 = 0 then (some ((-1))) else (some (4))) else (some (3))) else (some (2))) else (some (1))) else (some (0)))
set_option maxRecDepth 100000 in
set_option maxHeartbeats 4000000 in
theorem c_X8_wordTold {g : Cx} {σ : Sg} (r : Int32) (h : f_X8_wordTold σ = some r) : ∀ l, MetF l yX8_wordTold wsX8_wordTold rm_X8_wordTold g [.ref (g.1 69)] σ (some (.int r)) σ := by
  refine MetF.of (own0 := RX8) (lv0 := [(0, .ref (g.1 69))]) rfl cl_X8_wordTold (by decide) (Nat.le_of_ble_eq_true rfl) rfl ?_
  unfold f_X8_wordTold at h
  refine v_aload_n 1 0 dX8_wordTold_0 rfl rfl rfl ?_
  refine v_ldcS0 3 dX8_wordTold_1 rfl ?_
  obtain ⟨x1, h0, h⟩ := ob h
  refine v_cV 6 5 [.ref (g.2.2.2.2.1 0)] (rfl : kK 69 = 5) rfl (c_X8_isWord 0 (by decide) _ h0) cl_X8_isWord gX8_wordTold_X8_isWord rfl ⟨Nat.le_of_ble_eq_true rfl, Nat.le_of_ble_eq_true rfl⟩ rfl rfl (Nat.le_of_ble_eq_true rfl) dX8_wordTold_3 rfl ?_
  refine v_if_eq 9 11 h dX8_wordTold_6 rfl (by decide) (fun h => ?_) (fun h => ?_)
  · refine v_aload_n 12 0 dX8_wordTold_11 rfl rfl rfl ?_
    refine v_ldcS1 14 dX8_wordTold_12 rfl ?_
    obtain ⟨x2, h0, h⟩ := ob h
    refine v_cV 17 5 [.ref (g.2.2.2.2.1 1)] (rfl : kK 69 = 5) rfl (c_X8_isWord 1 (by decide) _ h0) cl_X8_isWord gX8_wordTold_X8_isWord rfl ⟨Nat.le_of_ble_eq_true rfl, Nat.le_of_ble_eq_true rfl⟩ rfl rfl (Nat.le_of_ble_eq_true rfl) dX8_wordTold_14 rfl ?_
    refine v_if_eq 20 22 h dX8_wordTold_17 rfl (by decide) (fun h => ?_) (fun h => ?_)
    · refine v_aload_n 23 0 dX8_wordTold_22 rfl rfl rfl ?_
      refine v_ldcS2 25 dX8_wordTold_23 rfl ?_
      obtain ⟨x3, h0, h⟩ := ob h
      refine v_cV 28 5 [.ref (g.2.2.2.2.1 2)] (rfl : kK 69 = 5) rfl (c_X8_isWord 2 (by decide) _ h0) cl_X8_isWord gX8_wordTold_X8_isWord rfl ⟨Nat.le_of_ble_eq_true rfl, Nat.le_of_ble_eq_true rfl⟩ rfl rfl (Nat.le_of_ble_eq_true rfl) dX8_wordTold_25 rfl ?_
      refine v_if_eq 31 33 h dX8_wordTold_28 rfl (by decide) (fun h => ?_) (fun h => ?_)
      · refine v_aload_n 34 0 dX8_wordTold_33 rfl rfl rfl ?_
        refine v_ldcS3 36 dX8_wordTold_34 rfl ?_
        obtain ⟨x4, h0, h⟩ := ob h
        refine v_cV 39 5 [.ref (g.2.2.2.2.1 3)] (rfl : kK 69 = 5) rfl (c_X8_isWord 3 (by decide) _ h0) cl_X8_isWord gX8_wordTold_X8_isWord rfl ⟨Nat.le_of_ble_eq_true rfl, Nat.le_of_ble_eq_true rfl⟩ rfl rfl (Nat.le_of_ble_eq_true rfl) dX8_wordTold_36 rfl ?_
        refine v_if_eq 42 44 h dX8_wordTold_39 rfl (by decide) (fun h => ?_) (fun h => ?_)
        · refine v_aload_n 45 0 dX8_wordTold_44 rfl rfl rfl ?_
          refine v_ldcS4 47 dX8_wordTold_45 rfl ?_
          obtain ⟨x5, h0, h⟩ := ob h
          refine v_cV 50 5 [.ref (g.2.2.2.2.1 4)] (rfl : kK 69 = 5) rfl (c_X8_isWord 4 (by decide) _ h0) cl_X8_isWord gX8_wordTold_X8_isWord rfl ⟨Nat.le_of_ble_eq_true rfl, Nat.le_of_ble_eq_true rfl⟩ rfl rfl (Nat.le_of_ble_eq_true rfl) dX8_wordTold_47 rfl ?_
          refine v_if_eq 53 57 h dX8_wordTold_50 rfl (by decide) (fun h => ?_) (fun h => ?_)
          · refine v_iconst 58 (-1) dX8_wordTold_57 kc_i_m1 rfl ?_
            exact v_iretP h rfl dX8_wordTold_58
          · refine v_iconst 54 4 dX8_wordTold_53 kc_i_4 rfl ?_
            refine v_goto 58 dX8_wordTold_54 (by decide) ?_
            exact v_iretP h rfl dX8_wordTold_58
        · refine v_iconst 43 3 dX8_wordTold_42 kc_i_3 rfl ?_
          exact v_iretP h rfl dX8_wordTold_43
      · refine v_iconst 32 2 dX8_wordTold_31 kc_i_2 rfl ?_
        exact v_iretP h rfl dX8_wordTold_32
    · refine v_iconst 21 1 dX8_wordTold_20 kc_i_1 rfl ?_
      exact v_iretP h rfl dX8_wordTold_21
  · refine v_iconst 10 0 dX8_wordTold_9 kc_i_0 rfl ?_
    exact v_iretP h rfl dX8_wordTold_10
-- private boolean wordMayStand();
abbrev rm_X8_wordMayStand : Room := { frames := 1, cells := 0, slots := 0, locals := 20 }
theorem cl_X8_wordMayStand : Cl yX8_wordMayStand wsX8_wordMayStand cX8_wordMayStand 1 (some .boolean) rm_X8_wordMayStand 0 := ⟨⟨_, rfl⟩, rfl, rfl, by decide +kernel, by decide +kernel, by decide +kernel⟩
theorem in_X8_wordMayStand_5 : ∀ w ∈ wsX80, w ∈ wsX8_wordMayStand := fun w h => List.mem_cons_of_mem _ (List.mem_append_left _ (List.mem_append_left _ (List.mem_append_right _ h)))
theorem in_X8_wordMayStand_0 : ∀ w ∈ wsX30, w ∈ wsX8_wordMayStand := fun w h => List.mem_cons_of_mem _ (List.mem_append_left _ (List.mem_append_right _ h))
def f_X8_wordMayStand (σ : Sg) : Int32 := nam (rI σ 69 7) fun x1 => (if x1 = 0 then (if (rI σ 69 8) = 0 then 1 else 0) else (if x1 = 1 then (if (rI σ 69 8) ≤ 0 then 0 else (if (f_X7_isFull σ 71) = 0 then 1 else 0)) else (if x1 = 2 then (if (rI σ 69 8) ≤ 0 then 0 else (if (rI σ 69 7) = (-1) then 0 else 1)) else (if x1 = 3 then (if (rI σ 69 8) ≤ 0 then 0 else (if (f_X7_isFull σ 77) = 0 then 1 else 0)) else (if (rI σ 69 8) ≤ 0 then 0 else (if (rI σ 69 7) = (-1) then 0 else 1))))))
theorem zb_X8_wordMayStand {σ : Sg} : f_X8_wordMayStand σ = 0 ∨ f_X8_wordMayStand σ = 1 := by
  unfold f_X8_wordMayStand
  try simp only [nam]
  repeat' (first | exact Or.inl rfl | exact Or.inr rfl | split | exact zb_X7_isFull)
set_option maxRecDepth 100000 in
set_option maxHeartbeats 4000000 in
theorem c_X8_wordMayStand {g : Cx} {σ : Sg} : ∀ l, MetF l yX8_wordMayStand wsX8_wordMayStand rm_X8_wordMayStand g [.ref (g.1 69)] σ (some (.int (f_X8_wordMayStand σ))) σ := by
  have main : ∀ r : Int32, f_X8_wordMayStand σ = r → ∀ l, MetF l yX8_wordMayStand wsX8_wordMayStand rm_X8_wordMayStand g [.ref (g.1 69)] σ (some (.int r)) σ := by
    intro r h
    refine MetF.of (own0 := RX8) (lv0 := [(0, .ref (g.1 69))]) rfl cl_X8_wordMayStand (by decide) (Nat.le_of_ble_eq_true rfl) rfl ?_
    unfold f_X8_wordMayStand at h
    refine v_aload_n 1 0 dX8_wordMayStand_0 rfl rfl rfl ?_
    refine vg_5_7 4 (rfl : kK 69 = 5) in_X8_wordMayStand_5 (mem_at 1 rfl) dX8_wordMayStand_1 rfl ?_
    refine v_namI h (fun x1 h => ?_)
    refine v_ite h (fun q h => ?_) (fun q0 h => ?_)
    · refine v_tabInZ 36 0 dX8_wordMayStand_4 (ti_of q kc_ti_0) (by decide) (by decide) rfl (by decide) ?_
      refine v_aload_n 37 0 dX8_wordMayStand_36 rfl rfl rfl ?_
      refine vg_5_8 40 (rfl : kK 69 = 5) in_X8_wordMayStand_5 (mem_at 2 rfl) dX8_wordMayStand_37 rfl ?_
      refine v_if_ne 43 47 h dX8_wordMayStand_40 rfl (by decide) (fun h => ?_) (fun h => ?_)
      · refine v_iconst 48 0 dX8_wordMayStand_47 kc_i_0 rfl ?_
        exact v_zretT h rfl (Or.inl rfl) dX8_wordMayStand_48
      · refine v_iconst 44 1 dX8_wordMayStand_43 kc_i_1 rfl ?_
        refine v_goto 48 dX8_wordMayStand_44 (by decide) ?_
        exact v_zretT h rfl (Or.inr rfl) dX8_wordMayStand_48
    refine v_ite h (fun q h => ?_) (fun q1 h => ?_)
    · refine v_tabInZ 49 1 dX8_wordMayStand_4 (ti_of q kc_ti_1) (by decide) (by decide) rfl (by decide) ?_
      refine v_aload_n 50 0 dX8_wordMayStand_49 rfl rfl rfl ?_
      refine vg_5_8 53 (rfl : kK 69 = 5) in_X8_wordMayStand_5 (mem_at 2 rfl) dX8_wordMayStand_50 rfl ?_
      refine v_if_le 56 73 h dX8_wordMayStand_53 rfl (by decide) (fun h => ?_) (fun h => ?_)
      · refine v_iconst 74 0 dX8_wordMayStand_73 kc_i_0 rfl ?_
        exact v_zretT h rfl (Or.inl rfl) dX8_wordMayStand_74
      · refine v_aload_n 57 0 dX8_wordMayStand_56 rfl rfl rfl ?_
        refine vg_5_0 60 70 (rfl : kK 69 = 5) in_X8_wordMayStand_5 (mem_at 3 rfl) rfl dX8_wordMayStand_57 rfl ?_
        refine vg_0_0 63 71 (rfl : kK 70 = 0) in_X8_wordMayStand_0 (mem_at 4 rfl) rfl dX8_wordMayStand_60 rfl ?_
        refine v_cV 66 4 [] (rfl : kK 71 = 4) rfl (c_X7_isFull 71 (rfl : kK 71 = 4)) cl_X7_isFull gX8_wordMayStand_X7_isFull rfl ⟨Nat.le_of_ble_eq_true rfl, Nat.le_of_ble_eq_true rfl⟩ rfl rfl (Nat.le_of_ble_eq_true rfl) dX8_wordMayStand_63 rfl ?_
        refine v_if_ne 69 73 h dX8_wordMayStand_66 rfl (by decide) (fun h => ?_) (fun h => ?_)
        · refine v_iconst 74 0 dX8_wordMayStand_73 kc_i_0 rfl ?_
          exact v_zretT h rfl (Or.inl rfl) dX8_wordMayStand_74
        · refine v_iconst 70 1 dX8_wordMayStand_69 kc_i_1 rfl ?_
          refine v_goto 74 dX8_wordMayStand_70 (by decide) ?_
          exact v_zretT h rfl (Or.inr rfl) dX8_wordMayStand_74
    refine v_ite h (fun q h => ?_) (fun q2 h => ?_)
    · refine v_tabInZ 101 2 dX8_wordMayStand_4 (ti_of q kc_ti_2) (by decide) (by decide) rfl (by decide) ?_
      refine v_aload_n 102 0 dX8_wordMayStand_101 rfl rfl rfl ?_
      refine vg_5_8 105 (rfl : kK 69 = 5) in_X8_wordMayStand_5 (mem_at 2 rfl) dX8_wordMayStand_102 rfl ?_
      refine v_if_le 108 120 h dX8_wordMayStand_105 rfl (by decide) (fun h => ?_) (fun h => ?_)
      · refine v_iconst 121 0 dX8_wordMayStand_120 kc_i_0 rfl ?_
        exact v_zretT h rfl (Or.inl rfl) dX8_wordMayStand_121
      · refine v_aload_n 109 0 dX8_wordMayStand_108 rfl rfl rfl ?_
        refine vg_5_7 112 (rfl : kK 69 = 5) in_X8_wordMayStand_5 (mem_at 1 rfl) dX8_wordMayStand_109 rfl ?_
        refine v_iconst 113 (-1) dX8_wordMayStand_112 kc_i_m1 rfl ?_
        refine v_icmp_eq 116 120 h dX8_wordMayStand_113 rfl (by decide) (fun h => ?_) (fun h => ?_)
        · refine v_iconst 121 0 dX8_wordMayStand_120 kc_i_0 rfl ?_
          exact v_zretT h rfl (Or.inl rfl) dX8_wordMayStand_121
        · refine v_iconst 117 1 dX8_wordMayStand_116 kc_i_1 rfl ?_
          refine v_goto 121 dX8_wordMayStand_117 (by decide) ?_
          exact v_zretT h rfl (Or.inr rfl) dX8_wordMayStand_121
    refine v_ite h (fun q h => ?_) (fun q3 h => ?_)
    · refine v_tabInZ 75 3 dX8_wordMayStand_4 (ti_of q kc_ti_3) (by decide) (by decide) rfl (by decide) ?_
      refine v_aload_n 76 0 dX8_wordMayStand_75 rfl rfl rfl ?_
      refine vg_5_8 79 (rfl : kK 69 = 5) in_X8_wordMayStand_5 (mem_at 2 rfl) dX8_wordMayStand_76 rfl ?_
      refine v_if_le 82 99 h dX8_wordMayStand_79 rfl (by decide) (fun h => ?_) (fun h => ?_)
      · refine v_iconst 100 0 dX8_wordMayStand_99 kc_i_0 rfl ?_
        exact v_zretT h rfl (Or.inl rfl) dX8_wordMayStand_100
      · refine v_aload_n 83 0 dX8_wordMayStand_82 rfl rfl rfl ?_
        refine vg_5_0 86 70 (rfl : kK 69 = 5) in_X8_wordMayStand_5 (mem_at 3 rfl) rfl dX8_wordMayStand_83 rfl ?_
        refine vg_0_3 89 77 (rfl : kK 70 = 0) in_X8_wordMayStand_0 (mem_at 5 rfl) rfl dX8_wordMayStand_86 rfl ?_
        refine v_cV 92 4 [] (rfl : kK 77 = 4) rfl (c_X7_isFull 77 (rfl : kK 77 = 4)) cl_X7_isFull gX8_wordMayStand_X7_isFull rfl ⟨Nat.le_of_ble_eq_true rfl, Nat.le_of_ble_eq_true rfl⟩ rfl rfl (Nat.le_of_ble_eq_true rfl) dX8_wordMayStand_89 rfl ?_
        refine v_if_ne 95 99 h dX8_wordMayStand_92 rfl (by decide) (fun h => ?_) (fun h => ?_)
        · refine v_iconst 100 0 dX8_wordMayStand_99 kc_i_0 rfl ?_
          exact v_zretT h rfl (Or.inl rfl) dX8_wordMayStand_100
        · refine v_iconst 96 1 dX8_wordMayStand_95 kc_i_1 rfl ?_
          refine v_goto 100 dX8_wordMayStand_96 (by decide) ?_
          exact v_zretT h rfl (Or.inr rfl) dX8_wordMayStand_100
    have a0 := ne_lit q0 kc_ti_0
    have a1 := ne_lit q1 kc_ti_1
    have a2 := ne_lit q2 kc_ti_2
    have a3 := ne_lit q3 kc_ti_3
    refine v_tabOut 101 dX8_wordMayStand_4 (by omega) (by decide) ?_
    refine v_aload_n 102 0 dX8_wordMayStand_101 rfl rfl rfl ?_
    refine vg_5_8 105 (rfl : kK 69 = 5) in_X8_wordMayStand_5 (mem_at 2 rfl) dX8_wordMayStand_102 rfl ?_
    refine v_if_le 108 120 h dX8_wordMayStand_105 rfl (by decide) (fun h => ?_) (fun h => ?_)
    · refine v_iconst 121 0 dX8_wordMayStand_120 kc_i_0 rfl ?_
      exact v_zretT h rfl (Or.inl rfl) dX8_wordMayStand_121
    · refine v_aload_n 109 0 dX8_wordMayStand_108 rfl rfl rfl ?_
      refine vg_5_7 112 (rfl : kK 69 = 5) in_X8_wordMayStand_5 (mem_at 1 rfl) dX8_wordMayStand_109 rfl ?_
      refine v_iconst 113 (-1) dX8_wordMayStand_112 kc_i_m1 rfl ?_
      refine v_icmp_eq 116 120 h dX8_wordMayStand_113 rfl (by decide) (fun h => ?_) (fun h => ?_)
      · refine v_iconst 121 0 dX8_wordMayStand_120 kc_i_0 rfl ?_
        exact v_zretT h rfl (Or.inl rfl) dX8_wordMayStand_121
      · refine v_iconst 117 1 dX8_wordMayStand_116 kc_i_1 rfl ?_
        refine v_goto 121 dX8_wordMayStand_117 (by decide) ?_
        exact v_zretT h rfl (Or.inr rfl) dX8_wordMayStand_121
  exact main _ rfl
-- private void takeLetters();
abbrev rm_X8_takeLetters : Room := { frames := 1, cells := 0, slots := 0, locals := 21 }
theorem cl_X8_takeLetters : Cl yX8_takeLetters wsX8_takeLetters cX8_takeLetters 1 none rm_X8_takeLetters 0 := ⟨⟨_, rfl⟩, rfl, rfl, by decide +kernel, by decide +kernel, by decide +kernel⟩
theorem in_X8_takeLetters_5 : ∀ w ∈ wsX80, w ∈ wsX8_takeLetters := fun w h => List.mem_cons_of_mem _ (List.mem_append_left _ (List.mem_append_right _ h))
def b_X8_takeLetters_5 : Nat → Sg → Option Sg
  | 0, _ => none
  | f + 1, σ => (if (f_X7_size σ 67) ≤ (rI σ 69 5) then (some σ) else (f_X7_at σ 67 (rI σ 69 5)).bind fun x2 => (if (f_X8_isLetter x2) = 0 then (some σ) else nam (stI σ 69 5 ((rI σ 69 5) + 1)) fun s3 => b_X8_takeLetters_5 f s3))
def f_X8_takeLetters (σ : Sg) : Option Sg := nam (stI σ 69 3 1) fun s1 => b_X8_takeLetters_5 FU s1
set_option maxRecDepth 100000 in
set_option maxHeartbeats 4000000 in
theorem q_X8_takeLetters_5 {g : Cx} (τ : Sg) : ∀ f : Nat, ∀ σ : Sg, b_X8_takeLetters_5 f σ = some τ → V g cX8_takeLetters RX8 wsX8_takeLetters 1 none rm_X8_takeLetters none τ σ 5 [(0, .ref (g.1 69))] [] := by
  intro f
  induction f with
  | zero =>
    intro σ h
    cases h
  | succ f ih =>
    intro σ h
    rw [b_X8_takeLetters_5] at h
    refine v_aload_n 6 0 dX8_takeLetters_5 rfl rfl rfl ?_
    refine vg_5_5 9 (rfl : kK 69 = 5) in_X8_takeLetters_5 (mem_at 2 rfl) dX8_takeLetters_6 rfl ?_
    refine v_aload_n 10 0 dX8_takeLetters_9 rfl rfl rfl ?_
    refine vg_5_1 13 (rfl : kK 69 = 5) in_X8_takeLetters_5 (mem_at 3 rfl) dX8_takeLetters_10 rfl ?_
    refine v_cV 16 4 [] (rfl : kK 67 = 4) rfl (c_X7_size 67 (rfl : kK 67 = 4)) cl_X7_size gX8_takeLetters_X7_size rfl ⟨Nat.le_of_ble_eq_true rfl, Nat.le_of_ble_eq_true rfl⟩ rfl rfl (Nat.le_of_ble_eq_true rfl) dX8_takeLetters_13 rfl ?_
    refine v_icmp_ge 19 49 h dX8_takeLetters_16 rfl (by decide) (fun h => ?_) (fun h => ?_)
    · exact v_vretS h rfl dX8_takeLetters_49
    · refine v_aload_n 20 0 dX8_takeLetters_19 rfl rfl rfl ?_
      refine vg_5_1 23 (rfl : kK 69 = 5) in_X8_takeLetters_5 (mem_at 3 rfl) dX8_takeLetters_20 rfl ?_
      refine v_aload_n 24 0 dX8_takeLetters_23 rfl rfl rfl ?_
      refine vg_5_5 27 (rfl : kK 69 = 5) in_X8_takeLetters_5 (mem_at 2 rfl) dX8_takeLetters_24 rfl ?_
      obtain ⟨x2, h0, h⟩ := ob h
      refine v_cV 30 4 [.int (rI σ 69 5)] (rfl : kK 67 = 4) rfl (c_X7_at 67 (rI σ 69 5) (rfl : kK 67 = 4) _ h0) cl_X7_at gX8_takeLetters_X7_at rfl ⟨Nat.le_of_ble_eq_true rfl, Nat.le_of_ble_eq_true rfl⟩ rfl rfl (Nat.le_of_ble_eq_true rfl) dX8_takeLetters_27 rfl ?_
      refine v_cS 33 [.int x2] (c_X8_isLetter x2) cl_X8_isLetter gX8_takeLetters_X8_isLetter ⟨Nat.le_of_ble_eq_true rfl, Nat.le_of_ble_eq_true rfl⟩ rfl rfl (Nat.le_of_ble_eq_true rfl) dX8_takeLetters_30 rfl ?_
      refine v_if_eq 36 49 h dX8_takeLetters_33 rfl (by decide) (fun h => ?_) (fun h => ?_)
      · exact v_vretS h rfl dX8_takeLetters_49
      · refine v_aload_n 37 0 dX8_takeLetters_36 rfl rfl rfl ?_
        refine v_dup 38 dX8_takeLetters_37 rfl rfl ?_
        refine vg_5_5 41 (rfl : kK 69 = 5) in_X8_takeLetters_5 (mem_at 2 rfl) dX8_takeLetters_38 rfl ?_
        refine v_iconst 42 1 dX8_takeLetters_41 kc_i_1 rfl ?_
        refine v_iadd 43 dX8_takeLetters_42 rfl ?_
        refine vp_5_5 46 h (rfl : kK 69 = 5) in_X8_takeLetters_5 (mem_at 2 rfl) dX8_takeLetters_43 rfl (fun s3 h => ?_)
        refine v_goto 5 dX8_takeLetters_46 (by decide) ?_
        refine v_sub [0] rfl ?_
        exact ih s3 h
set_option maxRecDepth 100000 in
set_option maxHeartbeats 4000000 in
theorem c_X8_takeLetters {g : Cx} {σ : Sg} (τ : Sg) (h : f_X8_takeLetters σ = some τ) : ∀ l, MetF l yX8_takeLetters wsX8_takeLetters rm_X8_takeLetters g [.ref (g.1 69)] σ none τ := by
  refine MetF.of (own0 := RX8) (lv0 := [(0, .ref (g.1 69))]) rfl cl_X8_takeLetters (by decide) (Nat.le_of_ble_eq_true rfl) rfl ?_
  unfold f_X8_takeLetters at h
  refine v_aload_n 1 0 dX8_takeLetters_0 rfl rfl rfl ?_
  refine v_iconst 2 1 dX8_takeLetters_1 kc_i_1 rfl ?_
  refine vp_5_3 5 h (rfl : kK 69 = 5) in_X8_takeLetters_5 (mem_at 1 rfl) dX8_takeLetters_2 rfl (fun s1 h => ?_)
  refine v_sub [0] rfl ?_
  exact q_X8_takeLetters_5 τ FU s1 h
-- private void takeFigures();
abbrev rm_X8_takeFigures : Room := { frames := 1, cells := 0, slots := 0, locals := 21 }
theorem cl_X8_takeFigures : Cl yX8_takeFigures wsX8_takeFigures cX8_takeFigures 1 none rm_X8_takeFigures 0 := ⟨⟨_, rfl⟩, rfl, rfl, by decide +kernel, by decide +kernel, by decide +kernel⟩
theorem in_X8_takeFigures_5 : ∀ w ∈ wsX80, w ∈ wsX8_takeFigures := fun w h => List.mem_cons_of_mem _ (List.mem_append_left _ (List.mem_append_right _ h))
def b_X8_takeFigures_95 (σ : Sg) : Option Sg := (if 2 < ((rI σ 69 5) - (rI σ 69 4)) then nam (stI σ 69 3 4) fun s2 => (some s2) else nam (stI σ 69 3 2) fun s3 => (some s3))
def b_X8_takeFigures_79 (c5 : Sg → Option Sg) (σ : Sg) (t0 : Int32) : Option Sg := nam (stI σ 69 6 t0) fun s5 => nam (stI s5 69 5 ((rI s5 69 5) + 1)) fun s6 => c5 s6
def b_X8_takeFigures_5 : Nat → Sg → Option Sg
  | 0, _ => none
  | f + 1, σ => (if (f_X7_size σ 67) ≤ (rI σ 69 5) then b_X8_takeFigures_95 σ else (f_X7_at σ 67 (rI σ 69 5)).bind fun x4 => (if (f_X8_isFigure x4) = 0 then b_X8_takeFigures_95 σ else (if 2 ≤ ((rI σ 69 5) - (rI σ 69 4)) then b_X8_takeFigures_79 (b_X8_takeFigures_5 f) σ (rI σ 69 6) else (f_X7_at σ 67 (rI σ 69 5)).bind fun x7 => b_X8_takeFigures_79 (b_X8_takeFigures_5 f) σ (((10 * (rI σ 69 6)) + x7) - 48))))
def f_X8_takeFigures (σ : Sg) : Option Sg := nam (stI σ 69 6 0) fun s1 => b_X8_takeFigures_5 FU s1
set_option maxRecDepth 100000 in
set_option maxHeartbeats 4000000 in
theorem q_X8_takeFigures_95 {g : Cx} (τ : Sg) : ∀ σ : Sg, b_X8_takeFigures_95 σ = some τ → V g cX8_takeFigures RX8 wsX8_takeFigures 1 none rm_X8_takeFigures none τ σ 95 [(0, .ref (g.1 69))] [] := by
  intro σ h
  unfold b_X8_takeFigures_95 at h
  refine v_aload_n 96 0 dX8_takeFigures_95 rfl rfl rfl ?_
  refine v_aload_n 97 0 dX8_takeFigures_96 rfl rfl rfl ?_
  refine vg_5_5 100 (rfl : kK 69 = 5) in_X8_takeFigures_5 (mem_at 2 rfl) dX8_takeFigures_97 rfl ?_
  refine v_aload_n 101 0 dX8_takeFigures_100 rfl rfl rfl ?_
  refine vg_5_4 104 (rfl : kK 69 = 5) in_X8_takeFigures_5 (mem_at 4 rfl) dX8_takeFigures_101 rfl ?_
  refine v_isub 105 dX8_takeFigures_104 rfl ?_
  refine v_iconst 106 2 dX8_takeFigures_105 kc_i_2 rfl ?_
  refine v_icmp_gt 109 113 h dX8_takeFigures_106 rfl (by decide) (fun h => ?_) (fun h => ?_)
  · refine v_iconst 114 4 dX8_takeFigures_113 kc_i_4 rfl ?_
    refine vp_5_3 117 h (rfl : kK 69 = 5) in_X8_takeFigures_5 (mem_at 5 rfl) dX8_takeFigures_114 rfl (fun s2 h => ?_)
    exact v_vretS h rfl dX8_takeFigures_117
  · refine v_iconst 110 2 dX8_takeFigures_109 kc_i_2 rfl ?_
    refine v_goto 114 dX8_takeFigures_110 (by decide) ?_
    refine vp_5_3 117 h (rfl : kK 69 = 5) in_X8_takeFigures_5 (mem_at 5 rfl) dX8_takeFigures_114 rfl (fun s3 h => ?_)
    exact v_vretS h rfl dX8_takeFigures_117
set_option maxRecDepth 100000 in
set_option maxHeartbeats 4000000 in
theorem q_X8_takeFigures_79 {g : Cx} (τ : Sg) (c5 : Sg → Option Sg) (hc5 : ∀ σ : Sg, c5 σ = some τ → V g cX8_takeFigures RX8 wsX8_takeFigures 1 none rm_X8_takeFigures none τ σ 5 [(0, .ref (g.1 69))] []) : ∀ σ : Sg, ∀ t0 : Int32, b_X8_takeFigures_79 c5 σ t0 = some τ → V g cX8_takeFigures RX8 wsX8_takeFigures 1 none rm_X8_takeFigures none τ σ 79 [(0, .ref (g.1 69))] [.int t0, .ref (g.1 69)] := by
  intro σ t0 h
  unfold b_X8_takeFigures_79 at h
  refine vp_5_6 82 h (rfl : kK 69 = 5) in_X8_takeFigures_5 (mem_at 1 rfl) dX8_takeFigures_79 rfl (fun s5 h => ?_)
  refine v_aload_n 83 0 dX8_takeFigures_82 rfl rfl rfl ?_
  refine v_dup 84 dX8_takeFigures_83 rfl rfl ?_
  refine vg_5_5 87 (rfl : kK 69 = 5) in_X8_takeFigures_5 (mem_at 2 rfl) dX8_takeFigures_84 rfl ?_
  refine v_iconst 88 1 dX8_takeFigures_87 kc_i_1 rfl ?_
  refine v_iadd 89 dX8_takeFigures_88 rfl ?_
  refine vp_5_5 92 h (rfl : kK 69 = 5) in_X8_takeFigures_5 (mem_at 2 rfl) dX8_takeFigures_89 rfl (fun s6 h => ?_)
  refine v_goto 5 dX8_takeFigures_92 (by decide) ?_
  refine v_sub [0] rfl ?_
  exact hc5 s6 h
set_option maxRecDepth 100000 in
set_option maxHeartbeats 4000000 in
theorem q_X8_takeFigures_5 {g : Cx} (τ : Sg) : ∀ f : Nat, ∀ σ : Sg, b_X8_takeFigures_5 f σ = some τ → V g cX8_takeFigures RX8 wsX8_takeFigures 1 none rm_X8_takeFigures none τ σ 5 [(0, .ref (g.1 69))] [] := by
  intro f
  induction f with
  | zero =>
    intro σ h
    cases h
  | succ f ih =>
    intro σ h
    rw [b_X8_takeFigures_5] at h
    refine v_aload_n 6 0 dX8_takeFigures_5 rfl rfl rfl ?_
    refine vg_5_5 9 (rfl : kK 69 = 5) in_X8_takeFigures_5 (mem_at 2 rfl) dX8_takeFigures_6 rfl ?_
    refine v_aload_n 10 0 dX8_takeFigures_9 rfl rfl rfl ?_
    refine vg_5_1 13 (rfl : kK 69 = 5) in_X8_takeFigures_5 (mem_at 3 rfl) dX8_takeFigures_10 rfl ?_
    refine v_cV 16 4 [] (rfl : kK 67 = 4) rfl (c_X7_size 67 (rfl : kK 67 = 4)) cl_X7_size gX8_takeFigures_X7_size rfl ⟨Nat.le_of_ble_eq_true rfl, Nat.le_of_ble_eq_true rfl⟩ rfl rfl (Nat.le_of_ble_eq_true rfl) dX8_takeFigures_13 rfl ?_
    refine v_icmp_ge 19 95 h dX8_takeFigures_16 rfl (by decide) (fun h => ?_) (fun h => ?_)
    · refine v_sub [0] rfl ?_
      exact q_X8_takeFigures_95 τ σ h
    · refine v_aload_n 20 0 dX8_takeFigures_19 rfl rfl rfl ?_
      refine vg_5_1 23 (rfl : kK 69 = 5) in_X8_takeFigures_5 (mem_at 3 rfl) dX8_takeFigures_20 rfl ?_
      refine v_aload_n 24 0 dX8_takeFigures_23 rfl rfl rfl ?_
      refine vg_5_5 27 (rfl : kK 69 = 5) in_X8_takeFigures_5 (mem_at 2 rfl) dX8_takeFigures_24 rfl ?_
      obtain ⟨x4, h0, h⟩ := ob h
      refine v_cV 30 4 [.int (rI σ 69 5)] (rfl : kK 67 = 4) rfl (c_X7_at 67 (rI σ 69 5) (rfl : kK 67 = 4) _ h0) cl_X7_at gX8_takeFigures_X7_at rfl ⟨Nat.le_of_ble_eq_true rfl, Nat.le_of_ble_eq_true rfl⟩ rfl rfl (Nat.le_of_ble_eq_true rfl) dX8_takeFigures_27 rfl ?_
      refine v_cS 33 [.int x4] (c_X8_isFigure x4) cl_X8_isFigure gX8_takeFigures_X8_isFigure ⟨Nat.le_of_ble_eq_true rfl, Nat.le_of_ble_eq_true rfl⟩ rfl rfl (Nat.le_of_ble_eq_true rfl) dX8_takeFigures_30 rfl ?_
      refine v_if_eq 36 95 h dX8_takeFigures_33 rfl (by decide) (fun h => ?_) (fun h => ?_)
      · refine v_sub [0] rfl ?_
        exact q_X8_takeFigures_95 τ σ h
      · refine v_aload_n 37 0 dX8_takeFigures_36 rfl rfl rfl ?_
        refine v_aload_n 38 0 dX8_takeFigures_37 rfl rfl rfl ?_
        refine vg_5_5 41 (rfl : kK 69 = 5) in_X8_takeFigures_5 (mem_at 2 rfl) dX8_takeFigures_38 rfl ?_
        refine v_aload_n 42 0 dX8_takeFigures_41 rfl rfl rfl ?_
        refine vg_5_4 45 (rfl : kK 69 = 5) in_X8_takeFigures_5 (mem_at 4 rfl) dX8_takeFigures_42 rfl ?_
        refine v_isub 46 dX8_takeFigures_45 rfl ?_
        refine v_iconst 47 2 dX8_takeFigures_46 kc_i_2 rfl ?_
        refine v_icmp_ge 50 75 h dX8_takeFigures_47 rfl (by decide) (fun h => ?_) (fun h => ?_)
        · refine v_aload_n 76 0 dX8_takeFigures_75 rfl rfl rfl ?_
          refine vg_5_6 79 (rfl : kK 69 = 5) in_X8_takeFigures_5 (mem_at 1 rfl) dX8_takeFigures_76 rfl ?_
          refine v_sub [0] rfl ?_
          exact q_X8_takeFigures_79 τ (b_X8_takeFigures_5 f) ih σ (rI σ 69 6) h
        · refine v_bipush 52 10 dX8_takeFigures_50 kc_b_10 rfl ?_
          refine v_aload_n 53 0 dX8_takeFigures_52 rfl rfl rfl ?_
          refine vg_5_6 56 (rfl : kK 69 = 5) in_X8_takeFigures_5 (mem_at 1 rfl) dX8_takeFigures_53 rfl ?_
          refine v_imul 57 dX8_takeFigures_56 rfl ?_
          refine v_aload_n 58 0 dX8_takeFigures_57 rfl rfl rfl ?_
          refine vg_5_1 61 (rfl : kK 69 = 5) in_X8_takeFigures_5 (mem_at 3 rfl) dX8_takeFigures_58 rfl ?_
          refine v_aload_n 62 0 dX8_takeFigures_61 rfl rfl rfl ?_
          refine vg_5_5 65 (rfl : kK 69 = 5) in_X8_takeFigures_5 (mem_at 2 rfl) dX8_takeFigures_62 rfl ?_
          obtain ⟨x7, h0, h⟩ := ob h
          refine v_cV 68 4 [.int (rI σ 69 5)] (rfl : kK 67 = 4) rfl (c_X7_at 67 (rI σ 69 5) (rfl : kK 67 = 4) _ h0) cl_X7_at gX8_takeFigures_X7_at rfl ⟨Nat.le_of_ble_eq_true rfl, Nat.le_of_ble_eq_true rfl⟩ rfl rfl (Nat.le_of_ble_eq_true rfl) dX8_takeFigures_65 rfl ?_
          refine v_iadd 69 dX8_takeFigures_68 rfl ?_
          refine v_bipush 71 48 dX8_takeFigures_69 kc_b_48 rfl ?_
          refine v_isub 72 dX8_takeFigures_71 rfl ?_
          refine v_goto 79 dX8_takeFigures_72 (by decide) ?_
          refine v_sub [0] rfl ?_
          exact q_X8_takeFigures_79 τ (b_X8_takeFigures_5 f) ih σ (((10 * (rI σ 69 6)) + x7) - 48) h
set_option maxRecDepth 100000 in
set_option maxHeartbeats 4000000 in
theorem c_X8_takeFigures {g : Cx} {σ : Sg} (τ : Sg) (h : f_X8_takeFigures σ = some τ) : ∀ l, MetF l yX8_takeFigures wsX8_takeFigures rm_X8_takeFigures g [.ref (g.1 69)] σ none τ := by
  refine MetF.of (own0 := RX8) (lv0 := [(0, .ref (g.1 69))]) rfl cl_X8_takeFigures (by decide) (Nat.le_of_ble_eq_true rfl) rfl ?_
  unfold f_X8_takeFigures at h
  refine v_aload_n 1 0 dX8_takeFigures_0 rfl rfl rfl ?_
  refine v_iconst 2 0 dX8_takeFigures_1 kc_i_0 rfl ?_
  refine vp_5_6 5 h (rfl : kK 69 = 5) in_X8_takeFigures_5 (mem_at 1 rfl) dX8_takeFigures_2 rfl (fun s1 h => ?_)
  refine v_sub [0] rfl ?_
  exact q_X8_takeFigures_5 τ FU s1 h
-- private void step();
abbrev rm_X8_step : Room := { frames := 2, cells := 0, slots := 0, locals := 41 }
theorem cl_X8_step : Cl yX8_step wsX8_step cX8_step 2 none rm_X8_step 0 := ⟨⟨_, rfl⟩, rfl, rfl, by decide +kernel, by decide +kernel, by decide +kernel⟩
theorem in_X8_step_5 : ∀ w ∈ wsX80, w ∈ wsX8_step := fun w h => List.mem_cons_of_mem _ (List.mem_append_left _ (List.mem_append_right _ h))
def b_X8_step_125 (σ : Sg) (t0 : Int32) : Option Sg := nam (stI σ 69 3 t0) fun s3 => nam (stI s3 69 5 ((rI s3 69 5) + 1)) fun s4 => (some s4)
def b_X8_step_43 (σ : Sg) : Option Sg := nam (stI σ 69 4 (rI σ 69 5)) fun s1 => (f_X7_at s1 67 (rI s1 69 4)).bind fun x2 => (if (rI s1 69 4) < (f_X7_size s1 67) then (if (f_X8_isLetter x2) = 0 then (if (f_X8_isFigure x2) = 0 then (if x2 = 59 then b_X8_step_125 s1 3 else b_X8_step_125 s1 4) else (f_X8_takeFigures s1).bind fun s5 => (some s5)) else (f_X8_takeLetters s1).bind fun s6 => (some s6)) else nam (stI s1 69 3 0) fun s7 => (some s7))
def b_X8_step_0 : Nat → Sg → Option Sg
  | 0, _ => none
  | f + 1, σ => (if (f_X7_size σ 67) ≤ (rI σ 69 5) then b_X8_step_43 σ else (f_X7_at σ 67 (rI σ 69 5)).bind fun x8 => (if x8 = 32 then nam (stI σ 69 5 ((rI σ 69 5) + 1)) fun s9 => b_X8_step_0 f s9 else b_X8_step_43 σ))
def f_X8_step (σ : Sg) : Option Sg := b_X8_step_0 FU σ
set_option maxRecDepth 100000 in
set_option maxHeartbeats 4000000 in
theorem q_X8_step_125 {g : Cx} (τ : Sg) : ∀ σ : Sg, ∀ t0 : Int32, b_X8_step_125 σ t0 = some τ → V g cX8_step RX8 wsX8_step 2 none rm_X8_step none τ σ 125 [(0, .ref (g.1 69))] [.int t0, .ref (g.1 69)] := by
  intro σ t0 h
  unfold b_X8_step_125 at h
  refine vp_5_3 128 h (rfl : kK 69 = 5) in_X8_step_5 (mem_at 4 rfl) dX8_step_125 rfl (fun s3 h => ?_)
  refine v_aload_n 129 0 dX8_step_128 rfl rfl rfl ?_
  refine v_dup 130 dX8_step_129 rfl rfl ?_
  refine vg_5_5 133 (rfl : kK 69 = 5) in_X8_step_5 (mem_at 1 rfl) dX8_step_130 rfl ?_
  refine v_iconst 134 1 dX8_step_133 kc_i_1 rfl ?_
  refine v_iadd 135 dX8_step_134 rfl ?_
  refine vp_5_5 138 h (rfl : kK 69 = 5) in_X8_step_5 (mem_at 1 rfl) dX8_step_135 rfl (fun s4 h => ?_)
  exact v_vretS h rfl dX8_step_138
set_option maxRecDepth 100000 in
set_option maxHeartbeats 4000000 in
theorem q_X8_step_43 {g : Cx} (τ : Sg) : ∀ σ : Sg, b_X8_step_43 σ = some τ → V g cX8_step RX8 wsX8_step 2 none rm_X8_step none τ σ 43 [(0, .ref (g.1 69))] [] := by
  intro σ h
  unfold b_X8_step_43 at h
  refine v_aload_n 44 0 dX8_step_43 rfl rfl rfl ?_
  refine v_aload_n 45 0 dX8_step_44 rfl rfl rfl ?_
  refine vg_5_5 48 (rfl : kK 69 = 5) in_X8_step_5 (mem_at 1 rfl) dX8_step_45 rfl ?_
  refine vp_5_4 51 h (rfl : kK 69 = 5) in_X8_step_5 (mem_at 3 rfl) dX8_step_48 rfl (fun s1 h => ?_)
  refine v_aload_n 52 0 dX8_step_51 rfl rfl rfl ?_
  refine vg_5_1 55 (rfl : kK 69 = 5) in_X8_step_5 (mem_at 2 rfl) dX8_step_52 rfl ?_
  refine v_aload_n 56 0 dX8_step_55 rfl rfl rfl ?_
  refine vg_5_4 59 (rfl : kK 69 = 5) in_X8_step_5 (mem_at 3 rfl) dX8_step_56 rfl ?_
  obtain ⟨x2, h0, h⟩ := ob h
  refine v_cV 62 4 [.int (rI s1 69 4)] (rfl : kK 67 = 4) rfl (c_X7_at 67 (rI s1 69 4) (rfl : kK 67 = 4) _ h0) cl_X7_at gX8_step_X7_at rfl ⟨Nat.le_of_ble_eq_true rfl, Nat.le_of_ble_eq_true rfl⟩ rfl rfl (Nat.le_of_ble_eq_true rfl) dX8_step_59 rfl ?_
  refine v_istore_n 63 dX8_step_62 rfl (by decide) rfl rfl ?_
  refine v_aload_n 64 1 dX8_step_63 rfl rfl rfl ?_
  refine vg_5_4 67 (rfl : kK 69 = 5) in_X8_step_5 (mem_at 3 rfl) dX8_step_64 rfl ?_
  refine v_aload_n 68 1 dX8_step_67 rfl rfl rfl ?_
  refine vg_5_1 71 (rfl : kK 69 = 5) in_X8_step_5 (mem_at 2 rfl) dX8_step_68 rfl ?_
  refine v_cV 74 4 [] (rfl : kK 67 = 4) rfl (c_X7_size 67 (rfl : kK 67 = 4)) cl_X7_size gX8_step_X7_size rfl ⟨Nat.le_of_ble_eq_true rfl, Nat.le_of_ble_eq_true rfl⟩ rfl rfl (Nat.le_of_ble_eq_true rfl) dX8_step_71 rfl ?_
  refine v_icmp_lt 77 85 h dX8_step_74 rfl (by decide) (fun h => ?_) (fun h => ?_)
  · refine v_iload_n 86 0 dX8_step_85 rfl rfl rfl ?_
    refine v_cS 89 [.int x2] (c_X8_isLetter x2) cl_X8_isLetter gX8_step_X8_isLetter ⟨Nat.le_of_ble_eq_true rfl, Nat.le_of_ble_eq_true rfl⟩ rfl rfl (Nat.le_of_ble_eq_true rfl) dX8_step_86 rfl ?_
    refine v_if_eq 92 99 h dX8_step_89 rfl (by decide) (fun h => ?_) (fun h => ?_)
    · refine v_iload_n 100 0 dX8_step_99 rfl rfl rfl ?_
      refine v_cS 103 [.int x2] (c_X8_isFigure x2) cl_X8_isFigure gX8_step_X8_isFigure ⟨Nat.le_of_ble_eq_true rfl, Nat.le_of_ble_eq_true rfl⟩ rfl rfl (Nat.le_of_ble_eq_true rfl) dX8_step_100 rfl ?_
      refine v_if_eq 106 113 h dX8_step_103 rfl (by decide) (fun h => ?_) (fun h => ?_)
      · refine v_aload_n 114 1 dX8_step_113 rfl rfl rfl ?_
        refine v_iload_n 115 0 dX8_step_114 rfl rfl rfl ?_
        refine v_bipush 117 59 dX8_step_115 kc_b_59 rfl ?_
        refine v_icmp_ne 120 124 h dX8_step_117 rfl (by decide) (fun h => ?_) (fun h => ?_)
        · refine v_iconst 125 4 dX8_step_124 kc_i_4 rfl ?_
          refine v_sub [1] rfl ?_
          exact q_X8_step_125 τ s1 4 h
        · refine v_iconst 121 3 dX8_step_120 kc_i_3 rfl ?_
          refine v_goto 125 dX8_step_121 (by decide) ?_
          refine v_sub [1] rfl ?_
          exact q_X8_step_125 τ s1 3 h
      · refine v_aload_n 107 1 dX8_step_106 rfl rfl rfl ?_
        obtain ⟨s5, h0, h⟩ := ob h
        refine v_cV 110 5 [] (rfl : kK 69 = 5) rfl (c_X8_takeFigures _ h0) cl_X8_takeFigures gX8_step_X8_takeFigures rfl ⟨Nat.le_of_ble_eq_true rfl, Nat.le_of_ble_eq_true rfl⟩ rfl rfl (Nat.le_of_ble_eq_true rfl) dX8_step_107 rfl ?_
        refine v_goto 138 dX8_step_110 (by decide) ?_
        exact v_vretS h rfl dX8_step_138
    · refine v_aload_n 93 1 dX8_step_92 rfl rfl rfl ?_
      obtain ⟨s6, h0, h⟩ := ob h
      refine v_cV 96 5 [] (rfl : kK 69 = 5) rfl (c_X8_takeLetters _ h0) cl_X8_takeLetters gX8_step_X8_takeLetters rfl ⟨Nat.le_of_ble_eq_true rfl, Nat.le_of_ble_eq_true rfl⟩ rfl rfl (Nat.le_of_ble_eq_true rfl) dX8_step_93 rfl ?_
      refine v_goto 138 dX8_step_96 (by decide) ?_
      exact v_vretS h rfl dX8_step_138
  · refine v_aload_n 78 1 dX8_step_77 rfl rfl rfl ?_
    refine v_iconst 79 0 dX8_step_78 kc_i_0 rfl ?_
    refine vp_5_3 82 h (rfl : kK 69 = 5) in_X8_step_5 (mem_at 4 rfl) dX8_step_79 rfl (fun s7 h => ?_)
    refine v_goto 138 dX8_step_82 (by decide) ?_
    exact v_vretS h rfl dX8_step_138
set_option maxRecDepth 100000 in
set_option maxHeartbeats 4000000 in
theorem q_X8_step_0 {g : Cx} (τ : Sg) : ∀ f : Nat, ∀ σ : Sg, b_X8_step_0 f σ = some τ → V g cX8_step RX8 wsX8_step 2 none rm_X8_step none τ σ 0 [(0, .ref (g.1 69))] [] := by
  intro f
  induction f with
  | zero =>
    intro σ h
    cases h
  | succ f ih =>
    intro σ h
    rw [b_X8_step_0] at h
    refine v_aload_n 1 0 dX8_step_0 rfl rfl rfl ?_
    refine vg_5_5 4 (rfl : kK 69 = 5) in_X8_step_5 (mem_at 1 rfl) dX8_step_1 rfl ?_
    refine v_aload_n 5 0 dX8_step_4 rfl rfl rfl ?_
    refine vg_5_1 8 (rfl : kK 69 = 5) in_X8_step_5 (mem_at 2 rfl) dX8_step_5 rfl ?_
    refine v_cV 11 4 [] (rfl : kK 67 = 4) rfl (c_X7_size 67 (rfl : kK 67 = 4)) cl_X7_size gX8_step_X7_size rfl ⟨Nat.le_of_ble_eq_true rfl, Nat.le_of_ble_eq_true rfl⟩ rfl rfl (Nat.le_of_ble_eq_true rfl) dX8_step_8 rfl ?_
    refine v_icmp_ge 14 43 h dX8_step_11 rfl (by decide) (fun h => ?_) (fun h => ?_)
    · refine v_sub [0] rfl ?_
      exact q_X8_step_43 τ σ h
    · refine v_aload_n 15 0 dX8_step_14 rfl rfl rfl ?_
      refine vg_5_1 18 (rfl : kK 69 = 5) in_X8_step_5 (mem_at 2 rfl) dX8_step_15 rfl ?_
      refine v_aload_n 19 0 dX8_step_18 rfl rfl rfl ?_
      refine vg_5_5 22 (rfl : kK 69 = 5) in_X8_step_5 (mem_at 1 rfl) dX8_step_19 rfl ?_
      obtain ⟨x8, h0, h⟩ := ob h
      refine v_cV 25 4 [.int (rI σ 69 5)] (rfl : kK 67 = 4) rfl (c_X7_at 67 (rI σ 69 5) (rfl : kK 67 = 4) _ h0) cl_X7_at gX8_step_X7_at rfl ⟨Nat.le_of_ble_eq_true rfl, Nat.le_of_ble_eq_true rfl⟩ rfl rfl (Nat.le_of_ble_eq_true rfl) dX8_step_22 rfl ?_
      refine v_bipush 27 32 dX8_step_25 kc_b_32 rfl ?_
      refine v_icmp_ne 30 43 h dX8_step_27 rfl (by decide) (fun h => ?_) (fun h => ?_)
      · refine v_sub [0] rfl ?_
        exact q_X8_step_43 τ σ h
      · refine v_aload_n 31 0 dX8_step_30 rfl rfl rfl ?_
        refine v_dup 32 dX8_step_31 rfl rfl ?_
        refine vg_5_5 35 (rfl : kK 69 = 5) in_X8_step_5 (mem_at 1 rfl) dX8_step_32 rfl ?_
        refine v_iconst 36 1 dX8_step_35 kc_i_1 rfl ?_
        refine v_iadd 37 dX8_step_36 rfl ?_
        refine vp_5_5 40 h (rfl : kK 69 = 5) in_X8_step_5 (mem_at 1 rfl) dX8_step_37 rfl (fun s9 h => ?_)
        refine v_goto 0 dX8_step_40 (by decide) ?_
        refine v_sub [0] rfl ?_
        exact ih s9 h
set_option maxRecDepth 100000 in
set_option maxHeartbeats 4000000 in
theorem c_X8_step {g : Cx} {σ : Sg} (τ : Sg) (h : f_X8_step σ = some τ) : ∀ l, MetF l yX8_step wsX8_step rm_X8_step g [.ref (g.1 69)] σ none τ := by
  refine MetF.of (own0 := RX8) (lv0 := [(0, .ref (g.1 69))]) rfl cl_X8_step (by decide) (Nat.le_of_ble_eq_true rfl) rfl ?_
  unfold f_X8_step at h
  refine v_sub [0] rfl ?_
  exact q_X8_step_0 τ FU σ h
-- private int numbersDue();
abbrev rm_X8_numbersDue : Room := { frames := 0, cells := 0, slots := 0, locals := 0 }
theorem cl_X8_numbersDue : Cl yX8_numbersDue wsX8_numbersDue cX8_numbersDue 1 (some .int) rm_X8_numbersDue 0 := ⟨⟨_, rfl⟩, rfl, rfl, by decide +kernel, by decide +kernel, by decide +kernel⟩
theorem in_X8_numbersDue_5 : ∀ w ∈ wsX80, w ∈ wsX8_numbersDue := fun w h => List.mem_cons_of_mem _ (List.mem_append_right _ h)
def f_X8_numbersDue (σ : Sg) : Int32 := (if (rI σ 69 7) = 0 then 0 else (if (rI σ 69 7) = 1 then 3 else (if (rI σ 69 7) = 2 then 2 else 1)))
set_option maxRecDepth 100000 in
set_option maxHeartbeats 4000000 in
theorem c_X8_numbersDue {g : Cx} {σ : Sg} : ∀ l, MetF l yX8_numbersDue wsX8_numbersDue rm_X8_numbersDue g [.ref (g.1 69)] σ (some (.int (f_X8_numbersDue σ))) σ := by
  have main : ∀ r : Int32, f_X8_numbersDue σ = r → ∀ l, MetF l yX8_numbersDue wsX8_numbersDue rm_X8_numbersDue g [.ref (g.1 69)] σ (some (.int r)) σ := by
    intro r h
    refine MetF.of (own0 := RX8) (lv0 := [(0, .ref (g.1 69))]) rfl cl_X8_numbersDue (by decide) (Nat.le_of_ble_eq_true rfl) rfl ?_
    unfold f_X8_numbersDue at h
    refine v_aload_n 1 0 dX8_numbersDue_0 rfl rfl rfl ?_
    refine vg_5_7 4 (rfl : kK 69 = 5) in_X8_numbersDue_5 (mem_at 1 rfl) dX8_numbersDue_1 rfl ?_
    refine v_if_ne 7 11 h dX8_numbersDue_4 rfl (by decide) (fun h => ?_) (fun h => ?_)
    · refine v_aload_n 12 0 dX8_numbersDue_11 rfl rfl rfl ?_
      refine vg_5_7 15 (rfl : kK 69 = 5) in_X8_numbersDue_5 (mem_at 1 rfl) dX8_numbersDue_12 rfl ?_
      refine v_iconst 16 1 dX8_numbersDue_15 kc_i_1 rfl ?_
      refine v_icmp_ne 19 23 h dX8_numbersDue_16 rfl (by decide) (fun h => ?_) (fun h => ?_)
      · refine v_aload_n 24 0 dX8_numbersDue_23 rfl rfl rfl ?_
        refine vg_5_7 27 (rfl : kK 69 = 5) in_X8_numbersDue_5 (mem_at 1 rfl) dX8_numbersDue_24 rfl ?_
        refine v_iconst 28 2 dX8_numbersDue_27 kc_i_2 rfl ?_
        refine v_icmp_ne 31 35 h dX8_numbersDue_28 rfl (by decide) (fun h => ?_) (fun h => ?_)
        · refine v_iconst 36 1 dX8_numbersDue_35 kc_i_1 rfl ?_
          exact v_iretT h rfl dX8_numbersDue_36
        · refine v_iconst 32 2 dX8_numbersDue_31 kc_i_2 rfl ?_
          refine v_goto 36 dX8_numbersDue_32 (by decide) ?_
          exact v_iretT h rfl dX8_numbersDue_36
      · refine v_iconst 20 3 dX8_numbersDue_19 kc_i_3 rfl ?_
        refine v_goto 36 dX8_numbersDue_20 (by decide) ?_
        exact v_iretT h rfl dX8_numbersDue_36
    · refine v_iconst 8 0 dX8_numbersDue_7 kc_i_0 rfl ?_
      refine v_goto 36 dX8_numbersDue_8 (by decide) ?_
      exact v_iretT h rfl dX8_numbersDue_36
  exact main _ rfl
-- private boolean numberMayStand(int);
abbrev rm_X8_numberMayStand : Room := { frames := 3, cells := 0, slots := 0, locals := 61 }
theorem cl_X8_numberMayStand : Cl yX8_numberMayStand wsX8_numberMayStand cX8_numberMayStand 2 (some .boolean) rm_X8_numberMayStand 1 := ⟨⟨_, rfl⟩, rfl, rfl, by decide +kernel, by decide +kernel, by decide +kernel⟩
theorem in_X8_numberMayStand_5 : ∀ w ∈ wsX80, w ∈ wsX8_numberMayStand := fun w h => List.mem_cons_of_mem _ (List.mem_append_left _ (List.mem_append_left _ (List.mem_append_right _ h)))
def b_X8_numberMayStand_72 (σ : Sg) (l1 : Int32) (t0 : Int32) (t1 : Int32) (t2 : Int32) : Int32 := f_X11_between t2 t1 t0
def b_X8_numberMayStand_60 (σ : Sg) (l1 : Int32) (t0 : Int32) (t1 : Int32) : Int32 := (if l1 = 1 then b_X8_numberMayStand_72 σ l1 11 t0 t1 else b_X8_numberMayStand_72 σ l1 99 t0 t1)
def f_X8_numberMayStand (σ : Sg) (l1 : Int32) : Int32 := nam (rI σ 69 7) fun x1 => (if x1 = 1 then (if l1 = 0 then f_X11_isKind (rI σ 69 6) else (if l1 = 1 then b_X8_numberMayStand_60 σ l1 0 (rI σ 69 6) else b_X8_numberMayStand_60 σ l1 1 (rI σ 69 6))) else (if x1 = 2 then (if l1 = 0 then f_X3_hasKeeper σ 70 (rI σ 69 6) else f_X11_between (rI σ 69 6) 0 9) else (if x1 = 3 then f_X11_isKind (rI σ 69 6) else f_X11_between (rI σ 69 6) 1 99)))
theorem zb_X8_numberMayStand {σ : Sg} {l1 : Int32} : f_X8_numberMayStand σ l1 = 0 ∨ f_X8_numberMayStand σ l1 = 1 := by
  unfold f_X8_numberMayStand b_X8_numberMayStand_60 b_X8_numberMayStand_72
  try simp only [nam]
  repeat' (first | exact Or.inl rfl | exact Or.inr rfl | split | exact zb_X11_between | exact zb_X11_isKind | exact zb_X3_hasKeeper)
set_option maxRecDepth 100000 in
set_option maxHeartbeats 4000000 in
theorem q_X8_numberMayStand_72 {g : Cx} (σ : Sg) (l1 : Int32) (r : Int32) : ∀ t0 : Int32, ∀ t1 : Int32, ∀ t2 : Int32, (t1 = 0 ∨ t1 = 1) → b_X8_numberMayStand_72 σ l1 t0 t1 t2 = r → V g cX8_numberMayStand RX8 wsX8_numberMayStand 2 (some .boolean) rm_X8_numberMayStand (some (.int r)) σ σ 72 [] [.int t0, .int t1, .int t2] := by
  intro t0 t1 t2 hz1 h
  unfold b_X8_numberMayStand_72 at h
  refine v_cN 75 [.int t2, .int t1, .int t0] (c_X11_between t2 t1 t0) cl_X11_between gX8_numberMayStand_X11_between_n116 nw_X8_116 (mem_at 8 rfl) (mem_at 5 rfl) ⟨Nat.le_of_ble_eq_true rfl, Nat.le_of_ble_eq_true rfl⟩ rfl rfl (Nat.le_of_ble_eq_true rfl) dX8_numberMayStand_72 rfl ?_
  exact v_zretT h rfl zb_X11_between dX8_numberMayStand_75
set_option maxRecDepth 100000 in
set_option maxHeartbeats 4000000 in
theorem q_X8_numberMayStand_60 {g : Cx} (σ : Sg) (l1 : Int32) (r : Int32) : ∀ t0 : Int32, ∀ t1 : Int32, (t0 = 0 ∨ t0 = 1) → b_X8_numberMayStand_60 σ l1 t0 t1 = r → V g cX8_numberMayStand RX8 wsX8_numberMayStand 2 (some .boolean) rm_X8_numberMayStand (some (.int r)) σ σ 60 [(1, .int l1)] [.int t0, .int t1] := by
  intro t0 t1 hz0 h
  unfold b_X8_numberMayStand_60 at h
  refine v_iload_n 61 0 dX8_numberMayStand_60 rfl rfl rfl ?_
  refine v_iconst 62 1 dX8_numberMayStand_61 kc_i_1 rfl ?_
  refine v_icmp_ne 65 70 h dX8_numberMayStand_62 rfl (by decide) (fun h => ?_) (fun h => ?_)
  · refine v_bipush 72 99 dX8_numberMayStand_70 kc_b_99 rfl ?_
    refine v_sub [] rfl ?_
    exact q_X8_numberMayStand_72 σ l1 r 99 t0 t1 hz0 h
  · refine v_bipush 67 11 dX8_numberMayStand_65 kc_b_11 rfl ?_
    refine v_goto 72 dX8_numberMayStand_67 (by decide) ?_
    refine v_sub [] rfl ?_
    exact q_X8_numberMayStand_72 σ l1 r 11 t0 t1 hz0 h
set_option maxRecDepth 100000 in
set_option maxHeartbeats 4000000 in
theorem c_X8_numberMayStand {g : Cx} {σ : Sg} (l1 : Int32) : ∀ l, MetF l yX8_numberMayStand wsX8_numberMayStand rm_X8_numberMayStand g [.ref (g.1 69), .int l1] σ (some (.int (f_X8_numberMayStand σ l1))) σ := by
  have main : ∀ r : Int32, f_X8_numberMayStand σ l1 = r → ∀ l, MetF l yX8_numberMayStand wsX8_numberMayStand rm_X8_numberMayStand g [.ref (g.1 69), .int l1] σ (some (.int r)) σ := by
    intro r h
    refine MetF.of (own0 := RX8) (lv0 := [(0, .ref (g.1 69)), (1, .int l1)]) rfl cl_X8_numberMayStand (by decide) (Nat.le_of_ble_eq_true rfl) rfl ?_
    unfold f_X8_numberMayStand at h
    refine v_aload_n 1 0 dX8_numberMayStand_0 rfl rfl rfl ?_
    refine vg_5_7 4 (rfl : kK 69 = 5) in_X8_numberMayStand_5 (mem_at 1 rfl) dX8_numberMayStand_1 rfl ?_
    refine v_namI h (fun x1 h => ?_)
    refine v_ite h (fun q h => ?_) (fun q1 h => ?_)
    · refine v_tabInZ 32 1 dX8_numberMayStand_4 (ti_of q kc_ti_1) (by decide) (by decide) rfl (by decide) ?_
      refine v_iload_n 33 1 dX8_numberMayStand_32 rfl rfl rfl ?_
      refine v_if_ne 36 46 h dX8_numberMayStand_33 rfl (by decide) (fun h => ?_) (fun h => ?_)
      · refine v_aload_n 47 0 dX8_numberMayStand_46 rfl rfl rfl ?_
        refine vg_5_6 50 (rfl : kK 69 = 5) in_X8_numberMayStand_5 (mem_at 2 rfl) dX8_numberMayStand_47 rfl ?_
        refine v_iload_n 51 1 dX8_numberMayStand_50 rfl rfl rfl ?_
        refine v_iconst 52 1 dX8_numberMayStand_51 kc_i_1 rfl ?_
        refine v_icmp_ne 55 59 h dX8_numberMayStand_52 rfl (by decide) (fun h => ?_) (fun h => ?_)
        · refine v_iconst 60 1 dX8_numberMayStand_59 kc_i_1 rfl ?_
          refine v_sub [1] rfl ?_
          exact q_X8_numberMayStand_60 σ l1 r 1 (rI σ 69 6) (Or.inr rfl) h
        · refine v_iconst 56 0 dX8_numberMayStand_55 kc_i_0 rfl ?_
          refine v_goto 60 dX8_numberMayStand_56 (by decide) ?_
          refine v_sub [1] rfl ?_
          exact q_X8_numberMayStand_60 σ l1 r 0 (rI σ 69 6) (Or.inl rfl) h
      · refine v_aload_n 37 0 dX8_numberMayStand_36 rfl rfl rfl ?_
        refine vg_5_6 40 (rfl : kK 69 = 5) in_X8_numberMayStand_5 (mem_at 2 rfl) dX8_numberMayStand_37 rfl ?_
        refine v_cN 43 [.int (rI σ 69 6)] (c_X11_isKind (rI σ 69 6)) cl_X11_isKind gX8_numberMayStand_X11_isKind_n113 nw_X8_113 (mem_at 4 rfl) (mem_at 5 rfl) ⟨Nat.le_of_ble_eq_true rfl, Nat.le_of_ble_eq_true rfl⟩ rfl rfl (Nat.le_of_ble_eq_true rfl) dX8_numberMayStand_40 rfl ?_
        refine v_goto 75 dX8_numberMayStand_43 (by decide) ?_
        exact v_zretT h rfl zb_X11_isKind dX8_numberMayStand_75
    refine v_ite h (fun q h => ?_) (fun q2 h => ?_)
    · refine v_tabInZ 76 2 dX8_numberMayStand_4 (ti_of q kc_ti_2) (by decide) (by decide) rfl (by decide) ?_
      refine v_iload_n 77 1 dX8_numberMayStand_76 rfl rfl rfl ?_
      refine v_if_ne 80 94 h dX8_numberMayStand_77 rfl (by decide) (fun h => ?_) (fun h => ?_)
      · refine v_aload_n 95 0 dX8_numberMayStand_94 rfl rfl rfl ?_
        refine vg_5_6 98 (rfl : kK 69 = 5) in_X8_numberMayStand_5 (mem_at 2 rfl) dX8_numberMayStand_95 rfl ?_
        refine v_iconst 99 0 dX8_numberMayStand_98 kc_i_0 rfl ?_
        refine v_bipush 101 9 dX8_numberMayStand_99 kc_b_9 rfl ?_
        refine v_cN 104 [.int (rI σ 69 6), .int 0, .int 9] (c_X11_between (rI σ 69 6) 0 9) cl_X11_between gX8_numberMayStand_X11_between_n116 nw_X8_116 (mem_at 8 rfl) (mem_at 5 rfl) ⟨Nat.le_of_ble_eq_true rfl, Nat.le_of_ble_eq_true rfl⟩ rfl rfl (Nat.le_of_ble_eq_true rfl) dX8_numberMayStand_101 rfl ?_
        exact v_zretT h rfl zb_X11_between dX8_numberMayStand_104
      · refine v_aload_n 81 0 dX8_numberMayStand_80 rfl rfl rfl ?_
        refine vg_5_0 84 70 (rfl : kK 69 = 5) in_X8_numberMayStand_5 (mem_at 3 rfl) rfl dX8_numberMayStand_81 rfl ?_
        refine v_aload_n 85 0 dX8_numberMayStand_84 rfl rfl rfl ?_
        refine vg_5_6 88 (rfl : kK 69 = 5) in_X8_numberMayStand_5 (mem_at 2 rfl) dX8_numberMayStand_85 rfl ?_
        refine v_cV 91 0 [.int (rI σ 69 6)] (rfl : kK 70 = 0) rfl (c_X3_hasKeeper 70 (rI σ 69 6) (rfl : kK 70 = 0)) cl_X3_hasKeeper gX8_numberMayStand_X3_hasKeeper rfl ⟨Nat.le_of_ble_eq_true rfl, Nat.le_of_ble_eq_true rfl⟩ rfl rfl (Nat.le_of_ble_eq_true rfl) dX8_numberMayStand_88 rfl ?_
        refine v_goto 104 dX8_numberMayStand_91 (by decide) ?_
        exact v_zretT h rfl zb_X3_hasKeeper dX8_numberMayStand_104
    refine v_ite h (fun q h => ?_) (fun q3 h => ?_)
    · refine v_tabInZ 105 3 dX8_numberMayStand_4 (ti_of q kc_ti_3) (by decide) (by decide) rfl (by decide) ?_
      refine v_aload_n 106 0 dX8_numberMayStand_105 rfl rfl rfl ?_
      refine vg_5_6 109 (rfl : kK 69 = 5) in_X8_numberMayStand_5 (mem_at 2 rfl) dX8_numberMayStand_106 rfl ?_
      refine v_cN 112 [.int (rI σ 69 6)] (c_X11_isKind (rI σ 69 6)) cl_X11_isKind gX8_numberMayStand_X11_isKind_n113 nw_X8_113 (mem_at 4 rfl) (mem_at 5 rfl) ⟨Nat.le_of_ble_eq_true rfl, Nat.le_of_ble_eq_true rfl⟩ rfl rfl (Nat.le_of_ble_eq_true rfl) dX8_numberMayStand_109 rfl ?_
      exact v_zretT h rfl zb_X11_isKind dX8_numberMayStand_112
    have a1 := ne_lit q1 kc_ti_1
    have a2 := ne_lit q2 kc_ti_2
    have a3 := ne_lit q3 kc_ti_3
    refine v_tabOut 113 dX8_numberMayStand_4 (by omega) (by decide) ?_
    refine v_aload_n 114 0 dX8_numberMayStand_113 rfl rfl rfl ?_
    refine vg_5_6 117 (rfl : kK 69 = 5) in_X8_numberMayStand_5 (mem_at 2 rfl) dX8_numberMayStand_114 rfl ?_
    refine v_iconst 118 1 dX8_numberMayStand_117 kc_i_1 rfl ?_
    refine v_bipush 120 99 dX8_numberMayStand_118 kc_b_99 rfl ?_
    refine v_cN 123 [.int (rI σ 69 6), .int 1, .int 99] (c_X11_between (rI σ 69 6) 1 99) cl_X11_between gX8_numberMayStand_X11_between_n116 nw_X8_116 (mem_at 8 rfl) (mem_at 5 rfl) ⟨Nat.le_of_ble_eq_true rfl, Nat.le_of_ble_eq_true rfl⟩ rfl rfl (Nat.le_of_ble_eq_true rfl) dX8_numberMayStand_120 rfl ?_
    exact v_zretT h rfl zb_X11_between dX8_numberMayStand_123
  exact main _ rfl
-- private boolean item();
abbrev rm_X8_item : Room := { frames := 7, cells := 0, slots := 0, locals := 183 }
theorem cl_X8_item : Cl yX8_item wsX8_item cX8_item 2 (some .boolean) rm_X8_item 0 := ⟨⟨_, rfl⟩, rfl, rfl, by decide +kernel, by decide +kernel, by decide +kernel⟩
theorem in_X8_item_5 : ∀ w ∈ wsX80, w ∈ wsX8_item := fun w h => List.mem_cons_of_mem _ (List.mem_append_left _ (List.mem_append_left _ (List.mem_append_right _ h)))
def b_X8_item_30 : Nat → Sg → Int32 → Option (Int32 × Sg)
  | 0, _, _ => none
  | f + 1, σ, l1 => (if (f_X8_numbersDue σ) ≤ l1 then (if (rI σ 69 3) = 3 then (f_X8_step σ).bind fun s5 => (some (1, s5)) else (some (0, σ))) else (if (rI σ 69 3) = 2 then (if (f_X8_numberMayStand σ l1) = 0 then (some (0, σ)) else (f_X7_add σ 92 (rI σ 69 6)).bind fun s6 => (f_X8_step s6).bind fun s7 => nam (l1 + 1) fun x8 => b_X8_item_30 f s7 x8) else (some (0, σ))))
def f_X8_item (σ : Sg) : Option (Int32 × Sg) := (f_X8_wordTold σ).bind fun x1 => nam (stI σ 69 7 x1) fun s2 => (if (f_X8_wordMayStand s2) = 0 then (some (0, s2)) else (f_X8_step s2).bind fun s3 => (f_X7_restart s3 92).bind fun s4 => b_X8_item_30 FU s4 0)
set_option maxRecDepth 100000 in
set_option maxHeartbeats 4000000 in
theorem q_X8_item_30 {g : Cx} (r : Int32) (τ : Sg) : ∀ f : Nat, ∀ σ : Sg, ∀ l1 : Int32, b_X8_item_30 f σ l1 = some (r, τ) → V g cX8_item RX8 wsX8_item 2 (some .boolean) rm_X8_item (some (.int r)) τ σ 30 [(0, .ref (g.1 69)), (1, .int l1)] [] := by
  intro f
  induction f with
  | zero =>
    intro σ l1 h
    cases h
  | succ f ih =>
    intro σ l1 h
    rw [b_X8_item_30] at h
    refine v_iload_n 31 1 dX8_item_30 rfl rfl rfl ?_
    refine v_aload_n 32 0 dX8_item_31 rfl rfl rfl ?_
    refine v_cV 35 5 [] (rfl : kK 69 = 5) rfl (c_X8_numbersDue) cl_X8_numbersDue gX8_item_X8_numbersDue rfl ⟨Nat.le_of_ble_eq_true rfl, Nat.le_of_ble_eq_true rfl⟩ rfl rfl (Nat.le_of_ble_eq_true rfl) dX8_item_32 rfl ?_
    refine v_icmp_ge 38 77 h dX8_item_35 rfl (by decide) (fun h => ?_) (fun h => ?_)
    · refine v_aload_n 78 0 dX8_item_77 rfl rfl rfl ?_
      refine vg_5_3 81 (rfl : kK 69 = 5) in_X8_item_5 (mem_at 3 rfl) dX8_item_78 rfl ?_
      refine v_iconst 82 3 dX8_item_81 kc_i_3 rfl ?_
      refine v_icmp_eq 85 87 h dX8_item_82 rfl (by decide) (fun h => ?_) (fun h => ?_)
      · refine v_aload_n 88 0 dX8_item_87 rfl rfl rfl ?_
        obtain ⟨s5, h0, h⟩ := ob h
        refine v_cV 91 5 [] (rfl : kK 69 = 5) rfl (c_X8_step _ h0) cl_X8_step gX8_item_X8_step rfl ⟨Nat.le_of_ble_eq_true rfl, Nat.le_of_ble_eq_true rfl⟩ rfl rfl (Nat.le_of_ble_eq_true rfl) dX8_item_88 rfl ?_
        refine v_iconst 92 1 dX8_item_91 kc_i_1 rfl ?_
        exact v_zretS h rfl (Or.inr rfl) dX8_item_92
      · refine v_iconst 86 0 dX8_item_85 kc_i_0 rfl ?_
        exact v_zretS h rfl (Or.inl rfl) dX8_item_86
    · refine v_aload_n 39 0 dX8_item_38 rfl rfl rfl ?_
      refine vg_5_3 42 (rfl : kK 69 = 5) in_X8_item_5 (mem_at 3 rfl) dX8_item_39 rfl ?_
      refine v_iconst 43 2 dX8_item_42 kc_i_2 rfl ?_
      refine v_icmp_ne 46 54 h dX8_item_43 rfl (by decide) (fun h => ?_) (fun h => ?_)
      · refine v_iconst 55 0 dX8_item_54 kc_i_0 rfl ?_
        exact v_zretS h rfl (Or.inl rfl) dX8_item_55
      · refine v_aload_n 47 0 dX8_item_46 rfl rfl rfl ?_
        refine v_iload_n 48 1 dX8_item_47 rfl rfl rfl ?_
        refine v_cV 51 5 [.int l1] (rfl : kK 69 = 5) rfl (c_X8_numberMayStand l1) cl_X8_numberMayStand gX8_item_X8_numberMayStand rfl ⟨Nat.le_of_ble_eq_true rfl, Nat.le_of_ble_eq_true rfl⟩ rfl rfl (Nat.le_of_ble_eq_true rfl) dX8_item_48 rfl ?_
        refine v_if_ne 54 56 h dX8_item_51 rfl (by decide) (fun h => ?_) (fun h => ?_)
        · refine v_aload_n 57 0 dX8_item_56 rfl rfl rfl ?_
          refine vg_5_2 60 92 (rfl : kK 69 = 5) in_X8_item_5 (mem_at 2 rfl) rfl dX8_item_57 rfl ?_
          refine v_aload_n 61 0 dX8_item_60 rfl rfl rfl ?_
          refine vg_5_6 64 (rfl : kK 69 = 5) in_X8_item_5 (mem_at 4 rfl) dX8_item_61 rfl ?_
          obtain ⟨s6, h0, h⟩ := ob h
          refine v_cV 67 4 [.int (rI σ 69 6)] (rfl : kK 92 = 4) rfl (c_X7_add 92 (rI σ 69 6) (rfl : kK 92 = 4) _ h0) cl_X7_add gX8_item_X7_add rfl ⟨Nat.le_of_ble_eq_true rfl, Nat.le_of_ble_eq_true rfl⟩ rfl rfl (Nat.le_of_ble_eq_true rfl) dX8_item_64 rfl ?_
          refine v_aload_n 68 0 dX8_item_67 rfl rfl rfl ?_
          obtain ⟨s7, h0, h⟩ := ob h
          refine v_cV 71 5 [] (rfl : kK 69 = 5) rfl (c_X8_step _ h0) cl_X8_step gX8_item_X8_step rfl ⟨Nat.le_of_ble_eq_true rfl, Nat.le_of_ble_eq_true rfl⟩ rfl rfl (Nat.le_of_ble_eq_true rfl) dX8_item_68 rfl ?_
          refine v_iincN 74 1 h dX8_item_71 rfl kc_i_1 (by decide) rfl (fun _ => rfl) (fun x8 h => ?_)
          refine v_goto 30 dX8_item_74 (by decide) ?_
          refine v_sub [1, 0] rfl ?_
          exact ih s7 x8 h
        · refine v_iconst 55 0 dX8_item_54 kc_i_0 rfl ?_
          exact v_zretS h rfl (Or.inl rfl) dX8_item_55
set_option maxRecDepth 100000 in
set_option maxHeartbeats 4000000 in
theorem c_X8_item {g : Cx} {σ : Sg} (r : Int32) (τ : Sg) (h : f_X8_item σ = some (r, τ)) : ∀ l, MetF l yX8_item wsX8_item rm_X8_item g [.ref (g.1 69)] σ (some (.int r)) τ := by
  refine MetF.of (own0 := RX8) (lv0 := [(0, .ref (g.1 69))]) rfl cl_X8_item (by decide) (Nat.le_of_ble_eq_true rfl) rfl ?_
  unfold f_X8_item at h
  refine v_aload_n 1 0 dX8_item_0 rfl rfl rfl ?_
  refine v_aload_n 2 0 dX8_item_1 rfl rfl rfl ?_
  obtain ⟨x1, h0, h⟩ := ob h
  refine v_cV 5 5 [] (rfl : kK 69 = 5) rfl (c_X8_wordTold _ h0) cl_X8_wordTold gX8_item_X8_wordTold rfl ⟨Nat.le_of_ble_eq_true rfl, Nat.le_of_ble_eq_true rfl⟩ rfl rfl (Nat.le_of_ble_eq_true rfl) dX8_item_2 rfl ?_
  refine vp_5_7 8 h (rfl : kK 69 = 5) in_X8_item_5 (mem_at 1 rfl) dX8_item_5 rfl (fun s2 h => ?_)
  refine v_aload_n 9 0 dX8_item_8 rfl rfl rfl ?_
  refine v_cV 12 5 [] (rfl : kK 69 = 5) rfl (c_X8_wordMayStand) cl_X8_wordMayStand gX8_item_X8_wordMayStand rfl ⟨Nat.le_of_ble_eq_true rfl, Nat.le_of_ble_eq_true rfl⟩ rfl rfl (Nat.le_of_ble_eq_true rfl) dX8_item_9 rfl ?_
  refine v_if_ne 15 17 h dX8_item_12 rfl (by decide) (fun h => ?_) (fun h => ?_)
  · refine v_aload_n 18 0 dX8_item_17 rfl rfl rfl ?_
    obtain ⟨s3, h0, h⟩ := ob h
    refine v_cV 21 5 [] (rfl : kK 69 = 5) rfl (c_X8_step _ h0) cl_X8_step gX8_item_X8_step rfl ⟨Nat.le_of_ble_eq_true rfl, Nat.le_of_ble_eq_true rfl⟩ rfl rfl (Nat.le_of_ble_eq_true rfl) dX8_item_18 rfl ?_
    refine v_aload_n 22 0 dX8_item_21 rfl rfl rfl ?_
    refine vg_5_2 25 92 (rfl : kK 69 = 5) in_X8_item_5 (mem_at 2 rfl) rfl dX8_item_22 rfl ?_
    obtain ⟨s4, h0, h⟩ := ob h
    refine v_cV 28 4 [] (rfl : kK 92 = 4) rfl (c_X7_restart 92 (rfl : kK 92 = 4) _ h0) cl_X7_restart gX8_item_X7_restart rfl ⟨Nat.le_of_ble_eq_true rfl, Nat.le_of_ble_eq_true rfl⟩ rfl rfl (Nat.le_of_ble_eq_true rfl) dX8_item_25 rfl ?_
    refine v_iconst 29 0 dX8_item_28 kc_i_0 rfl ?_
    refine v_istore_n 30 dX8_item_29 rfl (by decide) rfl rfl ?_
    refine v_sub [1, 0] rfl ?_
    exact q_X8_item_30 r τ FU s4 0 h
  · refine v_iconst 16 0 dX8_item_15 kc_i_0 rfl ?_
    exact v_zretS h rfl (Or.inl rfl) dX8_item_16
-- int readMarket();
abbrev rm_X8_readMarket : Room := { frames := 8, cells := 0, slots := 0, locals := 204 }
theorem cl_X8_readMarket : Cl yX8_readMarket wsX8_readMarket cX8_readMarket 3 (some .int) rm_X8_readMarket 0 := ⟨⟨_, rfl⟩, rfl, rfl, by decide +kernel, by decide +kernel, by decide +kernel⟩
theorem in_X8_readMarket_5 : ∀ w ∈ wsX80, w ∈ wsX8_readMarket := fun w h => List.mem_cons_of_mem _ (List.mem_append_left _ (List.mem_append_left _ (List.mem_append_left _ (List.mem_append_right _ h))))
def b_X8_readMarket_69 (σ : Sg) (l1 : Int32) : Option (Int32 × Sg) := (if l1 = 0 then (some ((-10) - (rI σ 69 4), σ)) else (some (rI σ 69 8, σ)))
def b_X8_readMarket_63 (c25 : Sg → Int32 → Int32 → Option (Int32 × Sg)) (σ : Sg) (l1 : Int32) (l2 : Int32) : Option (Int32 × Sg) := nam (l2 + 1) fun x7 => c25 σ l1 x7
def b_X8_readMarket_50 (c25 : Sg → Int32 → Int32 → Option (Int32 × Sg)) (σ : Sg) (l2 : Int32) : Option (Int32 × Sg) := bnd (f_X8_item σ) fun x5 s6 => (if x5 = 0 then b_X8_readMarket_63 c25 s6 x5 l2 else (f_X8_carryOut s6).bind fun s8 => b_X8_readMarket_63 c25 s8 x5 l2)
def b_X8_readMarket_25 : Nat → Sg → Int32 → Int32 → Option (Int32 × Sg)
  | 0, _, _, _ => none
  | f + 1, σ, l1, l2 => (if 150 ≤ l2 then b_X8_readMarket_69 σ l1 else (if l1 = 0 then b_X8_readMarket_69 σ l1 else (if (rI σ 69 8) = 0 then b_X8_readMarket_50 (b_X8_readMarket_25 f) σ l2 else (if (rI σ 69 3) = 0 then b_X8_readMarket_69 σ l1 else b_X8_readMarket_50 (b_X8_readMarket_25 f) σ l2))))
def f_X8_readMarket (σ : Sg) : Option (Int32 × Sg) := (f_X3_restart σ 70).bind fun s1 => nam (stI s1 69 8 0) fun s2 => nam (stI s2 69 5 0) fun s3 => (f_X8_step s3).bind fun s4 => b_X8_readMarket_25 FU s4 1 0
set_option maxRecDepth 100000 in
set_option maxHeartbeats 4000000 in
theorem q_X8_readMarket_69 {g : Cx} (r : Int32) (τ : Sg) : ∀ σ : Sg, ∀ l1 : Int32, b_X8_readMarket_69 σ l1 = some (r, τ) → V g cX8_readMarket RX8 wsX8_readMarket 3 (some .int) rm_X8_readMarket (some (.int r)) τ σ 69 [(0, .ref (g.1 69)), (1, .int l1)] [] := by
  intro σ l1 h
  unfold b_X8_readMarket_69 at h
  refine v_iload_n 70 1 dX8_readMarket_69 rfl rfl rfl ?_
  refine v_if_eq 73 80 h dX8_readMarket_70 rfl (by decide) (fun h => ?_) (fun h => ?_)
  · refine v_bipush 82 (-10) dX8_readMarket_80 kc_b_m10 rfl ?_
    refine v_aload_n 83 0 dX8_readMarket_82 rfl rfl rfl ?_
    refine vg_5_4 86 (rfl : kK 69 = 5) in_X8_readMarket_5 (mem_at 5 rfl) dX8_readMarket_83 rfl ?_
    refine v_isub 87 dX8_readMarket_86 rfl ?_
    exact v_iretS h rfl dX8_readMarket_87
  · refine v_aload_n 74 0 dX8_readMarket_73 rfl rfl rfl ?_
    refine vg_5_8 77 (rfl : kK 69 = 5) in_X8_readMarket_5 (mem_at 2 rfl) dX8_readMarket_74 rfl ?_
    refine v_goto 87 dX8_readMarket_77 (by decide) ?_
    exact v_iretS h rfl dX8_readMarket_87
set_option maxRecDepth 100000 in
set_option maxHeartbeats 4000000 in
theorem q_X8_readMarket_63 {g : Cx} (r : Int32) (τ : Sg) (c25 : Sg → Int32 → Int32 → Option (Int32 × Sg)) (hc25 : ∀ σ : Sg, ∀ l1 : Int32, ∀ l2 : Int32, c25 σ l1 l2 = some (r, τ) → V g cX8_readMarket RX8 wsX8_readMarket 3 (some .int) rm_X8_readMarket (some (.int r)) τ σ 25 [(0, .ref (g.1 69)), (1, .int l1), (2, .int l2)] []) : ∀ σ : Sg, ∀ l1 : Int32, ∀ l2 : Int32, b_X8_readMarket_63 c25 σ l1 l2 = some (r, τ) → V g cX8_readMarket RX8 wsX8_readMarket 3 (some .int) rm_X8_readMarket (some (.int r)) τ σ 63 [(0, .ref (g.1 69)), (1, .int l1), (2, .int l2)] [] := by
  intro σ l1 l2 h
  unfold b_X8_readMarket_63 at h
  refine v_iincN 66 2 h dX8_readMarket_63 rfl kc_i_1 (by decide) rfl (fun _ => rfl) (fun x7 h => ?_)
  refine v_goto 25 dX8_readMarket_66 (by decide) ?_
  refine v_sub [1, 2, 0] rfl ?_
  exact hc25 σ l1 x7 h
set_option maxRecDepth 100000 in
set_option maxHeartbeats 4000000 in
theorem q_X8_readMarket_50 {g : Cx} (r : Int32) (τ : Sg) (c25 : Sg → Int32 → Int32 → Option (Int32 × Sg)) (hc25 : ∀ σ : Sg, ∀ l1 : Int32, ∀ l2 : Int32, c25 σ l1 l2 = some (r, τ) → V g cX8_readMarket RX8 wsX8_readMarket 3 (some .int) rm_X8_readMarket (some (.int r)) τ σ 25 [(0, .ref (g.1 69)), (1, .int l1), (2, .int l2)] []) : ∀ σ : Sg, ∀ l2 : Int32, b_X8_readMarket_50 c25 σ l2 = some (r, τ) → V g cX8_readMarket RX8 wsX8_readMarket 3 (some .int) rm_X8_readMarket (some (.int r)) τ σ 50 [(0, .ref (g.1 69)), (2, .int l2)] [] := by
  intro σ l2 h
  unfold b_X8_readMarket_50 at h
  refine v_aload_n 51 0 dX8_readMarket_50 rfl rfl rfl ?_
  obtain ⟨x5, s6, h0, h⟩ := ob2 h
  refine v_cV 54 5 [] (rfl : kK 69 = 5) rfl (c_X8_item _ _ h0) cl_X8_item gX8_readMarket_X8_item rfl ⟨Nat.le_of_ble_eq_true rfl, Nat.le_of_ble_eq_true rfl⟩ rfl rfl (Nat.le_of_ble_eq_true rfl) dX8_readMarket_51 rfl ?_
  refine v_istore_n 55 dX8_readMarket_54 rfl (by decide) rfl rfl ?_
  refine v_iload_n 56 0 dX8_readMarket_55 rfl rfl rfl ?_
  refine v_if_eq 59 63 h dX8_readMarket_56 rfl (by decide) (fun h => ?_) (fun h => ?_)
  · refine v_sub [1, 0, 2] rfl ?_
    exact q_X8_readMarket_63 r τ c25 hc25 s6 x5 l2 h
  · refine v_aload_n 60 1 dX8_readMarket_59 rfl rfl rfl ?_
    obtain ⟨s8, h0, h⟩ := ob h
    refine v_cV 63 5 [] (rfl : kK 69 = 5) rfl (c_X8_carryOut _ h0) cl_X8_carryOut gX8_readMarket_X8_carryOut rfl ⟨Nat.le_of_ble_eq_true rfl, Nat.le_of_ble_eq_true rfl⟩ rfl rfl (Nat.le_of_ble_eq_true rfl) dX8_readMarket_60 rfl ?_
    refine v_sub [1, 0, 2] rfl ?_
    exact q_X8_readMarket_63 r τ c25 hc25 s8 x5 l2 h
set_option maxRecDepth 100000 in
set_option maxHeartbeats 4000000 in
theorem q_X8_readMarket_25 {g : Cx} (r : Int32) (τ : Sg) : ∀ f : Nat, ∀ σ : Sg, ∀ l1 : Int32, ∀ l2 : Int32, b_X8_readMarket_25 f σ l1 l2 = some (r, τ) → V g cX8_readMarket RX8 wsX8_readMarket 3 (some .int) rm_X8_readMarket (some (.int r)) τ σ 25 [(0, .ref (g.1 69)), (1, .int l1), (2, .int l2)] [] := by
  intro f
  induction f with
  | zero =>
    intro σ l1 l2 h
    cases h
  | succ f ih =>
    intro σ l1 l2 h
    rw [b_X8_readMarket_25] at h
    refine v_iload_n 26 2 dX8_readMarket_25 rfl rfl rfl ?_
    refine v_sipush 29 150 dX8_readMarket_26 kc_s_150 rfl ?_
    refine v_icmp_ge 32 69 h dX8_readMarket_29 rfl (by decide) (fun h => ?_) (fun h => ?_)
    · refine v_sub [0, 1] rfl ?_
      exact q_X8_readMarket_69 r τ σ l1 h
    · refine v_iload_n 33 1 dX8_readMarket_32 rfl rfl rfl ?_
      refine v_if_eq 36 69 h dX8_readMarket_33 rfl (by decide) (fun h => ?_) (fun h => ?_)
      · refine v_sub [0, 1] rfl ?_
        exact q_X8_readMarket_69 r τ σ l1 h
      · refine v_aload_n 37 0 dX8_readMarket_36 rfl rfl rfl ?_
        refine vg_5_8 40 (rfl : kK 69 = 5) in_X8_readMarket_5 (mem_at 2 rfl) dX8_readMarket_37 rfl ?_
        refine v_if_eq 43 50 h dX8_readMarket_40 rfl (by decide) (fun h => ?_) (fun h => ?_)
        · refine v_sub [0, 2] rfl ?_
          exact q_X8_readMarket_50 r τ (b_X8_readMarket_25 f) ih σ l2 h
        · refine v_aload_n 44 0 dX8_readMarket_43 rfl rfl rfl ?_
          refine vg_5_3 47 (rfl : kK 69 = 5) in_X8_readMarket_5 (mem_at 4 rfl) dX8_readMarket_44 rfl ?_
          refine v_if_eq 50 69 h dX8_readMarket_47 rfl (by decide) (fun h => ?_) (fun h => ?_)
          · refine v_sub [0, 1] rfl ?_
            exact q_X8_readMarket_69 r τ σ l1 h
          · refine v_sub [0, 2] rfl ?_
            exact q_X8_readMarket_50 r τ (b_X8_readMarket_25 f) ih σ l2 h
set_option maxRecDepth 100000 in
set_option maxHeartbeats 4000000 in
theorem c_X8_readMarket {g : Cx} {σ : Sg} (r : Int32) (τ : Sg) (h : f_X8_readMarket σ = some (r, τ)) : ∀ l, MetF l yX8_readMarket wsX8_readMarket rm_X8_readMarket g [.ref (g.1 69)] σ (some (.int r)) τ := by
  refine MetF.of (own0 := RX8) (lv0 := [(0, .ref (g.1 69))]) rfl cl_X8_readMarket (by decide) (Nat.le_of_ble_eq_true rfl) rfl ?_
  unfold f_X8_readMarket at h
  refine v_aload_n 1 0 dX8_readMarket_0 rfl rfl rfl ?_
  refine vg_5_0 4 70 (rfl : kK 69 = 5) in_X8_readMarket_5 (mem_at 1 rfl) rfl dX8_readMarket_1 rfl ?_
  obtain ⟨s1, h0, h⟩ := ob h
  refine v_cV 7 0 [] (rfl : kK 70 = 0) rfl (c_X3_restart 70 (rfl : kK 70 = 0) _ h0) cl_X3_restart gX8_readMarket_X3_restart rfl ⟨Nat.le_of_ble_eq_true rfl, Nat.le_of_ble_eq_true rfl⟩ rfl rfl (Nat.le_of_ble_eq_true rfl) dX8_readMarket_4 rfl ?_
  refine v_aload_n 8 0 dX8_readMarket_7 rfl rfl rfl ?_
  refine v_iconst 9 0 dX8_readMarket_8 kc_i_0 rfl ?_
  refine vp_5_8 12 h (rfl : kK 69 = 5) in_X8_readMarket_5 (mem_at 2 rfl) dX8_readMarket_9 rfl (fun s2 h => ?_)
  refine v_aload_n 13 0 dX8_readMarket_12 rfl rfl rfl ?_
  refine v_iconst 14 0 dX8_readMarket_13 kc_i_0 rfl ?_
  refine vp_5_5 17 h (rfl : kK 69 = 5) in_X8_readMarket_5 (mem_at 3 rfl) dX8_readMarket_14 rfl (fun s3 h => ?_)
  refine v_aload_n 18 0 dX8_readMarket_17 rfl rfl rfl ?_
  obtain ⟨s4, h0, h⟩ := ob h
  refine v_cV 21 5 [] (rfl : kK 69 = 5) rfl (c_X8_step _ h0) cl_X8_step gX8_readMarket_X8_step rfl ⟨Nat.le_of_ble_eq_true rfl, Nat.le_of_ble_eq_true rfl⟩ rfl rfl (Nat.le_of_ble_eq_true rfl) dX8_readMarket_18 rfl ?_
  refine v_iconst 22 1 dX8_readMarket_21 kc_i_1 rfl ?_
  refine v_istore_n 23 dX8_readMarket_22 rfl (by decide) rfl rfl ?_
  refine v_iconst 24 0 dX8_readMarket_23 kc_i_0 rfl ?_
  refine v_istore_n 25 dX8_readMarket_24 rfl (by decide) rfl rfl ?_
  refine v_sub [2, 1, 0] rfl ?_
  exact q_X8_readMarket_25 r τ FU s4 1 0 h
-- private int way(int, int);
abbrev rm_X10_way : Room := { frames := 1, cells := 0, slots := 0, locals := 21 }
theorem cl_X10_way : Cl yX10_way wsX10_way cX10_way 4 (some .int) rm_X10_way 2 := ⟨⟨_, rfl⟩, rfl, rfl, by decide +kernel, by decide +kernel, by decide +kernel⟩
theorem in_X10_way_6 : ∀ w ∈ wsX100, w ∈ wsX10_way := fun w h => List.mem_cons_of_mem _ (List.mem_append_left _ (List.mem_append_right _ h))
def f_X10_way (σ : Sg) (l1 : Int32) (l2 : Int32) : Option Int32 := (f_X7_at σ 105 l1).bind fun x1 => (f_X7_at σ 105 l2).bind fun x2 => nam (if 0 ≤ (x1 - x2) then (x1 - x2) else 0 - (x1 - x2)) fun x3 => (some (if (12 - x3) < x3 then (12 - x3) else x3))
set_option maxRecDepth 100000 in
set_option maxHeartbeats 4000000 in
theorem c_X10_way {g : Cx} {σ : Sg} (l1 : Int32) (l2 : Int32) (r : Int32) (h : f_X10_way σ l1 l2 = some r) : ∀ l, MetF l yX10_way wsX10_way rm_X10_way g [.ref (g.1 102), .int l1, .int l2] σ (some (.int r)) σ := by
  refine MetF.of (own0 := RX10) (lv0 := [(0, .ref (g.1 102)), (1, .int l1), (2, .int l2)]) rfl cl_X10_way (by decide) (Nat.le_of_ble_eq_true rfl) rfl ?_
  unfold f_X10_way at h
  refine v_aload_n 1 0 dX10_way_0 rfl rfl rfl ?_
  refine vg_6_1 4 105 (rfl : kK 102 = 6) in_X10_way_6 (mem_at 1 rfl) rfl dX10_way_1 rfl ?_
  refine v_iload_n 5 1 dX10_way_4 rfl rfl rfl ?_
  obtain ⟨x1, h0, h⟩ := ob h
  refine v_cV 8 4 [.int l1] (rfl : kK 105 = 4) rfl (c_X7_at 105 l1 (rfl : kK 105 = 4) _ h0) cl_X7_at gX10_way_X7_at rfl ⟨Nat.le_of_ble_eq_true rfl, Nat.le_of_ble_eq_true rfl⟩ rfl rfl (Nat.le_of_ble_eq_true rfl) dX10_way_5 rfl ?_
  refine v_aload_n 9 0 dX10_way_8 rfl rfl rfl ?_
  refine vg_6_1 12 105 (rfl : kK 102 = 6) in_X10_way_6 (mem_at 1 rfl) rfl dX10_way_9 rfl ?_
  refine v_iload_n 13 2 dX10_way_12 rfl rfl rfl ?_
  obtain ⟨x2, h0, h⟩ := ob h
  refine v_cV 16 4 [.int l2] (rfl : kK 105 = 4) rfl (c_X7_at 105 l2 (rfl : kK 105 = 4) _ h0) cl_X7_at gX10_way_X7_at rfl ⟨Nat.le_of_ble_eq_true rfl, Nat.le_of_ble_eq_true rfl⟩ rfl rfl (Nat.le_of_ble_eq_true rfl) dX10_way_13 rfl ?_
  refine v_isub 17 dX10_way_16 rfl ?_
  refine v_abs 20 (mem_at 2 rfl) (mem_at 3 rfl) (mem_at 4 rfl) (mem_at 5 rfl) ⟨Nat.le_of_ble_eq_true rfl, Nat.le_of_ble_eq_true rfl⟩ (Nat.le_of_ble_eq_true rfl) dX10_way_17 rfl ?_
  refine v_istoreN_n 21 h dX10_way_20 rfl (by decide) rfl (fun _ => rfl) (fun x3 h => ?_)
  refine v_iload_n 22 0 dX10_way_21 rfl rfl rfl ?_
  refine v_bipush 24 12 dX10_way_22 kc_b_12 rfl ?_
  refine v_iload_n 25 0 dX10_way_24 rfl rfl rfl ?_
  refine v_isub 26 dX10_way_25 rfl ?_
  refine v_min 29 (mem_at 6 rfl) (mem_at 7 rfl) (mem_at 4 rfl) (mem_at 8 rfl) ⟨Nat.le_of_ble_eq_true rfl, Nat.le_of_ble_eq_true rfl⟩ (Nat.le_of_ble_eq_true rfl) dX10_way_26 rfl ?_
  exact v_iretP h rfl dX10_way_29
-- private int hoursFrom(int, int);
abbrev rm_X10_hoursFrom : Room := { frames := 1, cells := 0, slots := 0, locals := 21 }
theorem cl_X10_hoursFrom : Cl yX10_hoursFrom wsX10_hoursFrom cX10_hoursFrom 3 (some .int) rm_X10_hoursFrom 2 := ⟨⟨_, rfl⟩, rfl, rfl, by decide +kernel, by decide +kernel, by decide +kernel⟩
theorem in_X10_hoursFrom_6 : ∀ w ∈ wsX100, w ∈ wsX10_hoursFrom := fun w h => List.mem_cons_of_mem _ (List.mem_append_left _ (List.mem_append_right _ h))
def f_X10_hoursFrom (σ : Sg) (l1 : Int32) (l2 : Int32) : Option Int32 := (f_X7_at σ 103 ((l1 * 8) + l2)).bind fun x1 => (some (x1))
set_option maxRecDepth 100000 in
set_option maxHeartbeats 4000000 in
theorem c_X10_hoursFrom {g : Cx} {σ : Sg} (l1 : Int32) (l2 : Int32) (r : Int32) (h : f_X10_hoursFrom σ l1 l2 = some r) : ∀ l, MetF l yX10_hoursFrom wsX10_hoursFrom rm_X10_hoursFrom g [.ref (g.1 102), .int l1, .int l2] σ (some (.int r)) σ := by
  refine MetF.of (own0 := RX10) (lv0 := [(0, .ref (g.1 102)), (1, .int l1), (2, .int l2)]) rfl cl_X10_hoursFrom (by decide) (Nat.le_of_ble_eq_true rfl) rfl ?_
  unfold f_X10_hoursFrom at h
  refine v_aload_n 1 0 dX10_hoursFrom_0 rfl rfl rfl ?_
  refine vg_6_0 4 103 (rfl : kK 102 = 6) in_X10_hoursFrom_6 (mem_at 1 rfl) rfl dX10_hoursFrom_1 rfl ?_
  refine v_iload_n 5 1 dX10_hoursFrom_4 rfl rfl rfl ?_
  refine v_bipush 7 8 dX10_hoursFrom_5 kc_b_8 rfl ?_
  refine v_imul 8 dX10_hoursFrom_7 rfl ?_
  refine v_iload_n 9 2 dX10_hoursFrom_8 rfl rfl rfl ?_
  refine v_iadd 10 dX10_hoursFrom_9 rfl ?_
  obtain ⟨x1, h0, h⟩ := ob h
  refine v_cV 13 4 [.int ((l1 * 8) + l2)] (rfl : kK 103 = 4) rfl (c_X7_at 103 ((l1 * 8) + l2) (rfl : kK 103 = 4) _ h0) cl_X7_at gX10_hoursFrom_X7_at rfl ⟨Nat.le_of_ble_eq_true rfl, Nat.le_of_ble_eq_true rfl⟩ rfl rfl (Nat.le_of_ble_eq_true rfl) dX10_hoursFrom_10 rfl ?_
  exact v_iretP h rfl dX10_hoursFrom_13
-- private int hoursBy(int, int, int);
abbrev rm_X10_hoursBy : Room := { frames := 2, cells := 0, slots := 0, locals := 44 }
theorem cl_X10_hoursBy : Cl yX10_hoursBy wsX10_hoursBy cX10_hoursBy 4 (some .int) rm_X10_hoursBy 3 := ⟨⟨_, rfl⟩, rfl, rfl, by decide +kernel, by decide +kernel, by decide +kernel⟩
def f_X10_hoursBy (σ : Sg) (l1 : Int32) (l2 : Int32) (l3 : Int32) : Option Int32 := (f_X10_way σ l2 l3).bind fun x1 => (f_X10_hoursFrom σ (l1 &&& ((1 <<< (l3 &&& 31)) ^^^ (-1))) l3).bind fun x2 => (some ((x1 + 1) + x2))
set_option maxRecDepth 100000 in
set_option maxHeartbeats 4000000 in
theorem c_X10_hoursBy {g : Cx} {σ : Sg} (l1 : Int32) (l2 : Int32) (l3 : Int32) (r : Int32) (h : f_X10_hoursBy σ l1 l2 l3 = some r) : ∀ l, MetF l yX10_hoursBy wsX10_hoursBy rm_X10_hoursBy g [.ref (g.1 102), .int l1, .int l2, .int l3] σ (some (.int r)) σ := by
  refine MetF.of (own0 := RX10) (lv0 := [(0, .ref (g.1 102)), (1, .int l1), (2, .int l2), (3, .int l3)]) rfl cl_X10_hoursBy (by decide) (Nat.le_of_ble_eq_true rfl) rfl ?_
  unfold f_X10_hoursBy at h
  refine v_aload_n 1 0 dX10_hoursBy_0 rfl rfl rfl ?_
  refine v_iload_n 2 2 dX10_hoursBy_1 rfl rfl rfl ?_
  refine v_iload_n 3 3 dX10_hoursBy_2 rfl rfl rfl ?_
  obtain ⟨x1, h0, h⟩ := ob h
  refine v_cV 6 6 [.int l2, .int l3] (rfl : kK 102 = 6) rfl (c_X10_way l2 l3 _ h0) cl_X10_way gX10_hoursBy_X10_way rfl ⟨Nat.le_of_ble_eq_true rfl, Nat.le_of_ble_eq_true rfl⟩ rfl rfl (Nat.le_of_ble_eq_true rfl) dX10_hoursBy_3 rfl ?_
  refine v_iconst 7 1 dX10_hoursBy_6 kc_i_1 rfl ?_
  refine v_iadd 8 dX10_hoursBy_7 rfl ?_
  refine v_aload_n 9 0 dX10_hoursBy_8 rfl rfl rfl ?_
  refine v_iload_n 10 1 dX10_hoursBy_9 rfl rfl rfl ?_
  refine v_iconst 11 1 dX10_hoursBy_10 kc_i_1 rfl ?_
  refine v_iload_n 12 3 dX10_hoursBy_11 rfl rfl rfl ?_
  refine v_ishl 13 dX10_hoursBy_12 rfl ?_
  refine v_iconst 14 (-1) dX10_hoursBy_13 kc_i_m1 rfl ?_
  refine v_ixor 15 dX10_hoursBy_14 rfl ?_
  refine v_iand 16 dX10_hoursBy_15 rfl ?_
  refine v_iload_n 17 3 dX10_hoursBy_16 rfl rfl rfl ?_
  obtain ⟨x2, h0, h⟩ := ob h
  refine v_cV 20 6 [.int (l1 &&& ((1 <<< (l3 &&& 31)) ^^^ (-1))), .int l3] (rfl : kK 102 = 6) rfl (c_X10_hoursFrom (l1 &&& ((1 <<< (l3 &&& 31)) ^^^ (-1))) l3 _ h0) cl_X10_hoursFrom gX10_hoursBy_X10_hoursFrom rfl ⟨Nat.le_of_ble_eq_true rfl, Nat.le_of_ble_eq_true rfl⟩ rfl rfl (Nat.le_of_ble_eq_true rfl) dX10_hoursBy_17 rfl ?_
  refine v_iadd 21 dX10_hoursBy_20 rfl ?_
  exact v_iretP h rfl dX10_hoursBy_21
-- private int firstBest(int, int);
abbrev rm_X10_firstBest : Room := { frames := 3, cells := 0, slots := 0, locals := 67 }
theorem cl_X10_firstBest : Cl yX10_firstBest wsX10_firstBest cX10_firstBest 7 (some .int) rm_X10_firstBest 2 := ⟨⟨_, rfl⟩, rfl, rfl, by decide +kernel, by decide +kernel, by decide +kernel⟩
def b_X10_firstBest_54 (σ : Sg) (l1 : Int32) (l2 : Int32) (c9 : Int32 → Int32 → Int32 → Option Int32) (l3 : Int32) (l4 : Int32) (l5 : Int32) : Option Int32 := nam (l5 + 1) fun x1 => c9 l3 l4 x1
def b_X10_firstBest_38 (σ : Sg) (l1 : Int32) (l2 : Int32) (c9 : Int32 → Int32 → Int32 → Option Int32) (l3 : Int32) (l4 : Int32) (l5 : Int32) (t0 : Int32) : Option Int32 := (if l4 ≤ t0 then b_X10_firstBest_54 σ l1 l2 c9 l3 l4 l5 else b_X10_firstBest_54 σ l1 l2 c9 l5 t0 l5)
def b_X10_firstBest_9 (σ : Sg) (l1 : Int32) (l2 : Int32) : Nat → Int32 → Int32 → Int32 → Option Int32
  | 0, _, _, _ => none
  | f + 1, l3, l4, l5 => (if 7 ≤ l5 then (some (l3)) else (if (f_X11_hasBit l1 l5) = 0 then b_X10_firstBest_38 σ l1 l2 (b_X10_firstBest_9 σ l1 l2 f) l3 l4 l5 1000000 else (f_X10_hoursBy σ l1 l2 l5).bind fun x2 => b_X10_firstBest_38 σ l1 l2 (b_X10_firstBest_9 σ l1 l2 f) l3 l4 l5 x2))
def f_X10_firstBest (σ : Sg) (l1 : Int32) (l2 : Int32) : Option Int32 := b_X10_firstBest_9 σ l1 l2 FU 0 1000000 0
set_option maxRecDepth 100000 in
set_option maxHeartbeats 4000000 in
theorem q_X10_firstBest_54 {g : Cx} (σ : Sg) (l1 : Int32) (l2 : Int32) (r : Int32) (c9 : Int32 → Int32 → Int32 → Option Int32) (hc9 : ∀ l3 : Int32, ∀ l4 : Int32, ∀ l5 : Int32, c9 l3 l4 l5 = some r → V g cX10_firstBest RX10 wsX10_firstBest 7 (some .int) rm_X10_firstBest (some (.int r)) σ σ 9 [(0, .ref (g.1 102)), (1, .int l1), (2, .int l2), (3, .int l3), (4, .int l4), (5, .int l5)] []) : ∀ l3 : Int32, ∀ l4 : Int32, ∀ l5 : Int32, b_X10_firstBest_54 σ l1 l2 c9 l3 l4 l5 = some r → V g cX10_firstBest RX10 wsX10_firstBest 7 (some .int) rm_X10_firstBest (some (.int r)) σ σ 54 [(0, .ref (g.1 102)), (1, .int l1), (2, .int l2), (3, .int l3), (4, .int l4), (5, .int l5)] [] := by
  intro l3 l4 l5 h
  unfold b_X10_firstBest_54 at h
  refine v_iincN 57 5 h dX10_firstBest_54 rfl kc_i_1 (by decide) rfl (fun _ => rfl) (fun x1 h => ?_)
  refine v_goto 9 dX10_firstBest_57 (by decide) ?_
  refine v_sub [1, 2, 3, 4, 5, 0] rfl ?_
  exact hc9 l3 l4 x1 h
set_option maxRecDepth 100000 in
set_option maxHeartbeats 4000000 in
theorem q_X10_firstBest_38 {g : Cx} (σ : Sg) (l1 : Int32) (l2 : Int32) (r : Int32) (c9 : Int32 → Int32 → Int32 → Option Int32) (hc9 : ∀ l3 : Int32, ∀ l4 : Int32, ∀ l5 : Int32, c9 l3 l4 l5 = some r → V g cX10_firstBest RX10 wsX10_firstBest 7 (some .int) rm_X10_firstBest (some (.int r)) σ σ 9 [(0, .ref (g.1 102)), (1, .int l1), (2, .int l2), (3, .int l3), (4, .int l4), (5, .int l5)] []) : ∀ l3 : Int32, ∀ l4 : Int32, ∀ l5 : Int32, ∀ t0 : Int32, b_X10_firstBest_38 σ l1 l2 c9 l3 l4 l5 t0 = some r → V g cX10_firstBest RX10 wsX10_firstBest 7 (some .int) rm_X10_firstBest (some (.int r)) σ σ 38 [(0, .ref (g.1 102)), (1, .int l1), (2, .int l2), (3, .int l3), (4, .int l4), (5, .int l5)] [.int t0] := by
  intro l3 l4 l5 t0 h
  unfold b_X10_firstBest_38 at h
  refine v_istore 40 dX10_firstBest_38 (by decide) rfl rfl ?_
  refine v_iload 42 0 dX10_firstBest_40 rfl rfl ?_
  refine v_iload 44 5 dX10_firstBest_42 rfl rfl ?_
  refine v_icmp_ge 47 54 h dX10_firstBest_44 rfl (by decide) (fun h => ?_) (fun h => ?_)
  · refine v_sub [1, 2, 3, 4, 5, 6] rfl ?_
    exact q_X10_firstBest_54 σ l1 l2 r c9 hc9 l3 l4 l5 h
  · refine v_iload 49 6 dX10_firstBest_47 rfl rfl ?_
    refine v_istore_n 50 dX10_firstBest_49 rfl (by decide) rfl rfl ?_
    refine v_iload 52 1 dX10_firstBest_50 rfl rfl ?_
    refine v_istore 54 dX10_firstBest_52 (by decide) rfl rfl ?_
    refine v_sub [3, 4, 5, 1, 0, 6] rfl ?_
    exact q_X10_firstBest_54 σ l1 l2 r c9 hc9 l5 t0 l5 h
set_option maxRecDepth 100000 in
set_option maxHeartbeats 4000000 in
theorem q_X10_firstBest_9 {g : Cx} (σ : Sg) (l1 : Int32) (l2 : Int32) (r : Int32) : ∀ f : Nat, ∀ l3 : Int32, ∀ l4 : Int32, ∀ l5 : Int32, b_X10_firstBest_9 σ l1 l2 f l3 l4 l5 = some r → V g cX10_firstBest RX10 wsX10_firstBest 7 (some .int) rm_X10_firstBest (some (.int r)) σ σ 9 [(0, .ref (g.1 102)), (1, .int l1), (2, .int l2), (3, .int l3), (4, .int l4), (5, .int l5)] [] := by
  intro f
  induction f with
  | zero =>
    intro l3 l4 l5 h
    cases h
  | succ f ih =>
    intro l3 l4 l5 h
    rw [b_X10_firstBest_9] at h
    refine v_iload 11 5 dX10_firstBest_9 rfl rfl ?_
    refine v_bipush 13 7 dX10_firstBest_11 kc_b_7 rfl ?_
    refine v_icmp_ge 16 60 h dX10_firstBest_13 rfl (by decide) (fun h => ?_) (fun h => ?_)
    · refine v_iload_n 61 3 dX10_firstBest_60 rfl rfl rfl ?_
      exact v_iretP h rfl dX10_firstBest_61
    · refine v_iload_n 17 1 dX10_firstBest_16 rfl rfl rfl ?_
      refine v_iload 19 5 dX10_firstBest_17 rfl rfl ?_
      refine v_cN 22 [.int l1, .int l5] (c_X11_hasBit l1 l5) cl_X11_hasBit gX10_firstBest_X11_hasBit_n62 nw_X10_62 (mem_at 2 rfl) (mem_at 3 rfl) ⟨Nat.le_of_ble_eq_true rfl, Nat.le_of_ble_eq_true rfl⟩ rfl rfl (Nat.le_of_ble_eq_true rfl) dX10_firstBest_19 rfl ?_
      refine v_if_eq 25 36 h dX10_firstBest_22 rfl (by decide) (fun h => ?_) (fun h => ?_)
      · refine v_ldc 38 1000000 dX10_firstBest_36 (mem_at 1 rfl) rfl ?_
        refine v_sub [0, 1, 2, 3, 4, 5] rfl ?_
        exact q_X10_firstBest_38 σ l1 l2 r (b_X10_firstBest_9 σ l1 l2 f) ih l3 l4 l5 1000000 h
      · refine v_aload_n 26 0 dX10_firstBest_25 rfl rfl rfl ?_
        refine v_iload_n 27 1 dX10_firstBest_26 rfl rfl rfl ?_
        refine v_iload_n 28 2 dX10_firstBest_27 rfl rfl rfl ?_
        refine v_iload 30 5 dX10_firstBest_28 rfl rfl ?_
        obtain ⟨x2, h0, h⟩ := ob h
        refine v_cV 33 6 [.int l1, .int l2, .int l5] (rfl : kK 102 = 6) rfl (c_X10_hoursBy l1 l2 l5 _ h0) cl_X10_hoursBy gX10_firstBest_X10_hoursBy rfl ⟨Nat.le_of_ble_eq_true rfl, Nat.le_of_ble_eq_true rfl⟩ rfl rfl (Nat.le_of_ble_eq_true rfl) dX10_firstBest_30 rfl ?_
        refine v_goto 38 dX10_firstBest_33 (by decide) ?_
        refine v_sub [0, 1, 2, 3, 4, 5] rfl ?_
        exact q_X10_firstBest_38 σ l1 l2 r (b_X10_firstBest_9 σ l1 l2 f) ih l3 l4 l5 x2 h
set_option maxRecDepth 100000 in
set_option maxHeartbeats 4000000 in
theorem c_X10_firstBest {g : Cx} {σ : Sg} (l1 : Int32) (l2 : Int32) (r : Int32) (h : f_X10_firstBest σ l1 l2 = some r) : ∀ l, MetF l yX10_firstBest wsX10_firstBest rm_X10_firstBest g [.ref (g.1 102), .int l1, .int l2] σ (some (.int r)) σ := by
  refine MetF.of (own0 := RX10) (lv0 := [(0, .ref (g.1 102)), (1, .int l1), (2, .int l2)]) rfl cl_X10_firstBest (by decide) (Nat.le_of_ble_eq_true rfl) rfl ?_
  unfold f_X10_firstBest at h
  refine v_iconst 1 0 dX10_firstBest_0 kc_i_0 rfl ?_
  refine v_istore_n 2 dX10_firstBest_1 rfl (by decide) rfl rfl ?_
  refine v_ldc 4 1000000 dX10_firstBest_2 (mem_at 1 rfl) rfl ?_
  refine v_istore 6 dX10_firstBest_4 (by decide) rfl rfl ?_
  refine v_iconst 7 0 dX10_firstBest_6 kc_i_0 rfl ?_
  refine v_istore 9 dX10_firstBest_7 (by decide) rfl rfl ?_
  refine v_sub [3, 4, 5, 2, 1, 0] rfl ?_
  exact q_X10_firstBest_9 σ l1 l2 r FU 0 1000000 0 h
-- int hours();
abbrev rm_X10_hours : Room := { frames := 2, cells := 0, slots := 0, locals := 43 }
theorem cl_X10_hours : Cl yX10_hours wsX10_hours cX10_hours 1 (some .int) rm_X10_hours 0 := ⟨⟨_, rfl⟩, rfl, rfl, by decide +kernel, by decide +kernel, by decide +kernel⟩
theorem in_X10_hours_6 : ∀ w ∈ wsX100, w ∈ wsX10_hours := fun w h => List.mem_cons_of_mem _ (List.mem_append_left _ (List.mem_append_right _ h))
def f_X10_hours (σ : Sg) : Option Int32 := (f_X10_hoursFrom σ (rI σ 102 2) 7).bind fun x1 => (some (x1))
set_option maxRecDepth 100000 in
set_option maxHeartbeats 4000000 in
theorem c_X10_hours {g : Cx} {σ : Sg} (r : Int32) (h : f_X10_hours σ = some r) : ∀ l, MetF l yX10_hours wsX10_hours rm_X10_hours g [.ref (g.1 102)] σ (some (.int r)) σ := by
  refine MetF.of (own0 := RX10) (lv0 := [(0, .ref (g.1 102))]) rfl cl_X10_hours (by decide) (Nat.le_of_ble_eq_true rfl) rfl ?_
  unfold f_X10_hours at h
  refine v_aload_n 1 0 dX10_hours_0 rfl rfl rfl ?_
  refine v_aload_n 2 0 dX10_hours_1 rfl rfl rfl ?_
  refine vg_6_2 5 (rfl : kK 102 = 6) in_X10_hours_6 (mem_at 1 rfl) dX10_hours_2 rfl ?_
  refine v_bipush 7 7 dX10_hours_5 kc_b_7 rfl ?_
  obtain ⟨x1, h0, h⟩ := ob h
  refine v_cV 10 6 [.int (rI σ 102 2), .int 7] (rfl : kK 102 = 6) rfl (c_X10_hoursFrom (rI σ 102 2) 7 _ h0) cl_X10_hoursFrom gX10_hours_X10_hoursFrom rfl ⟨Nat.le_of_ble_eq_true rfl, Nat.le_of_ble_eq_true rfl⟩ rfl rfl (Nat.le_of_ble_eq_true rfl) dX10_hours_7 rfl ?_
  exact v_iretP h rfl dX10_hours_10
-- private int leastHours(int, int);
abbrev rm_X10_leastHours : Room := { frames := 4, cells := 0, slots := 0, locals := 93 }
theorem cl_X10_leastHours : Cl yX10_leastHours wsX10_leastHours cX10_leastHours 3 (some .int) rm_X10_leastHours 2 := ⟨⟨_, rfl⟩, rfl, rfl, by decide +kernel, by decide +kernel, by decide +kernel⟩
def f_X10_leastHours (σ : Sg) (l1 : Int32) (l2 : Int32) : Option Int32 := (if l1 = 0 then (f_X10_way σ l2 7).bind fun x3 => (some (x3)) else (f_X10_firstBest σ l1 l2).bind fun x1 => (f_X10_hoursBy σ l1 l2 x1).bind fun x2 => (some (x2)))
set_option maxRecDepth 100000 in
set_option maxHeartbeats 4000000 in
theorem c_X10_leastHours {g : Cx} {σ : Sg} (l1 : Int32) (l2 : Int32) (r : Int32) (h : f_X10_leastHours σ l1 l2 = some r) : ∀ l, MetF l yX10_leastHours wsX10_leastHours rm_X10_leastHours g [.ref (g.1 102), .int l1, .int l2] σ (some (.int r)) σ := by
  refine MetF.of (own0 := RX10) (lv0 := [(0, .ref (g.1 102)), (1, .int l1), (2, .int l2)]) rfl cl_X10_leastHours (by decide) (Nat.le_of_ble_eq_true rfl) rfl ?_
  unfold f_X10_leastHours at h
  refine v_iload_n 1 1 dX10_leastHours_0 rfl rfl rfl ?_
  refine v_if_ne 4 14 h dX10_leastHours_1 rfl (by decide) (fun h => ?_) (fun h => ?_)
  · refine v_aload_n 15 0 dX10_leastHours_14 rfl rfl rfl ?_
    refine v_iload_n 16 1 dX10_leastHours_15 rfl rfl rfl ?_
    refine v_iload_n 17 2 dX10_leastHours_16 rfl rfl rfl ?_
    refine v_aload_n 18 0 dX10_leastHours_17 rfl rfl rfl ?_
    refine v_iload_n 19 1 dX10_leastHours_18 rfl rfl rfl ?_
    refine v_iload_n 20 2 dX10_leastHours_19 rfl rfl rfl ?_
    obtain ⟨x1, h0, h⟩ := ob h
    refine v_cV 23 6 [.int l1, .int l2] (rfl : kK 102 = 6) rfl (c_X10_firstBest l1 l2 _ h0) cl_X10_firstBest gX10_leastHours_X10_firstBest rfl ⟨Nat.le_of_ble_eq_true rfl, Nat.le_of_ble_eq_true rfl⟩ rfl rfl (Nat.le_of_ble_eq_true rfl) dX10_leastHours_20 rfl ?_
    obtain ⟨x2, h0, h⟩ := ob h
    refine v_cV 26 6 [.int l1, .int l2, .int x1] (rfl : kK 102 = 6) rfl (c_X10_hoursBy l1 l2 x1 _ h0) cl_X10_hoursBy gX10_leastHours_X10_hoursBy rfl ⟨Nat.le_of_ble_eq_true rfl, Nat.le_of_ble_eq_true rfl⟩ rfl rfl (Nat.le_of_ble_eq_true rfl) dX10_leastHours_23 rfl ?_
    exact v_iretP h rfl dX10_leastHours_26
  · refine v_aload_n 5 0 dX10_leastHours_4 rfl rfl rfl ?_
    refine v_iload_n 6 2 dX10_leastHours_5 rfl rfl rfl ?_
    refine v_bipush 8 7 dX10_leastHours_6 kc_b_7 rfl ?_
    obtain ⟨x3, h0, h⟩ := ob h
    refine v_cV 11 6 [.int l2, .int 7] (rfl : kK 102 = 6) rfl (c_X10_way l2 7 _ h0) cl_X10_way gX10_leastHours_X10_way rfl ⟨Nat.le_of_ble_eq_true rfl, Nat.le_of_ble_eq_true rfl⟩ rfl rfl (Nat.le_of_ble_eq_true rfl) dX10_leastHours_8 rfl ?_
    refine v_goto 26 dX10_leastHours_11 (by decide) ?_
    exact v_iretP h rfl dX10_leastHours_26
-- private boolean mayStand(int, int);
abbrev rm_X10_mayStand : Room := { frames := 1, cells := 0, slots := 0, locals := 21 }
theorem cl_X10_mayStand : Cl yX10_mayStand wsX10_mayStand cX10_mayStand 3 (some .boolean) rm_X10_mayStand 2 := ⟨⟨_, rfl⟩, rfl, rfl, by decide +kernel, by decide +kernel, by decide +kernel⟩
theorem in_X10_mayStand_6 : ∀ w ∈ wsX100, w ∈ wsX10_mayStand := fun w h => List.mem_cons_of_mem _ (List.mem_append_right _ h)
def f_X10_mayStand (σ : Sg) (l1 : Int32) (l2 : Int32) : Int32 := (if l2 = 7 then (if l1 = (rI σ 102 2) then 1 else 0) else (if (l1 &&& ((rI σ 102 2) ^^^ (-1))) = 0 then (if (f_X11_hasBit ((rI σ 102 2) &&& (l1 ^^^ (-1))) l2) = 0 then 0 else 1) else 0))
theorem zb_X10_mayStand {σ : Sg} {l1 : Int32} {l2 : Int32} : f_X10_mayStand σ l1 l2 = 0 ∨ f_X10_mayStand σ l1 l2 = 1 := by
  unfold f_X10_mayStand
  try simp only [nam]
  repeat' (first | exact Or.inl rfl | exact Or.inr rfl | split | exact zb_X11_hasBit)
set_option maxRecDepth 100000 in
set_option maxHeartbeats 4000000 in
theorem c_X10_mayStand {g : Cx} {σ : Sg} (l1 : Int32) (l2 : Int32) : ∀ l, MetF l yX10_mayStand wsX10_mayStand rm_X10_mayStand g [.ref (g.1 102), .int l1, .int l2] σ (some (.int (f_X10_mayStand σ l1 l2))) σ := by
  have main : ∀ r : Int32, f_X10_mayStand σ l1 l2 = r → ∀ l, MetF l yX10_mayStand wsX10_mayStand rm_X10_mayStand g [.ref (g.1 102), .int l1, .int l2] σ (some (.int r)) σ := by
    intro r h
    refine MetF.of (own0 := RX10) (lv0 := [(0, .ref (g.1 102)), (1, .int l1), (2, .int l2)]) rfl cl_X10_mayStand (by decide) (Nat.le_of_ble_eq_true rfl) rfl ?_
    unfold f_X10_mayStand at h
    refine v_iload_n 1 2 dX10_mayStand_0 rfl rfl rfl ?_
    refine v_bipush 3 7 dX10_mayStand_1 kc_b_7 rfl ?_
    refine v_icmp_ne 6 22 h dX10_mayStand_3 rfl (by decide) (fun h => ?_) (fun h => ?_)
    · refine v_iload_n 23 1 dX10_mayStand_22 rfl rfl rfl ?_
      refine v_aload_n 24 0 dX10_mayStand_23 rfl rfl rfl ?_
      refine vg_6_2 27 (rfl : kK 102 = 6) in_X10_mayStand_6 (mem_at 1 rfl) dX10_mayStand_24 rfl ?_
      refine v_iconst 28 (-1) dX10_mayStand_27 kc_i_m1 rfl ?_
      refine v_ixor 29 dX10_mayStand_28 rfl ?_
      refine v_iand 30 dX10_mayStand_29 rfl ?_
      refine v_if_ne 33 52 h dX10_mayStand_30 rfl (by decide) (fun h => ?_) (fun h => ?_)
      · refine v_iconst 53 0 dX10_mayStand_52 kc_i_0 rfl ?_
        exact v_zretT h rfl (Or.inl rfl) dX10_mayStand_53
      · refine v_aload_n 34 0 dX10_mayStand_33 rfl rfl rfl ?_
        refine vg_6_2 37 (rfl : kK 102 = 6) in_X10_mayStand_6 (mem_at 1 rfl) dX10_mayStand_34 rfl ?_
        refine v_iload_n 38 1 dX10_mayStand_37 rfl rfl rfl ?_
        refine v_iconst 39 (-1) dX10_mayStand_38 kc_i_m1 rfl ?_
        refine v_ixor 40 dX10_mayStand_39 rfl ?_
        refine v_iand 41 dX10_mayStand_40 rfl ?_
        refine v_iload_n 42 2 dX10_mayStand_41 rfl rfl rfl ?_
        refine v_cN 45 [.int ((rI σ 102 2) &&& (l1 ^^^ (-1))), .int l2] (c_X11_hasBit ((rI σ 102 2) &&& (l1 ^^^ (-1))) l2) cl_X11_hasBit gX10_mayStand_X11_hasBit_n62 nw_X10_62 (mem_at 2 rfl) (mem_at 3 rfl) ⟨Nat.le_of_ble_eq_true rfl, Nat.le_of_ble_eq_true rfl⟩ rfl rfl (Nat.le_of_ble_eq_true rfl) dX10_mayStand_42 rfl ?_
        refine v_if_eq 48 52 h dX10_mayStand_45 rfl (by decide) (fun h => ?_) (fun h => ?_)
        · refine v_iconst 53 0 dX10_mayStand_52 kc_i_0 rfl ?_
          exact v_zretT h rfl (Or.inl rfl) dX10_mayStand_53
        · refine v_iconst 49 1 dX10_mayStand_48 kc_i_1 rfl ?_
          refine v_goto 53 dX10_mayStand_49 (by decide) ?_
          exact v_zretT h rfl (Or.inr rfl) dX10_mayStand_53
    · refine v_iload_n 7 1 dX10_mayStand_6 rfl rfl rfl ?_
      refine v_aload_n 8 0 dX10_mayStand_7 rfl rfl rfl ?_
      refine vg_6_2 11 (rfl : kK 102 = 6) in_X10_mayStand_6 (mem_at 1 rfl) dX10_mayStand_8 rfl ?_
      refine v_icmp_ne 14 18 h dX10_mayStand_11 rfl (by decide) (fun h => ?_) (fun h => ?_)
      · refine v_iconst 19 0 dX10_mayStand_18 kc_i_0 rfl ?_
        refine v_goto 53 dX10_mayStand_19 (by decide) ?_
        exact v_zretT h rfl (Or.inl rfl) dX10_mayStand_53
      · refine v_iconst 15 1 dX10_mayStand_14 kc_i_1 rfl ?_
        refine v_goto 53 dX10_mayStand_15 (by decide) ?_
        exact v_zretT h rfl (Or.inr rfl) dX10_mayStand_53
  exact main _ rfl
-- private void settle(WidowWeight$Row);
abbrev rm_X10_settle : Room := { frames := 1, cells := 0, slots := 0, locals := 21 }
theorem cl_X10_settle : Cl yX10_settle wsX10_settle cX10_settle 3 none rm_X10_settle 1 := ⟨⟨_, rfl⟩, rfl, rfl, by decide +kernel, by decide +kernel, by decide +kernel⟩
theorem in_X10_settle_6 : ∀ w ∈ wsX100, w ∈ wsX10_settle := fun w h => List.mem_cons_of_mem _ (List.mem_append_left _ (List.mem_append_right _ h))
def b_X10_settle_9 (k1 : Nat) : Nat → Sg → Int32 → Option Sg
  | 0, _, _ => none
  | f + 1, σ, l2 => (if 7 ≤ l2 then (f_X7_add σ 105 0).bind fun s2 => (some s2) else (f_X7_at σ k1 l2).bind fun x3 => (f_X7_add σ 105 x3).bind fun s4 => nam (l2 + 1) fun x5 => b_X10_settle_9 k1 f s4 x5)
def f_X10_settle (σ : Sg) (k1 : Nat) : Option Sg := (f_X7_restart σ 105).bind fun s1 => b_X10_settle_9 k1 FU s1 0
set_option maxRecDepth 100000 in
set_option maxHeartbeats 4000000 in
theorem q_X10_settle_9 {g : Cx} (k1 : Nat) (hk1 : kK k1 = 4) (τ : Sg) : ∀ f : Nat, ∀ σ : Sg, ∀ l2 : Int32, b_X10_settle_9 k1 f σ l2 = some τ → V g cX10_settle RX10 wsX10_settle 3 none rm_X10_settle none τ σ 9 [(0, .ref (g.1 102)), (1, .ref (g.1 k1)), (2, .int l2)] [] := by
  intro f
  induction f with
  | zero =>
    intro σ l2 h
    cases h
  | succ f ih =>
    intro σ l2 h
    rw [b_X10_settle_9] at h
    refine v_iload_n 10 2 dX10_settle_9 rfl rfl rfl ?_
    refine v_bipush 12 7 dX10_settle_10 kc_b_7 rfl ?_
    refine v_icmp_ge 15 33 h dX10_settle_12 rfl (by decide) (fun h => ?_) (fun h => ?_)
    · refine v_aload_n 34 0 dX10_settle_33 rfl rfl rfl ?_
      refine vg_6_1 37 105 (rfl : kK 102 = 6) in_X10_settle_6 (mem_at 1 rfl) rfl dX10_settle_34 rfl ?_
      refine v_iconst 38 0 dX10_settle_37 kc_i_0 rfl ?_
      obtain ⟨s2, h0, h⟩ := ob h
      refine v_cV 41 4 [.int 0] (rfl : kK 105 = 4) rfl (c_X7_add 105 0 (rfl : kK 105 = 4) _ h0) cl_X7_add gX10_settle_X7_add rfl ⟨Nat.le_of_ble_eq_true rfl, Nat.le_of_ble_eq_true rfl⟩ rfl rfl (Nat.le_of_ble_eq_true rfl) dX10_settle_38 rfl ?_
      exact v_vretS h rfl dX10_settle_41
    · refine v_aload_n 16 0 dX10_settle_15 rfl rfl rfl ?_
      refine vg_6_1 19 105 (rfl : kK 102 = 6) in_X10_settle_6 (mem_at 1 rfl) rfl dX10_settle_16 rfl ?_
      refine v_aload_n 20 1 dX10_settle_19 rfl rfl rfl ?_
      refine v_iload_n 21 2 dX10_settle_20 rfl rfl rfl ?_
      obtain ⟨x3, h0, h⟩ := ob h
      refine v_cV 24 4 [.int l2] hk1 rfl (c_X7_at k1 l2 hk1 _ h0) cl_X7_at gX10_settle_X7_at rfl ⟨Nat.le_of_ble_eq_true rfl, Nat.le_of_ble_eq_true rfl⟩ rfl rfl (Nat.le_of_ble_eq_true rfl) dX10_settle_21 rfl ?_
      obtain ⟨s4, h0, h⟩ := ob h
      refine v_cV 27 4 [.int x3] (rfl : kK 105 = 4) rfl (c_X7_add 105 x3 (rfl : kK 105 = 4) _ h0) cl_X7_add gX10_settle_X7_add rfl ⟨Nat.le_of_ble_eq_true rfl, Nat.le_of_ble_eq_true rfl⟩ rfl rfl (Nat.le_of_ble_eq_true rfl) dX10_settle_24 rfl ?_
      refine v_iincN 30 2 h dX10_settle_27 rfl kc_i_1 (by decide) rfl (fun _ => rfl) (fun x5 h => ?_)
      refine v_goto 9 dX10_settle_30 (by decide) ?_
      refine v_sub [1, 2, 0] rfl ?_
      exact ih s4 x5 h
set_option maxRecDepth 100000 in
set_option maxHeartbeats 4000000 in
theorem c_X10_settle {g : Cx} {σ : Sg} (k1 : Nat) (hk1 : kK k1 = 4) (τ : Sg) (h : f_X10_settle σ k1 = some τ) : ∀ l, MetF l yX10_settle wsX10_settle rm_X10_settle g [.ref (g.1 102), .ref (g.1 k1)] σ none τ := by
  refine MetF.of (own0 := RX10) (lv0 := [(0, .ref (g.1 102)), (1, .ref (g.1 k1))]) rfl cl_X10_settle (by decide) (Nat.le_of_ble_eq_true rfl) rfl ?_
  unfold f_X10_settle at h
  refine v_aload_n 1 0 dX10_settle_0 rfl rfl rfl ?_
  refine vg_6_1 4 105 (rfl : kK 102 = 6) in_X10_settle_6 (mem_at 1 rfl) rfl dX10_settle_1 rfl ?_
  obtain ⟨s1, h0, h⟩ := ob h
  refine v_cV 7 4 [] (rfl : kK 105 = 4) rfl (c_X7_restart 105 (rfl : kK 105 = 4) _ h0) cl_X7_restart gX10_settle_X7_restart rfl ⟨Nat.le_of_ble_eq_true rfl, Nat.le_of_ble_eq_true rfl⟩ rfl rfl (Nat.le_of_ble_eq_true rfl) dX10_settle_4 rfl ?_
  refine v_iconst 8 0 dX10_settle_7 kc_i_0 rfl ?_
  refine v_istore_n 9 dX10_settle_8 rfl (by decide) rfl rfl ?_
  refine v_sub [1, 2, 0] rfl ?_
  exact q_X10_settle_9 k1 hk1 τ FU s1 0 h
-- void plan(WidowWeight$Row, int);
abbrev rm_X10_plan : Room := { frames := 5, cells := 0, slots := 0, locals := 115 }
theorem cl_X10_plan : Cl yX10_plan wsX10_plan cX10_plan 5 none rm_X10_plan 2 := ⟨⟨_, rfl⟩, rfl, rfl, by decide +kernel, by decide +kernel, by decide +kernel⟩
theorem in_X10_plan_6 : ∀ w ∈ wsX100, w ∈ wsX10_plan := fun w h => List.mem_cons_of_mem _ (List.mem_append_left _ (List.mem_append_right _ h))
def b_X10_plan_68 (k1 : Nat) (l2 : Int32) (c19 : Sg → Int32 → Option Sg) (c30 : Sg → Int32 → Int32 → Option Sg) (σ : Sg) (l3 : Int32) (l4 : Int32) : Option Sg := nam (l4 + 1) fun x5 => c30 σ l3 x5
def b_X10_plan_30 (k1 : Nat) (l2 : Int32) (c19 : Sg → Int32 → Option Sg) : Nat → Sg → Int32 → Int32 → Option Sg
  | 0, _, _, _ => none
  | f + 1, σ, l3, l4 => (if 7 < l4 then nam (l3 + 1) fun x4 => c19 σ x4 else (if (f_X10_mayStand σ l3 l4) = 0 then b_X10_plan_68 k1 l2 c19 (b_X10_plan_30 k1 l2 c19 f) σ l3 l4 else (f_X10_leastHours σ l3 l4).bind fun x6 => (f_X7_put σ 103 ((l3 * 8) + l4) x6).bind fun s7 => b_X10_plan_68 k1 l2 c19 (b_X10_plan_30 k1 l2 c19 f) s7 l3 l4))
def b_X10_plan_19 (k1 : Nat) (l2 : Int32) : Nat → Sg → Int32 → Option Sg
  | 0, _, _ => none
  | f + 1, σ, l3 => (if (rI σ 102 2) < l3 then (some σ) else b_X10_plan_30 k1 l2 (b_X10_plan_19 k1 l2 f) FU σ l3 0)
def f_X10_plan (σ : Sg) (k1 : Nat) (l2 : Int32) : Option Sg := (f_X10_settle σ k1).bind fun s1 => nam (stI s1 102 2 l2) fun s2 => (f_X7_useAll s2 103).bind fun s3 => b_X10_plan_19 k1 l2 FU s3 0
set_option maxRecDepth 100000 in
set_option maxHeartbeats 4000000 in
theorem q_X10_plan_68 {g : Cx} (k1 : Nat) (l2 : Int32) (hk1 : kK k1 = 4) (τ : Sg) (c19 : Sg → Int32 → Option Sg) (c30 : Sg → Int32 → Int32 → Option Sg) (hc19 : ∀ σ : Sg, ∀ l3 : Int32, c19 σ l3 = some τ → V g cX10_plan RX10 wsX10_plan 5 none rm_X10_plan none τ σ 19 [(0, .ref (g.1 102)), (3, .int l3)] []) (hc30 : ∀ σ : Sg, ∀ l3 : Int32, ∀ l4 : Int32, c30 σ l3 l4 = some τ → V g cX10_plan RX10 wsX10_plan 5 none rm_X10_plan none τ σ 30 [(0, .ref (g.1 102)), (3, .int l3), (4, .int l4)] []) : ∀ σ : Sg, ∀ l3 : Int32, ∀ l4 : Int32, b_X10_plan_68 k1 l2 c19 c30 σ l3 l4 = some τ → V g cX10_plan RX10 wsX10_plan 5 none rm_X10_plan none τ σ 68 [(0, .ref (g.1 102)), (3, .int l3), (4, .int l4)] [] := by
  intro σ l3 l4 h
  unfold b_X10_plan_68 at h
  refine v_iincN 71 2 h dX10_plan_68 rfl kc_i_1 (by decide) rfl (fun _ => rfl) (fun x5 h => ?_)
  refine v_goto 30 dX10_plan_71 (by decide) ?_
  refine v_sub [1, 2, 0] rfl ?_
  exact hc30 σ l3 x5 h
set_option maxRecDepth 100000 in
set_option maxHeartbeats 4000000 in
theorem q_X10_plan_30 {g : Cx} (k1 : Nat) (l2 : Int32) (hk1 : kK k1 = 4) (τ : Sg) (c19 : Sg → Int32 → Option Sg) (hc19 : ∀ σ : Sg, ∀ l3 : Int32, c19 σ l3 = some τ → V g cX10_plan RX10 wsX10_plan 5 none rm_X10_plan none τ σ 19 [(0, .ref (g.1 102)), (3, .int l3)] []) : ∀ f : Nat, ∀ σ : Sg, ∀ l3 : Int32, ∀ l4 : Int32, b_X10_plan_30 k1 l2 c19 f σ l3 l4 = some τ → V g cX10_plan RX10 wsX10_plan 5 none rm_X10_plan none τ σ 30 [(0, .ref (g.1 102)), (3, .int l3), (4, .int l4)] [] := by
  intro f
  induction f with
  | zero =>
    intro σ l3 l4 h
    cases h
  | succ f ih =>
    intro σ l3 l4 h
    rw [b_X10_plan_30] at h
    refine v_iload 32 2 dX10_plan_30 rfl rfl ?_
    refine v_bipush 34 7 dX10_plan_32 kc_b_7 rfl ?_
    refine v_icmp_gt 37 74 h dX10_plan_34 rfl (by decide) (fun h => ?_) (fun h => ?_)
    · refine v_iincN 77 1 h dX10_plan_74 rfl kc_i_1 (by decide) rfl (fun _ => rfl) (fun x4 h => ?_)
      refine v_goto 19 dX10_plan_77 (by decide) ?_
      refine v_sub [1, 0] rfl ?_
      exact hc19 σ x4 h
    · refine v_aload_n 38 0 dX10_plan_37 rfl rfl rfl ?_
      refine v_iload_n 39 1 dX10_plan_38 rfl rfl rfl ?_
      refine v_iload 41 2 dX10_plan_39 rfl rfl ?_
      refine v_cV 44 6 [.int l3, .int l4] (rfl : kK 102 = 6) rfl (c_X10_mayStand l3 l4) cl_X10_mayStand gX10_plan_X10_mayStand rfl ⟨Nat.le_of_ble_eq_true rfl, Nat.le_of_ble_eq_true rfl⟩ rfl rfl (Nat.le_of_ble_eq_true rfl) dX10_plan_41 rfl ?_
      refine v_if_eq 47 68 h dX10_plan_44 rfl (by decide) (fun h => ?_) (fun h => ?_)
      · refine v_sub [0, 1, 2] rfl ?_
        exact q_X10_plan_68 k1 l2 hk1 τ c19 (b_X10_plan_30 k1 l2 c19 f) hc19 ih σ l3 l4 h
      · refine v_aload_n 48 0 dX10_plan_47 rfl rfl rfl ?_
        refine vg_6_0 51 103 (rfl : kK 102 = 6) in_X10_plan_6 (mem_at 2 rfl) rfl dX10_plan_48 rfl ?_
        refine v_iload_n 52 1 dX10_plan_51 rfl rfl rfl ?_
        refine v_bipush 54 8 dX10_plan_52 kc_b_8 rfl ?_
        refine v_imul 55 dX10_plan_54 rfl ?_
        refine v_iload 57 2 dX10_plan_55 rfl rfl ?_
        refine v_iadd 58 dX10_plan_57 rfl ?_
        refine v_aload_n 59 0 dX10_plan_58 rfl rfl rfl ?_
        refine v_iload_n 60 1 dX10_plan_59 rfl rfl rfl ?_
        refine v_iload 62 2 dX10_plan_60 rfl rfl ?_
        obtain ⟨x6, h0, h⟩ := ob h
        refine v_cV 65 6 [.int l3, .int l4] (rfl : kK 102 = 6) rfl (c_X10_leastHours l3 l4 _ h0) cl_X10_leastHours gX10_plan_X10_leastHours rfl ⟨Nat.le_of_ble_eq_true rfl, Nat.le_of_ble_eq_true rfl⟩ rfl rfl (Nat.le_of_ble_eq_true rfl) dX10_plan_62 rfl ?_
        obtain ⟨s7, h0, h⟩ := ob h
        refine v_cV 68 4 [.int ((l3 * 8) + l4), .int x6] (rfl : kK 103 = 4) rfl (c_X7_put 103 ((l3 * 8) + l4) x6 (rfl : kK 103 = 4) _ h0) cl_X7_put gX10_plan_X7_put rfl ⟨Nat.le_of_ble_eq_true rfl, Nat.le_of_ble_eq_true rfl⟩ rfl rfl (Nat.le_of_ble_eq_true rfl) dX10_plan_65 rfl ?_
        refine v_sub [0, 1, 2] rfl ?_
        exact q_X10_plan_68 k1 l2 hk1 τ c19 (b_X10_plan_30 k1 l2 c19 f) hc19 ih s7 l3 l4 h
set_option maxRecDepth 100000 in
set_option maxHeartbeats 4000000 in
theorem q_X10_plan_19 {g : Cx} (k1 : Nat) (l2 : Int32) (hk1 : kK k1 = 4) (τ : Sg) : ∀ f : Nat, ∀ σ : Sg, ∀ l3 : Int32, b_X10_plan_19 k1 l2 f σ l3 = some τ → V g cX10_plan RX10 wsX10_plan 5 none rm_X10_plan none τ σ 19 [(0, .ref (g.1 102)), (3, .int l3)] [] := by
  intro f
  induction f with
  | zero =>
    intro σ l3 h
    cases h
  | succ f ih =>
    intro σ l3 h
    rw [b_X10_plan_19] at h
    refine v_iload_n 20 1 dX10_plan_19 rfl rfl rfl ?_
    refine v_aload_n 21 0 dX10_plan_20 rfl rfl rfl ?_
    refine vg_6_2 24 (rfl : kK 102 = 6) in_X10_plan_6 (mem_at 1 rfl) dX10_plan_21 rfl ?_
    refine v_icmp_gt 27 80 h dX10_plan_24 rfl (by decide) (fun h => ?_) (fun h => ?_)
    · exact v_vretS h rfl dX10_plan_80
    · refine v_iconst 28 0 dX10_plan_27 kc_i_0 rfl ?_
      refine v_istore 30 dX10_plan_28 (by decide) rfl rfl ?_
      refine v_sub [1, 2, 0] rfl ?_
      exact q_X10_plan_30 k1 l2 hk1 τ (b_X10_plan_19 k1 l2 f) ih FU σ l3 0 h
set_option maxRecDepth 100000 in
set_option maxHeartbeats 4000000 in
theorem c_X10_plan {g : Cx} {σ : Sg} (k1 : Nat) (l2 : Int32) (hk1 : kK k1 = 4) (τ : Sg) (h : f_X10_plan σ k1 l2 = some τ) : ∀ l, MetF l yX10_plan wsX10_plan rm_X10_plan g [.ref (g.1 102), .ref (g.1 k1), .int l2] σ none τ := by
  refine MetF.of (own0 := RX10) (lv0 := [(0, .ref (g.1 102)), (1, .ref (g.1 k1)), (2, .int l2)]) rfl cl_X10_plan (by decide) (Nat.le_of_ble_eq_true rfl) rfl ?_
  unfold f_X10_plan at h
  refine v_aload_n 1 0 dX10_plan_0 rfl rfl rfl ?_
  refine v_aload_n 2 1 dX10_plan_1 rfl rfl rfl ?_
  obtain ⟨s1, h0, h⟩ := ob h
  refine v_cV 5 6 [.ref (g.1 k1)] (rfl : kK 102 = 6) rfl (c_X10_settle k1 hk1 _ h0) cl_X10_settle gX10_plan_X10_settle rfl ⟨Nat.le_of_ble_eq_true rfl, Nat.le_of_ble_eq_true rfl⟩ rfl rfl (Nat.le_of_ble_eq_true rfl) dX10_plan_2 rfl ?_
  refine v_aload_n 6 0 dX10_plan_5 rfl rfl rfl ?_
  refine v_iload_n 7 2 dX10_plan_6 rfl rfl rfl ?_
  refine vp_6_2 10 h (rfl : kK 102 = 6) in_X10_plan_6 (mem_at 1 rfl) dX10_plan_7 rfl (fun s2 h => ?_)
  refine v_aload_n 11 0 dX10_plan_10 rfl rfl rfl ?_
  refine vg_6_0 14 103 (rfl : kK 102 = 6) in_X10_plan_6 (mem_at 2 rfl) rfl dX10_plan_11 rfl ?_
  obtain ⟨s3, h0, h⟩ := ob h
  refine v_cV 17 4 [] (rfl : kK 103 = 4) rfl (c_X7_useAll 103 (rfl : kK 103 = 4) _ h0) cl_X7_useAll gX10_plan_X7_useAll rfl ⟨Nat.le_of_ble_eq_true rfl, Nat.le_of_ble_eq_true rfl⟩ rfl rfl (Nat.le_of_ble_eq_true rfl) dX10_plan_14 rfl ?_
  refine v_iconst 18 0 dX10_plan_17 kc_i_0 rfl ?_
  refine v_istore_n 19 dX10_plan_18 rfl (by decide) rfl rfl ?_
  refine v_sub [1, 0] rfl ?_
  exact q_X10_plan_19 k1 l2 hk1 τ FU s3 0 h
-- int visited(int);
abbrev rm_X10_visited : Room := { frames := 4, cells := 0, slots := 0, locals := 93 }
theorem cl_X10_visited : Cl yX10_visited wsX10_visited cX10_visited 5 (some .int) rm_X10_visited 1 := ⟨⟨_, rfl⟩, rfl, rfl, by decide +kernel, by decide +kernel, by decide +kernel⟩
theorem in_X10_visited_6 : ∀ w ∈ wsX100, w ∈ wsX10_visited := fun w h => List.mem_cons_of_mem _ (List.mem_append_left _ (List.mem_append_right _ h))
def b_X10_visited_11 (σ : Sg) (l1 : Int32) : Nat → Int32 → Int32 → Int32 → Option Int32
  | 0, _, _, _ => none
  | f + 1, l2, l3, l4 => (if l1 < l4 then (some (l3)) else (if l2 = 0 then (some (l3)) else (f_X10_firstBest σ l2 l3).bind fun x2 => nam (l2 &&& ((1 <<< (x2 &&& 31)) ^^^ (-1))) fun x3 => nam (l4 + 1) fun x4 => b_X10_visited_11 σ l1 f x3 x2 x4))
def f_X10_visited (σ : Sg) (l1 : Int32) : Option Int32 := nam (rI σ 102 2) fun x1 => b_X10_visited_11 σ l1 FU x1 7 0
set_option maxRecDepth 100000 in
set_option maxHeartbeats 4000000 in
theorem q_X10_visited_11 {g : Cx} (σ : Sg) (l1 : Int32) (r : Int32) : ∀ f : Nat, ∀ l2 : Int32, ∀ l3 : Int32, ∀ l4 : Int32, b_X10_visited_11 σ l1 f l2 l3 l4 = some r → V g cX10_visited RX10 wsX10_visited 5 (some .int) rm_X10_visited (some (.int r)) σ σ 11 [(0, .ref (g.1 102)), (1, .int l1), (2, .int l2), (3, .int l3), (4, .int l4)] [] := by
  intro f
  induction f with
  | zero =>
    intro l2 l3 l4 h
    cases h
  | succ f ih =>
    intro l2 l3 l4 h
    rw [b_X10_visited_11] at h
    refine v_iload 13 4 dX10_visited_11 rfl rfl ?_
    refine v_iload_n 14 1 dX10_visited_13 rfl rfl rfl ?_
    refine v_icmp_gt 17 42 h dX10_visited_14 rfl (by decide) (fun h => ?_) (fun h => ?_)
    · refine v_iload_n 43 3 dX10_visited_42 rfl rfl rfl ?_
      exact v_iretP h rfl dX10_visited_43
    · refine v_iload_n 18 2 dX10_visited_17 rfl rfl rfl ?_
      refine v_if_eq 21 42 h dX10_visited_18 rfl (by decide) (fun h => ?_) (fun h => ?_)
      · refine v_iload_n 43 3 dX10_visited_42 rfl rfl rfl ?_
        exact v_iretP h rfl dX10_visited_43
      · refine v_aload_n 22 0 dX10_visited_21 rfl rfl rfl ?_
        refine v_iload_n 23 2 dX10_visited_22 rfl rfl rfl ?_
        refine v_iload_n 24 3 dX10_visited_23 rfl rfl rfl ?_
        obtain ⟨x2, h0, h⟩ := ob h
        refine v_cV 27 6 [.int l2, .int l3] (rfl : kK 102 = 6) rfl (c_X10_firstBest l2 l3 _ h0) cl_X10_firstBest gX10_visited_X10_firstBest rfl ⟨Nat.le_of_ble_eq_true rfl, Nat.le_of_ble_eq_true rfl⟩ rfl rfl (Nat.le_of_ble_eq_true rfl) dX10_visited_24 rfl ?_
        refine v_istore_n 28 dX10_visited_27 rfl (by decide) rfl rfl ?_
        refine v_iload_n 29 3 dX10_visited_28 rfl rfl rfl ?_
        refine v_iconst 30 1 dX10_visited_29 kc_i_1 rfl ?_
        refine v_iload_n 31 0 dX10_visited_30 rfl rfl rfl ?_
        refine v_ishl 32 dX10_visited_31 rfl ?_
        refine v_iconst 33 (-1) dX10_visited_32 kc_i_m1 rfl ?_
        refine v_ixor 34 dX10_visited_33 rfl ?_
        refine v_iand 35 dX10_visited_34 rfl ?_
        refine v_istoreN_n 36 h dX10_visited_35 rfl (by decide) rfl (fun _ => rfl) (fun x3 h => ?_)
        refine v_iincN 39 4 h dX10_visited_36 rfl kc_i_1 (by decide) rfl (fun _ => rfl) (fun x4 h => ?_)
        refine v_goto 11 dX10_visited_39 (by decide) ?_
        refine v_sub [3, 4, 1, 2, 0] rfl ?_
        exact ih x3 x2 x4 h
set_option maxRecDepth 100000 in
set_option maxHeartbeats 4000000 in
theorem c_X10_visited {g : Cx} {σ : Sg} (l1 : Int32) (r : Int32) (h : f_X10_visited σ l1 = some r) : ∀ l, MetF l yX10_visited wsX10_visited rm_X10_visited g [.ref (g.1 102), .int l1] σ (some (.int r)) σ := by
  refine MetF.of (own0 := RX10) (lv0 := [(0, .ref (g.1 102)), (1, .int l1)]) rfl cl_X10_visited (by decide) (Nat.le_of_ble_eq_true rfl) rfl ?_
  unfold f_X10_visited at h
  refine v_aload_n 1 0 dX10_visited_0 rfl rfl rfl ?_
  refine vg_6_2 4 (rfl : kK 102 = 6) in_X10_visited_6 (mem_at 1 rfl) dX10_visited_1 rfl ?_
  refine v_istoreN_n 5 h dX10_visited_4 rfl (by decide) rfl (fun _ => rfl) (fun x1 h => ?_)
  refine v_bipush 7 7 dX10_visited_5 kc_b_7 rfl ?_
  refine v_istore_n 8 dX10_visited_7 rfl (by decide) rfl rfl ?_
  refine v_iconst 9 0 dX10_visited_8 kc_i_0 rfl ?_
  refine v_istore 11 dX10_visited_9 (by decide) rfl rfl ?_
  refine v_sub [3, 4, 2, 1, 0] rfl ?_
  exact q_X10_visited_11 σ l1 r FU x1 7 0 h
