-- private void adds(int, int, int, int);
abbrev rm_X12_adds : Room := { frames := 0, cells := 0, slots := 0, locals := 0 }
theorem cl_X12_adds : Cl yX12_adds wsX12_adds cX12_adds 6 none rm_X12_adds 4 := ⟨⟨_, rfl⟩, rfl, rfl, by decide +kernel, by decide +kernel, by decide +kernel⟩
theorem in_X12_adds_8 : ∀ w ∈ wsX120, w ∈ wsX12_adds := fun w h => List.mem_cons_of_mem _ (List.mem_append_right _ h)
def f_X12_adds (σ : Sg) (l1 : Int32) (l2 : Int32) (l3 : Int32) (l4 : Int32) : Option Sg := (if inb (l1 + 0) (kLen 113) = true then nam (rI σ 113 (ix (l1 + 0))) fun x1 => (if inb ((l1 + 4) + x1) (kLen 113) = true then nam (stI σ 113 (ix ((l1 + 4) + x1)) l2) (fun s2 => (if inb ((l1 + 11) + x1) (kLen 113) = true then nam (stI s2 113 (ix ((l1 + 11) + x1)) l3) (fun s3 => (if inb ((l1 + 18) + x1) (kLen 113) = true then nam (stI s3 113 (ix ((l1 + 18) + x1)) l4) (fun s4 => (if inb ((l1 + 25) + x1) (kLen 113) = true then nam (stI s4 113 (ix ((l1 + 25) + x1)) l4) (fun s5 => (if inb ((l1 + 32) + x1) (kLen 113) = true then nam (stI s5 113 (ix ((l1 + 32) + x1)) 5) (fun s6 => (if inb (l1 + 0) (kLen 113) = true then (if inb (l1 + 0) (kLen 113) = true then nam (stI s6 113 (ix (l1 + 0)) ((rI s6 113 (ix (l1 + 0))) + 1)) (fun s7 => (some s7)) else none) else none)) else none)) else none)) else none)) else none)) else none) else none)
set_option maxRecDepth 100000 in
set_option maxHeartbeats 4000000 in
theorem c_X12_adds {g : Cx} {σ : Sg} (l1 : Int32) (l2 : Int32) (l3 : Int32) (l4 : Int32) (τ : Sg) (h : f_X12_adds σ l1 l2 l3 l4 = some τ) : ∀ l, MetF l yX12_adds wsX12_adds rm_X12_adds g [.ref (g.1 112), .int l1, .int l2, .int l3, .int l4] σ none τ := by
  refine MetF.of (own0 := RX12) (lv0 := [(0, .ref (g.1 112)), (1, .int l1), (2, .int l2), (3, .int l3), (4, .int l4)]) rfl cl_X12_adds (by decide) (Nat.le_of_ble_eq_true rfl) rfl ?_
  unfold f_X12_adds at h
  refine v_aload_n 1 0 dX12_adds_0 rfl rfl rfl ?_
  refine vg_8_0 4 (rfl : kK 112 = 8) in_X12_adds_8 (mem_at 1 rfl) dX12_adds_1 rfl ?_
  refine v_iload_n 5 1 dX12_adds_4 rfl rfl rfl ?_
  refine v_iconst 6 0 dX12_adds_5 kc_i_0 rfl ?_
  refine v_iadd 7 dX12_adds_6 rfl ?_
  refine v_iald 8 h (rfl : kK 113 = 9) dX12_adds_7 rfl (fun h => ?_)
  refine v_istoreN 10 h dX12_adds_8 (by decide) rfl (fun _ => rfl) (fun x1 h => ?_)
  refine v_aload_n 11 1 dX12_adds_10 rfl rfl rfl ?_
  refine vg_8_0 14 (rfl : kK 112 = 8) in_X12_adds_8 (mem_at 1 rfl) dX12_adds_11 rfl ?_
  refine v_iload_n 15 2 dX12_adds_14 rfl rfl rfl ?_
  refine v_iconst 16 4 dX12_adds_15 kc_i_4 rfl ?_
  refine v_iadd 17 dX12_adds_16 rfl ?_
  refine v_iload 19 0 dX12_adds_17 rfl rfl ?_
  refine v_iadd 20 dX12_adds_19 rfl ?_
  refine v_iload_n 21 3 dX12_adds_20 rfl rfl rfl ?_
  refine v_iast 22 h (rfl : kK 113 = 9) dX12_adds_21 rfl (fun s2 h => ?_)
  refine v_aload_n 23 1 dX12_adds_22 rfl rfl rfl ?_
  refine vg_8_0 26 (rfl : kK 112 = 8) in_X12_adds_8 (mem_at 1 rfl) dX12_adds_23 rfl ?_
  refine v_iload_n 27 2 dX12_adds_26 rfl rfl rfl ?_
  refine v_bipush 29 11 dX12_adds_27 kc_b_11 rfl ?_
  refine v_iadd 30 dX12_adds_29 rfl ?_
  refine v_iload 32 0 dX12_adds_30 rfl rfl ?_
  refine v_iadd 33 dX12_adds_32 rfl ?_
  refine v_iload_n 34 4 dX12_adds_33 rfl rfl rfl ?_
  refine v_iast 35 h (rfl : kK 113 = 9) dX12_adds_34 rfl (fun s3 h => ?_)
  refine v_aload_n 36 1 dX12_adds_35 rfl rfl rfl ?_
  refine vg_8_0 39 (rfl : kK 112 = 8) in_X12_adds_8 (mem_at 1 rfl) dX12_adds_36 rfl ?_
  refine v_iload_n 40 2 dX12_adds_39 rfl rfl rfl ?_
  refine v_bipush 42 18 dX12_adds_40 kc_b_18 rfl ?_
  refine v_iadd 43 dX12_adds_42 rfl ?_
  refine v_iload 45 0 dX12_adds_43 rfl rfl ?_
  refine v_iadd 46 dX12_adds_45 rfl ?_
  refine v_iload 48 5 dX12_adds_46 rfl rfl ?_
  refine v_iast 49 h (rfl : kK 113 = 9) dX12_adds_48 rfl (fun s4 h => ?_)
  refine v_aload_n 50 1 dX12_adds_49 rfl rfl rfl ?_
  refine vg_8_0 53 (rfl : kK 112 = 8) in_X12_adds_8 (mem_at 1 rfl) dX12_adds_50 rfl ?_
  refine v_iload_n 54 2 dX12_adds_53 rfl rfl rfl ?_
  refine v_bipush 56 25 dX12_adds_54 kc_b_25 rfl ?_
  refine v_iadd 57 dX12_adds_56 rfl ?_
  refine v_iload 59 0 dX12_adds_57 rfl rfl ?_
  refine v_iadd 60 dX12_adds_59 rfl ?_
  refine v_iload 62 5 dX12_adds_60 rfl rfl ?_
  refine v_iast 63 h (rfl : kK 113 = 9) dX12_adds_62 rfl (fun s5 h => ?_)
  refine v_aload_n 64 1 dX12_adds_63 rfl rfl rfl ?_
  refine vg_8_0 67 (rfl : kK 112 = 8) in_X12_adds_8 (mem_at 1 rfl) dX12_adds_64 rfl ?_
  refine v_iload_n 68 2 dX12_adds_67 rfl rfl rfl ?_
  refine v_bipush 70 32 dX12_adds_68 kc_b_32 rfl ?_
  refine v_iadd 71 dX12_adds_70 rfl ?_
  refine v_iload 73 0 dX12_adds_71 rfl rfl ?_
  refine v_iadd 74 dX12_adds_73 rfl ?_
  refine v_iconst 75 5 dX12_adds_74 kc_i_5 rfl ?_
  refine v_iast 76 h (rfl : kK 113 = 9) dX12_adds_75 rfl (fun s6 h => ?_)
  refine v_aload_n 77 1 dX12_adds_76 rfl rfl rfl ?_
  refine vg_8_0 80 (rfl : kK 112 = 8) in_X12_adds_8 (mem_at 1 rfl) dX12_adds_77 rfl ?_
  refine v_iload_n 81 2 dX12_adds_80 rfl rfl rfl ?_
  refine v_iconst 82 0 dX12_adds_81 kc_i_0 rfl ?_
  refine v_iadd 83 dX12_adds_82 rfl ?_
  refine v_dup2 84 dX12_adds_83 rfl rfl rfl ?_
  refine v_iald 85 h (rfl : kK 113 = 9) dX12_adds_84 rfl (fun h => ?_)
  refine v_iconst 86 1 dX12_adds_85 kc_i_1 rfl ?_
  refine v_iadd 87 dX12_adds_86 rfl ?_
  refine v_iast 88 h (rfl : kK 113 = 9) dX12_adds_87 rfl (fun s7 h => ?_)
  exact v_vretS h rfl dX12_adds_88
-- private int allStones();
abbrev rm_X12_allStones : Room := { frames := 0, cells := 0, slots := 0, locals := 0 }
theorem cl_X12_allStones : Cl yX12_allStones wsX12_allStones cX12_allStones 3 (some .int) rm_X12_allStones 0 := ⟨⟨_, rfl⟩, rfl, rfl, by decide +kernel, by decide +kernel, by decide +kernel⟩
theorem in_X12_allStones_8 : ∀ w ∈ wsX120, w ∈ wsX12_allStones := fun w h => List.mem_cons_of_mem _ (List.mem_append_right _ h)
def b_X12_allStones_4 (σ : Sg) : Nat → Int32 → Int32 → Option Int32
  | 0, _, _ => none
  | f + 1, l1, l2 => (if inb 0 (kLen 113) = true then (if (rI σ 113 (ix 0)) ≤ l2 then (some (l1)) else (if inb (18 + l2) (kLen 113) = true then nam (l1 + (rI σ 113 (ix (18 + l2)))) fun x1 => nam (l2 + 1) fun x2 => b_X12_allStones_4 σ f x1 x2 else none)) else none)
def f_X12_allStones (σ : Sg) : Option Int32 := b_X12_allStones_4 σ FU 0 0
set_option maxRecDepth 100000 in
set_option maxHeartbeats 4000000 in
theorem q_X12_allStones_4 {g : Cx} (σ : Sg) (r : Int32) : ∀ f : Nat, ∀ l1 : Int32, ∀ l2 : Int32, b_X12_allStones_4 σ f l1 l2 = some r → V g cX12_allStones RX12 wsX12_allStones 3 (some .int) rm_X12_allStones (some (.int r)) σ σ 4 [(0, .ref (g.1 112)), (1, .int l1), (2, .int l2)] [] := by
  intro f
  induction f with
  | zero =>
    intro l1 l2 h
    cases h
  | succ f ih =>
    intro l1 l2 h
    rw [b_X12_allStones_4] at h
    refine v_iload_n 5 2 dX12_allStones_4 rfl rfl rfl ?_
    refine v_aload_n 6 0 dX12_allStones_5 rfl rfl rfl ?_
    refine vg_8_0 9 (rfl : kK 112 = 8) in_X12_allStones_8 (mem_at 1 rfl) dX12_allStones_6 rfl ?_
    refine v_iconst 10 0 dX12_allStones_9 kc_i_0 rfl ?_
    refine v_iald 11 h (rfl : kK 113 = 9) dX12_allStones_10 rfl (fun h => ?_)
    refine v_icmp_ge 14 32 h dX12_allStones_11 rfl (by decide) (fun h => ?_) (fun h => ?_)
    · refine v_iload_n 33 1 dX12_allStones_32 rfl rfl rfl ?_
      exact v_iretP h rfl dX12_allStones_33
    · refine v_iload_n 15 1 dX12_allStones_14 rfl rfl rfl ?_
      refine v_aload_n 16 0 dX12_allStones_15 rfl rfl rfl ?_
      refine vg_8_0 19 (rfl : kK 112 = 8) in_X12_allStones_8 (mem_at 1 rfl) dX12_allStones_16 rfl ?_
      refine v_bipush 21 18 dX12_allStones_19 kc_b_18 rfl ?_
      refine v_iload_n 22 2 dX12_allStones_21 rfl rfl rfl ?_
      refine v_iadd 23 dX12_allStones_22 rfl ?_
      refine v_iald 24 h (rfl : kK 113 = 9) dX12_allStones_23 rfl (fun h => ?_)
      refine v_iadd 25 dX12_allStones_24 rfl ?_
      refine v_istoreN_n 26 h dX12_allStones_25 rfl (by decide) rfl (fun _ => rfl) (fun x1 h => ?_)
      refine v_iincN 29 2 h dX12_allStones_26 rfl kc_i_1 (by decide) rfl (fun _ => rfl) (fun x2 h => ?_)
      refine v_goto 4 dX12_allStones_29 (by decide) ?_
      refine v_sub [2, 1, 0] rfl ?_
      exact ih x1 x2 h
set_option maxRecDepth 100000 in
set_option maxHeartbeats 4000000 in
theorem c_X12_allStones {g : Cx} {σ : Sg} (r : Int32) (h : f_X12_allStones σ = some r) : ∀ l, MetF l yX12_allStones wsX12_allStones rm_X12_allStones g [.ref (g.1 112)] σ (some (.int r)) σ := by
  refine MetF.of (own0 := RX12) (lv0 := [(0, .ref (g.1 112))]) rfl cl_X12_allStones (by decide) (Nat.le_of_ble_eq_true rfl) rfl ?_
  unfold f_X12_allStones at h
  refine v_iconst 1 0 dX12_allStones_0 kc_i_0 rfl ?_
  refine v_istore_n 2 dX12_allStones_1 rfl (by decide) rfl rfl ?_
  refine v_iconst 3 0 dX12_allStones_2 kc_i_0 rfl ?_
  refine v_istore_n 4 dX12_allStones_3 rfl (by decide) rfl rfl ?_
  refine v_sub [2, 1, 0] rfl ?_
  exact q_X12_allStones_4 σ r FU 0 0 h
-- private static boolean in(long, long, long);
abbrev rm_X12_in : Room := { frames := 0, cells := 0, slots := 0, locals := 0 }
theorem cl_X12_in : Cl yX12_in wsX12_in cX12_in 6 (some .boolean) rm_X12_in 3 := ⟨⟨_, rfl⟩, rfl, rfl, by decide +kernel, by decide +kernel, by decide +kernel⟩
def f_X12_in (l0 : Int64) (l2 : Int64) (l4 : Int64) : Int32 := (if (lg_cmp l0 l2) < 0 then 0 else (if 0 < (lg_cmp l0 l4) then 0 else 1))
theorem zb_X12_in {l0 : Int64} {l2 : Int64} {l4 : Int64} : f_X12_in l0 l2 l4 = 0 ∨ f_X12_in l0 l2 l4 = 1 := by
  unfold f_X12_in
  try simp only [nam]
  repeat' (first | exact Or.inl rfl | exact Or.inr rfl | split)
set_option maxRecDepth 100000 in
set_option maxHeartbeats 4000000 in
theorem c_X12_in {g : Cx} {σ : Sg} (l0 : Int64) (l2 : Int64) (l4 : Int64) : ∀ l, MetF l yX12_in wsX12_in rm_X12_in g [.long l0, .long l2, .long l4] σ (some (.int (f_X12_in l0 l2 l4))) σ := by
  have main : ∀ r : Int32, f_X12_in l0 l2 l4 = r → ∀ l, MetF l yX12_in wsX12_in rm_X12_in g [.long l0, .long l2, .long l4] σ (some (.int r)) σ := by
    intro r h
    refine MetF.of (own0 := RX12) (lv0 := [(0, .long l0), (2, .long l2), (4, .long l4)]) rfl cl_X12_in (by decide) (Nat.le_of_ble_eq_true rfl) rfl ?_
    unfold f_X12_in at h
    refine v_lload_n 1 0 dX12_in_0 rfl rfl rfl ?_
    refine v_lload_n 2 1 dX12_in_1 rfl rfl rfl ?_
    refine v_lcmp 3 dX12_in_2 rfl ?_
    refine v_if_lt 6 17 h dX12_in_3 rfl (by decide) (fun h => ?_) (fun h => ?_)
    · refine v_iconst 18 0 dX12_in_17 kc_i_0 rfl ?_
      exact v_zretT h rfl (Or.inl rfl) dX12_in_18
    · refine v_lload_n 7 0 dX12_in_6 rfl rfl rfl ?_
      refine v_lload 9 2 dX12_in_7 rfl rfl ?_
      refine v_lcmp 10 dX12_in_9 rfl ?_
      refine v_if_gt 13 17 h dX12_in_10 rfl (by decide) (fun h => ?_) (fun h => ?_)
      · refine v_iconst 18 0 dX12_in_17 kc_i_0 rfl ?_
        exact v_zretT h rfl (Or.inl rfl) dX12_in_18
      · refine v_iconst 14 1 dX12_in_13 kc_i_1 rfl ?_
        refine v_goto 18 dX12_in_14 (by decide) ?_
        exact v_zretT h rfl (Or.inr rfl) dX12_in_18
  exact main _ rfl
-- private boolean areKeepers(int);
abbrev rm_X12_areKeepers : Room := { frames := 1, cells := 0, slots := 0, locals := 25 }
theorem cl_X12_areKeepers : Cl yX12_areKeepers wsX12_areKeepers cX12_areKeepers 2 (some .boolean) rm_X12_areKeepers 1 := ⟨⟨_, rfl⟩, rfl, rfl, by decide +kernel, by decide +kernel, by decide +kernel⟩
theorem in_X12_areKeepers_8 : ∀ w ∈ wsX120, w ∈ wsX12_areKeepers := fun w h => List.mem_cons_of_mem _ (List.mem_append_right _ h)
def f_X12_areKeepers (σ : Sg) (l1 : Int32) : Option Int32 := (if inb 0 (kLen 113) = true then (some (f_X12_in (Int32.toInt64 l1) 0 (Int32.toInt64 ((1 <<< ((rI σ 113 (ix 0)) &&& 31)) - 1)))) else none)
set_option maxRecDepth 100000 in
set_option maxHeartbeats 4000000 in
theorem c_X12_areKeepers {g : Cx} {σ : Sg} (l1 : Int32) (r : Int32) (h : f_X12_areKeepers σ l1 = some r) : ∀ l, MetF l yX12_areKeepers wsX12_areKeepers rm_X12_areKeepers g [.ref (g.1 112), .int l1] σ (some (.int r)) σ := by
  refine MetF.of (own0 := RX12) (lv0 := [(0, .ref (g.1 112)), (1, .int l1)]) rfl cl_X12_areKeepers (by decide) (Nat.le_of_ble_eq_true rfl) rfl ?_
  unfold f_X12_areKeepers at h
  refine v_iload_n 1 1 dX12_areKeepers_0 rfl rfl rfl ?_
  refine v_i2l 2 dX12_areKeepers_1 rfl ?_
  refine v_lconst 3 0 dX12_areKeepers_2 kc_l_0 rfl ?_
  refine v_iconst 4 1 dX12_areKeepers_3 kc_i_1 rfl ?_
  refine v_aload_n 5 0 dX12_areKeepers_4 rfl rfl rfl ?_
  refine vg_8_0 8 (rfl : kK 112 = 8) in_X12_areKeepers_8 (mem_at 1 rfl) dX12_areKeepers_5 rfl ?_
  refine v_iconst 9 0 dX12_areKeepers_8 kc_i_0 rfl ?_
  refine v_iald 10 h (rfl : kK 113 = 9) dX12_areKeepers_9 rfl (fun h => ?_)
  refine v_ishl 11 dX12_areKeepers_10 rfl ?_
  refine v_iconst 12 1 dX12_areKeepers_11 kc_i_1 rfl ?_
  refine v_isub 13 dX12_areKeepers_12 rfl ?_
  refine v_i2l 14 dX12_areKeepers_13 rfl ?_
  refine v_cS 17 [.long (Int32.toInt64 l1), .long 0, .long (Int32.toInt64 ((1 <<< ((rI σ 113 (ix 0)) &&& 31)) - 1))] (c_X12_in (Int32.toInt64 l1) 0 (Int32.toInt64 ((1 <<< ((rI σ 113 (ix 0)) &&& 31)) - 1))) cl_X12_in gX12_areKeepers_X12_in ⟨Nat.le_of_ble_eq_true rfl, Nat.le_of_ble_eq_true rfl⟩ rfl rfl (Nat.le_of_ble_eq_true rfl) dX12_areKeepers_14 rfl ?_
  exact v_zretP h rfl zb_X12_in dX12_areKeepers_17
-- private boolean arePans(int, int);
abbrev rm_X12_arePans : Room := { frames := 2, cells := 0, slots := 0, locals := 46 }
theorem cl_X12_arePans : Cl yX12_arePans wsX12_arePans cX12_arePans 3 (some .boolean) rm_X12_arePans 2 := ⟨⟨_, rfl⟩, rfl, rfl, by decide +kernel, by decide +kernel, by decide +kernel⟩
def f_X12_arePans (σ : Sg) (l1 : Int32) (l2 : Int32) : Option Int32 := (f_X12_areKeepers σ l1).bind fun x1 => (if x1 = 0 then (some (0)) else (f_X12_areKeepers σ l2).bind fun x2 => (if x2 = 0 then (some (0)) else (if (l1 &&& l2) = 0 then (some (1)) else (some (0)))))
set_option maxRecDepth 100000 in
set_option maxHeartbeats 4000000 in
theorem c_X12_arePans {g : Cx} {σ : Sg} (l1 : Int32) (l2 : Int32) (r : Int32) (h : f_X12_arePans σ l1 l2 = some r) : ∀ l, MetF l yX12_arePans wsX12_arePans rm_X12_arePans g [.ref (g.1 112), .int l1, .int l2] σ (some (.int r)) σ := by
  refine MetF.of (own0 := RX12) (lv0 := [(0, .ref (g.1 112)), (1, .int l1), (2, .int l2)]) rfl cl_X12_arePans (by decide) (Nat.le_of_ble_eq_true rfl) rfl ?_
  unfold f_X12_arePans at h
  refine v_aload_n 1 0 dX12_arePans_0 rfl rfl rfl ?_
  refine v_iload_n 2 1 dX12_arePans_1 rfl rfl rfl ?_
  obtain ⟨x1, h0, h⟩ := ob h
  refine v_cV 5 8 [.int l1] (rfl : kK 112 = 8) rfl (c_X12_areKeepers l1 _ h0) cl_X12_areKeepers gX12_arePans_X12_areKeepers rfl ⟨Nat.le_of_ble_eq_true rfl, Nat.le_of_ble_eq_true rfl⟩ rfl rfl (Nat.le_of_ble_eq_true rfl) dX12_arePans_2 rfl ?_
  refine v_if_eq 8 26 h dX12_arePans_5 rfl (by decide) (fun h => ?_) (fun h => ?_)
  · refine v_iconst 27 0 dX12_arePans_26 kc_i_0 rfl ?_
    exact v_zretP h rfl (Or.inl rfl) dX12_arePans_27
  · refine v_aload_n 9 0 dX12_arePans_8 rfl rfl rfl ?_
    refine v_iload_n 10 2 dX12_arePans_9 rfl rfl rfl ?_
    obtain ⟨x2, h0, h⟩ := ob h
    refine v_cV 13 8 [.int l2] (rfl : kK 112 = 8) rfl (c_X12_areKeepers l2 _ h0) cl_X12_areKeepers gX12_arePans_X12_areKeepers rfl ⟨Nat.le_of_ble_eq_true rfl, Nat.le_of_ble_eq_true rfl⟩ rfl rfl (Nat.le_of_ble_eq_true rfl) dX12_arePans_10 rfl ?_
    refine v_if_eq 16 26 h dX12_arePans_13 rfl (by decide) (fun h => ?_) (fun h => ?_)
    · refine v_iconst 27 0 dX12_arePans_26 kc_i_0 rfl ?_
      exact v_zretP h rfl (Or.inl rfl) dX12_arePans_27
    · refine v_iload_n 17 1 dX12_arePans_16 rfl rfl rfl ?_
      refine v_iload_n 18 2 dX12_arePans_17 rfl rfl rfl ?_
      refine v_iand 19 dX12_arePans_18 rfl ?_
      refine v_if_ne 22 26 h dX12_arePans_19 rfl (by decide) (fun h => ?_) (fun h => ?_)
      · refine v_iconst 27 0 dX12_arePans_26 kc_i_0 rfl ?_
        exact v_zretP h rfl (Or.inl rfl) dX12_arePans_27
      · refine v_iconst 23 1 dX12_arePans_22 kc_i_1 rfl ?_
        refine v_goto 27 dX12_arePans_23 (by decide) ?_
        exact v_zretP h rfl (Or.inr rfl) dX12_arePans_27
-- private int bad(int);
abbrev rm_X12_bad : Room := { frames := 0, cells := 0, slots := 0, locals := 0 }
theorem cl_X12_bad : Cl yX12_bad wsX12_bad cX12_bad 2 (some .int) rm_X12_bad 1 := ⟨⟨_, rfl⟩, rfl, rfl, by decide +kernel, by decide +kernel, by decide +kernel⟩
theorem in_X12_bad_8 : ∀ w ∈ wsX120, w ∈ wsX12_bad := fun w h => List.mem_cons_of_mem _ (List.mem_append_right _ h)
def f_X12_bad (σ : Sg) (l1 : Int32) : Option (Int32 × Sg) := (if inb 0 (kLen 116) = true then (if inb 0 (kLen 116) = true then nam (stI σ 116 (ix 0) ((rI σ 116 (ix 0)) + 1)) (fun s1 => (some (l1, s1))) else none) else none)
set_option maxRecDepth 100000 in
set_option maxHeartbeats 4000000 in
theorem c_X12_bad {g : Cx} {σ : Sg} (l1 : Int32) (r : Int32) (τ : Sg) (h : f_X12_bad σ l1 = some (r, τ)) : ∀ l, MetF l yX12_bad wsX12_bad rm_X12_bad g [.ref (g.1 112), .int l1] σ (some (.int r)) τ := by
  refine MetF.of (own0 := RX12) (lv0 := [(0, .ref (g.1 112)), (1, .int l1)]) rfl cl_X12_bad (by decide) (Nat.le_of_ble_eq_true rfl) rfl ?_
  unfold f_X12_bad at h
  refine v_aload_n 1 0 dX12_bad_0 rfl rfl rfl ?_
  refine vg_8_6 4 (rfl : kK 112 = 8) in_X12_bad_8 (mem_at 1 rfl) dX12_bad_1 rfl ?_
  refine v_iconst 5 0 dX12_bad_4 kc_i_0 rfl ?_
  refine v_dup2 6 dX12_bad_5 rfl rfl rfl ?_
  refine v_iald 7 h (rfl : kK 116 = 9) dX12_bad_6 rfl (fun h => ?_)
  refine v_iconst 8 1 dX12_bad_7 kc_i_1 rfl ?_
  refine v_iadd 9 dX12_bad_8 rfl ?_
  refine v_iast 10 h (rfl : kK 116 = 9) dX12_bad_9 rfl (fun s1 h => ?_)
  refine v_iload_n 11 1 dX12_bad_10 rfl rfl rfl ?_
  exact v_iretS h rfl dX12_bad_11
-- private int full();
abbrev rm_X12_full : Room := { frames := 0, cells := 0, slots := 0, locals := 0 }
theorem cl_X12_full : Cl yX12_full wsX12_full cX12_full 1 (some .int) rm_X12_full 0 := ⟨⟨_, rfl⟩, rfl, rfl, by decide +kernel, by decide +kernel, by decide +kernel⟩
theorem in_X12_full_8 : ∀ w ∈ wsX120, w ∈ wsX12_full := fun w h => List.mem_cons_of_mem _ (List.mem_append_right _ h)
def f_X12_full (σ : Sg) : Option (Int32 × Sg) := (if inb 2 (kLen 116) = true then (if inb 2 (kLen 116) = true then nam (stI σ 116 (ix 2) ((rI σ 116 (ix 2)) + 1)) (fun s1 => (some ((-4), s1))) else none) else none)
set_option maxRecDepth 100000 in
set_option maxHeartbeats 4000000 in
theorem c_X12_full {g : Cx} {σ : Sg} (r : Int32) (τ : Sg) (h : f_X12_full σ = some (r, τ)) : ∀ l, MetF l yX12_full wsX12_full rm_X12_full g [.ref (g.1 112)] σ (some (.int r)) τ := by
  refine MetF.of (own0 := RX12) (lv0 := [(0, .ref (g.1 112))]) rfl cl_X12_full (by decide) (Nat.le_of_ble_eq_true rfl) rfl ?_
  unfold f_X12_full at h
  refine v_aload_n 1 0 dX12_full_0 rfl rfl rfl ?_
  refine vg_8_6 4 (rfl : kK 112 = 8) in_X12_full_8 (mem_at 1 rfl) dX12_full_1 rfl ?_
  refine v_iconst 5 2 dX12_full_4 kc_i_2 rfl ?_
  refine v_dup2 6 dX12_full_5 rfl rfl rfl ?_
  refine v_iald 7 h (rfl : kK 116 = 9) dX12_full_6 rfl (fun h => ?_)
  refine v_iconst 8 1 dX12_full_7 kc_i_1 rfl ?_
  refine v_iadd 9 dX12_full_8 rfl ?_
  refine v_iast 10 h (rfl : kK 116 = 9) dX12_full_9 rfl (fun s1 h => ?_)
  refine v_bipush 12 (-4) dX12_full_10 kc_b_m4 rfl ?_
  exact v_iretS h rfl dX12_full_12
-- public int balance(int);
abbrev rm_X12_balance : Room := { frames := 1, cells := 0, slots := 0, locals := 25 }
theorem cl_X12_balance : Cl yX12_balance wsX12_balance cX12_balance 2 (some .int) rm_X12_balance 1 := ⟨⟨_, rfl⟩, rfl, rfl, by decide +kernel, by decide +kernel, by decide +kernel⟩
theorem in_X12_balance_8 : ∀ w ∈ wsX120, w ∈ wsX12_balance := fun w h => List.mem_cons_of_mem _ (List.mem_append_right _ h)
def f_X12_balance (σ : Sg) (l1 : Int32) : Option (Int32 × Sg) := (if (f_X12_in (Int32.toInt64 l1) 0 5) = 0 then bnd (f_X12_bad σ (-2)) fun x6 s7 => (some (x6, s7)) else (if inb 1 (kLen 113) = true then (if (rI σ 113 (ix 1)) = 4 then bnd (f_X12_full σ) fun x4 s5 => (some (x4, s5)) else (if inb 1 (kLen 113) = true then (if inb (39 + (rI σ 113 (ix 1))) (kLen 113) = true then nam (stI σ 113 (ix (39 + (rI σ 113 (ix 1)))) l1) (fun s1 => (if inb 1 (kLen 113) = true then (if inb 1 (kLen 113) = true then nam (stI s1 113 (ix 1) ((rI s1 113 (ix 1)) + 1)) (fun s2 => (if inb 112 (kLen 113) = true then nam (stI s2 113 (ix 112) 0) (fun s3 => (if inb 1 (kLen 113) = true then (some ((rI s3 113 (ix 1)) - 1, s3)) else none)) else none)) else none) else none)) else none) else none)) else none))
set_option maxRecDepth 100000 in
set_option maxHeartbeats 4000000 in
theorem c_X12_balance {g : Cx} {σ : Sg} (l1 : Int32) (r : Int32) (τ : Sg) (h : f_X12_balance σ l1 = some (r, τ)) : ∀ l, MetF l yX12_balance wsX12_balance rm_X12_balance g [.ref (g.1 112), .int l1] σ (some (.int r)) τ := by
  refine MetF.of (own0 := RX12) (lv0 := [(0, .ref (g.1 112)), (1, .int l1)]) rfl cl_X12_balance (by decide) (Nat.le_of_ble_eq_true rfl) rfl ?_
  unfold f_X12_balance at h
  refine v_iload_n 1 1 dX12_balance_0 rfl rfl rfl ?_
  refine v_i2l 2 dX12_balance_1 rfl ?_
  refine v_lconst 3 0 dX12_balance_2 kc_l_0 rfl ?_
  refine v_ldc2 6 5 dX12_balance_3 (mem_at 1 rfl) rfl ?_
  refine v_cS 9 [.long (Int32.toInt64 l1), .long 0, .long 5] (c_X12_in (Int32.toInt64 l1) 0 5) cl_X12_in gX12_balance_X12_in ⟨Nat.le_of_ble_eq_true rfl, Nat.le_of_ble_eq_true rfl⟩ rfl rfl (Nat.le_of_ble_eq_true rfl) dX12_balance_6 rfl ?_
  refine v_if_ne 12 19 h dX12_balance_9 rfl (by decide) (fun h => ?_) (fun h => ?_)
  · refine v_aload_n 20 0 dX12_balance_19 rfl rfl rfl ?_
    refine vg_8_0 23 (rfl : kK 112 = 8) in_X12_balance_8 (mem_at 2 rfl) dX12_balance_20 rfl ?_
    refine v_iconst 24 1 dX12_balance_23 kc_i_1 rfl ?_
    refine v_iald 25 h (rfl : kK 113 = 9) dX12_balance_24 rfl (fun h => ?_)
    refine v_iconst 26 4 dX12_balance_25 kc_i_4 rfl ?_
    refine v_icmp_ne 29 34 h dX12_balance_26 rfl (by decide) (fun h => ?_) (fun h => ?_)
    · refine v_aload_n 35 0 dX12_balance_34 rfl rfl rfl ?_
      refine vg_8_0 38 (rfl : kK 112 = 8) in_X12_balance_8 (mem_at 2 rfl) dX12_balance_35 rfl ?_
      refine v_bipush 40 39 dX12_balance_38 kc_b_39 rfl ?_
      refine v_aload_n 41 0 dX12_balance_40 rfl rfl rfl ?_
      refine vg_8_0 44 (rfl : kK 112 = 8) in_X12_balance_8 (mem_at 2 rfl) dX12_balance_41 rfl ?_
      refine v_iconst 45 1 dX12_balance_44 kc_i_1 rfl ?_
      refine v_iald 46 h (rfl : kK 113 = 9) dX12_balance_45 rfl (fun h => ?_)
      refine v_iadd 47 dX12_balance_46 rfl ?_
      refine v_iload_n 48 1 dX12_balance_47 rfl rfl rfl ?_
      refine v_iast 49 h (rfl : kK 113 = 9) dX12_balance_48 rfl (fun s1 h => ?_)
      refine v_aload_n 50 0 dX12_balance_49 rfl rfl rfl ?_
      refine vg_8_0 53 (rfl : kK 112 = 8) in_X12_balance_8 (mem_at 2 rfl) dX12_balance_50 rfl ?_
      refine v_iconst 54 1 dX12_balance_53 kc_i_1 rfl ?_
      refine v_dup2 55 dX12_balance_54 rfl rfl rfl ?_
      refine v_iald 56 h (rfl : kK 113 = 9) dX12_balance_55 rfl (fun h => ?_)
      refine v_iconst 57 1 dX12_balance_56 kc_i_1 rfl ?_
      refine v_iadd 58 dX12_balance_57 rfl ?_
      refine v_iast 59 h (rfl : kK 113 = 9) dX12_balance_58 rfl (fun s2 h => ?_)
      refine v_aload_n 60 0 dX12_balance_59 rfl rfl rfl ?_
      refine vg_8_0 63 (rfl : kK 112 = 8) in_X12_balance_8 (mem_at 2 rfl) dX12_balance_60 rfl ?_
      refine v_bipush 65 112 dX12_balance_63 kc_b_112 rfl ?_
      refine v_iconst 66 0 dX12_balance_65 kc_i_0 rfl ?_
      refine v_iast 67 h (rfl : kK 113 = 9) dX12_balance_66 rfl (fun s3 h => ?_)
      refine v_aload_n 68 0 dX12_balance_67 rfl rfl rfl ?_
      refine vg_8_0 71 (rfl : kK 112 = 8) in_X12_balance_8 (mem_at 2 rfl) dX12_balance_68 rfl ?_
      refine v_iconst 72 1 dX12_balance_71 kc_i_1 rfl ?_
      refine v_iald 73 h (rfl : kK 113 = 9) dX12_balance_72 rfl (fun h => ?_)
      refine v_iconst 74 1 dX12_balance_73 kc_i_1 rfl ?_
      refine v_isub 75 dX12_balance_74 rfl ?_
      exact v_iretS h rfl dX12_balance_75
    · refine v_aload_n 30 0 dX12_balance_29 rfl rfl rfl ?_
      obtain ⟨x4, s5, h0, h⟩ := ob2 h
      refine v_cV 33 8 [] (rfl : kK 112 = 8) rfl (c_X12_full _ _ h0) cl_X12_full gX12_balance_X12_full rfl ⟨Nat.le_of_ble_eq_true rfl, Nat.le_of_ble_eq_true rfl⟩ rfl rfl (Nat.le_of_ble_eq_true rfl) dX12_balance_30 rfl ?_
      exact v_iretS h rfl dX12_balance_33
  · refine v_aload_n 13 0 dX12_balance_12 rfl rfl rfl ?_
    refine v_bipush 15 (-2) dX12_balance_13 kc_b_m2 rfl ?_
    obtain ⟨x6, s7, h0, h⟩ := ob2 h
    refine v_cV 18 8 [.int (-2)] (rfl : kK 112 = 8) rfl (c_X12_bad (-2) _ _ h0) cl_X12_bad gX12_balance_X12_bad rfl ⟨Nat.le_of_ble_eq_true rfl, Nat.le_of_ble_eq_true rfl⟩ rfl rfl (Nat.le_of_ble_eq_true rfl) dX12_balance_15 rfl ?_
    exact v_iretS h rfl dX12_balance_18
-- private static int trueTip(int, int);
abbrev rm_X12_trueTip : Room := { frames := 0, cells := 0, slots := 0, locals := 0 }
theorem cl_X12_trueTip : Cl yX12_trueTip wsX12_trueTip cX12_trueTip 2 (some .int) rm_X12_trueTip 2 := ⟨⟨_, rfl⟩, rfl, rfl, by decide +kernel, by decide +kernel, by decide +kernel⟩
def f_X12_trueTip (l0 : Int32) (l1 : Int32) : Int32 := (if l0 ≤ l1 then (if l1 ≤ l0 then 0 else (-1)) else 1)
set_option maxRecDepth 100000 in
set_option maxHeartbeats 4000000 in
theorem c_X12_trueTip {g : Cx} {σ : Sg} (l0 : Int32) (l1 : Int32) : ∀ l, MetF l yX12_trueTip wsX12_trueTip rm_X12_trueTip g [.int l0, .int l1] σ (some (.int (f_X12_trueTip l0 l1))) σ := by
  have main : ∀ r : Int32, f_X12_trueTip l0 l1 = r → ∀ l, MetF l yX12_trueTip wsX12_trueTip rm_X12_trueTip g [.int l0, .int l1] σ (some (.int r)) σ := by
    intro r h
    refine MetF.of (own0 := RX12) (lv0 := [(0, .int l0), (1, .int l1)]) rfl cl_X12_trueTip (by decide) (Nat.le_of_ble_eq_true rfl) rfl ?_
    unfold f_X12_trueTip at h
    refine v_iload_n 1 0 dX12_trueTip_0 rfl rfl rfl ?_
    refine v_iload_n 2 1 dX12_trueTip_1 rfl rfl rfl ?_
    refine v_icmp_le 5 9 h dX12_trueTip_2 rfl (by decide) (fun h => ?_) (fun h => ?_)
    · refine v_iload_n 10 0 dX12_trueTip_9 rfl rfl rfl ?_
      refine v_iload_n 11 1 dX12_trueTip_10 rfl rfl rfl ?_
      refine v_icmp_ge 14 18 h dX12_trueTip_11 rfl (by decide) (fun h => ?_) (fun h => ?_)
      · refine v_iconst 19 0 dX12_trueTip_18 kc_i_0 rfl ?_
        exact v_iretT h rfl dX12_trueTip_19
      · refine v_iconst 15 (-1) dX12_trueTip_14 kc_i_m1 rfl ?_
        refine v_goto 19 dX12_trueTip_15 (by decide) ?_
        exact v_iretT h rfl dX12_trueTip_19
    · refine v_iconst 6 1 dX12_trueTip_5 kc_i_1 rfl ?_
      refine v_goto 19 dX12_trueTip_6 (by decide) ?_
      exact v_iretT h rfl dX12_trueTip_19
  exact main _ rfl
-- private static int stiffTip(int, int);
abbrev rm_X12_stiffTip : Room := { frames := 1, cells := 0, slots := 0, locals := 25 }
theorem cl_X12_stiffTip : Cl yX12_stiffTip wsX12_stiffTip cX12_stiffTip 2 (some .int) rm_X12_stiffTip 2 := ⟨⟨_, rfl⟩, rfl, rfl, by decide +kernel, by decide +kernel, by decide +kernel⟩
def f_X12_stiffTip (l0 : Int32) (l1 : Int32) : Int32 := (if (f_X12_in (Int32.toInt64 (l0 - l1)) (-2) 2) = 0 then f_X12_trueTip l0 l1 else 0)
set_option maxRecDepth 100000 in
set_option maxHeartbeats 4000000 in
theorem c_X12_stiffTip {g : Cx} {σ : Sg} (l0 : Int32) (l1 : Int32) : ∀ l, MetF l yX12_stiffTip wsX12_stiffTip rm_X12_stiffTip g [.int l0, .int l1] σ (some (.int (f_X12_stiffTip l0 l1))) σ := by
  have main : ∀ r : Int32, f_X12_stiffTip l0 l1 = r → ∀ l, MetF l yX12_stiffTip wsX12_stiffTip rm_X12_stiffTip g [.int l0, .int l1] σ (some (.int r)) σ := by
    intro r h
    refine MetF.of (own0 := RX12) (lv0 := [(0, .int l0), (1, .int l1)]) rfl cl_X12_stiffTip (by decide) (Nat.le_of_ble_eq_true rfl) rfl ?_
    unfold f_X12_stiffTip at h
    refine v_iload_n 1 0 dX12_stiffTip_0 rfl rfl rfl ?_
    refine v_iload_n 2 1 dX12_stiffTip_1 rfl rfl rfl ?_
    refine v_isub 3 dX12_stiffTip_2 rfl ?_
    refine v_i2l 4 dX12_stiffTip_3 rfl ?_
    refine v_ldc2 7 (-2) dX12_stiffTip_4 (mem_at 1 rfl) rfl ?_
    refine v_ldc2 10 2 dX12_stiffTip_7 (mem_at 2 rfl) rfl ?_
    refine v_cS 13 [.long (Int32.toInt64 (l0 - l1)), .long (-2), .long 2] (c_X12_in (Int32.toInt64 (l0 - l1)) (-2) 2) cl_X12_in gX12_stiffTip_X12_in ⟨Nat.le_of_ble_eq_true rfl, Nat.le_of_ble_eq_true rfl⟩ rfl rfl (Nat.le_of_ble_eq_true rfl) dX12_stiffTip_10 rfl ?_
    refine v_if_eq 16 20 h dX12_stiffTip_13 rfl (by decide) (fun h => ?_) (fun h => ?_)
    · refine v_iload_n 21 0 dX12_stiffTip_20 rfl rfl rfl ?_
      refine v_iload_n 22 1 dX12_stiffTip_21 rfl rfl rfl ?_
      refine v_cS 25 [.int l0, .int l1] (c_X12_trueTip l0 l1) cl_X12_trueTip gX12_stiffTip_X12_trueTip ⟨Nat.le_of_ble_eq_true rfl, Nat.le_of_ble_eq_true rfl⟩ rfl rfl (Nat.le_of_ble_eq_true rfl) dX12_stiffTip_22 rfl ?_
      exact v_iretT h rfl dX12_stiffTip_25
    · refine v_iconst 17 0 dX12_stiffTip_16 kc_i_0 rfl ?_
      refine v_goto 25 dX12_stiffTip_17 (by decide) ?_
      exact v_iretT h rfl dX12_stiffTip_25
  exact main _ rfl
-- private static int tipOf(int, int, int);
abbrev rm_X12_tipOf : Room := { frames := 2, cells := 0, slots := 0, locals := 46 }
theorem cl_X12_tipOf : Cl yX12_tipOf wsX12_tipOf cX12_tipOf 3 (some .int) rm_X12_tipOf 3 := ⟨⟨_, rfl⟩, rfl, rfl, by decide +kernel, by decide +kernel, by decide +kernel⟩
def f_X12_tipOf (l0 : Int32) (l1 : Int32) (l2 : Int32) : Int32 := (if l0 = 1 then f_X12_stiffTip l1 l2 else (if l0 = 2 then f_X12_trueTip (l1 + 2) l2 else (if l0 = 3 then (if ((l1 + l2) - (l1 + l2) / 2 * 2) = 1 then -(f_X12_trueTip l1 l2) else f_X12_trueTip l1 l2) else (if l0 = 4 then (if l2 = 0 then 0 else f_X12_stiffTip l1 l2) else (if l0 = 5 then -(f_X12_trueTip (l1 + 2) l2) else f_X12_trueTip l1 l2)))))
set_option maxRecDepth 100000 in
set_option maxHeartbeats 4000000 in
theorem c_X12_tipOf {g : Cx} {σ : Sg} (l0 : Int32) (l1 : Int32) (l2 : Int32) : ∀ l, MetF l yX12_tipOf wsX12_tipOf rm_X12_tipOf g [.int l0, .int l1, .int l2] σ (some (.int (f_X12_tipOf l0 l1 l2))) σ := by
  have main : ∀ r : Int32, f_X12_tipOf l0 l1 l2 = r → ∀ l, MetF l yX12_tipOf wsX12_tipOf rm_X12_tipOf g [.int l0, .int l1, .int l2] σ (some (.int r)) σ := by
    intro r h
    refine MetF.of (own0 := RX12) (lv0 := [(0, .int l0), (1, .int l1), (2, .int l2)]) rfl cl_X12_tipOf (by decide) (Nat.le_of_ble_eq_true rfl) rfl ?_
    unfold f_X12_tipOf at h
    refine v_iload_n 1 0 dX12_tipOf_0 rfl rfl rfl ?_
    refine v_ite h (fun q h => ?_) (fun q1 h => ?_)
    · refine v_tabInZ 36 1 dX12_tipOf_1 (ti_of q kc_ti_1) (by decide) (by decide) rfl (by decide) ?_
      refine v_iload_n 37 1 dX12_tipOf_36 rfl rfl rfl ?_
      refine v_iload_n 38 2 dX12_tipOf_37 rfl rfl rfl ?_
      refine v_cS 41 [.int l1, .int l2] (c_X12_stiffTip l1 l2) cl_X12_stiffTip gX12_tipOf_X12_stiffTip ⟨Nat.le_of_ble_eq_true rfl, Nat.le_of_ble_eq_true rfl⟩ rfl rfl (Nat.le_of_ble_eq_true rfl) dX12_tipOf_38 rfl ?_
      exact v_iretT h rfl dX12_tipOf_41
    refine v_ite h (fun q h => ?_) (fun q2 h => ?_)
    · refine v_tabInZ 42 2 dX12_tipOf_1 (ti_of q kc_ti_2) (by decide) (by decide) rfl (by decide) ?_
      refine v_iload_n 43 1 dX12_tipOf_42 rfl rfl rfl ?_
      refine v_iconst 44 2 dX12_tipOf_43 kc_i_2 rfl ?_
      refine v_iadd 45 dX12_tipOf_44 rfl ?_
      refine v_iload_n 46 2 dX12_tipOf_45 rfl rfl rfl ?_
      refine v_cS 49 [.int (l1 + 2), .int l2] (c_X12_trueTip (l1 + 2) l2) cl_X12_trueTip gX12_tipOf_X12_trueTip ⟨Nat.le_of_ble_eq_true rfl, Nat.le_of_ble_eq_true rfl⟩ rfl rfl (Nat.le_of_ble_eq_true rfl) dX12_tipOf_46 rfl ?_
      exact v_iretT h rfl dX12_tipOf_49
    refine v_ite h (fun q h => ?_) (fun q3 h => ?_)
    · refine v_tabInZ 50 3 dX12_tipOf_1 (ti_of q kc_ti_3) (by decide) (by decide) rfl (by decide) ?_
      refine v_iload_n 51 1 dX12_tipOf_50 rfl rfl rfl ?_
      refine v_iload_n 52 2 dX12_tipOf_51 rfl rfl rfl ?_
      refine v_iadd 53 dX12_tipOf_52 rfl ?_
      refine v_iconst 54 2 dX12_tipOf_53 kc_i_2 rfl ?_
      refine v_irem 55 kc_ne_2 dX12_tipOf_54 rfl ?_
      refine v_iconst 56 1 dX12_tipOf_55 kc_i_1 rfl ?_
      refine v_icmp_ne 59 68 h dX12_tipOf_56 rfl (by decide) (fun h => ?_) (fun h => ?_)
      · refine v_iload_n 69 1 dX12_tipOf_68 rfl rfl rfl ?_
        refine v_iload_n 70 2 dX12_tipOf_69 rfl rfl rfl ?_
        refine v_cS 73 [.int l1, .int l2] (c_X12_trueTip l1 l2) cl_X12_trueTip gX12_tipOf_X12_trueTip ⟨Nat.le_of_ble_eq_true rfl, Nat.le_of_ble_eq_true rfl⟩ rfl rfl (Nat.le_of_ble_eq_true rfl) dX12_tipOf_70 rfl ?_
        exact v_iretT h rfl dX12_tipOf_73
      · refine v_iload_n 60 1 dX12_tipOf_59 rfl rfl rfl ?_
        refine v_iload_n 61 2 dX12_tipOf_60 rfl rfl rfl ?_
        refine v_cS 64 [.int l1, .int l2] (c_X12_trueTip l1 l2) cl_X12_trueTip gX12_tipOf_X12_trueTip ⟨Nat.le_of_ble_eq_true rfl, Nat.le_of_ble_eq_true rfl⟩ rfl rfl (Nat.le_of_ble_eq_true rfl) dX12_tipOf_61 rfl ?_
        refine v_ineg 65 dX12_tipOf_64 rfl ?_
        refine v_goto 73 dX12_tipOf_65 (by decide) ?_
        exact v_iretT h rfl dX12_tipOf_73
    refine v_ite h (fun q h => ?_) (fun q4 h => ?_)
    · refine v_tabInZ 74 4 dX12_tipOf_1 (ti_of q kc_ti_4) (by decide) (by decide) rfl (by decide) ?_
      refine v_iload_n 75 2 dX12_tipOf_74 rfl rfl rfl ?_
      refine v_if_ne 78 82 h dX12_tipOf_75 rfl (by decide) (fun h => ?_) (fun h => ?_)
      · refine v_iload_n 83 1 dX12_tipOf_82 rfl rfl rfl ?_
        refine v_iload_n 84 2 dX12_tipOf_83 rfl rfl rfl ?_
        refine v_cS 87 [.int l1, .int l2] (c_X12_stiffTip l1 l2) cl_X12_stiffTip gX12_tipOf_X12_stiffTip ⟨Nat.le_of_ble_eq_true rfl, Nat.le_of_ble_eq_true rfl⟩ rfl rfl (Nat.le_of_ble_eq_true rfl) dX12_tipOf_84 rfl ?_
        exact v_iretT h rfl dX12_tipOf_87
      · refine v_iconst 79 0 dX12_tipOf_78 kc_i_0 rfl ?_
        refine v_goto 87 dX12_tipOf_79 (by decide) ?_
        exact v_iretT h rfl dX12_tipOf_87
    refine v_ite h (fun q h => ?_) (fun q5 h => ?_)
    · refine v_tabInZ 88 5 dX12_tipOf_1 (ti_of q kc_ti_5) (by decide) (by decide) rfl (by decide) ?_
      refine v_iload_n 89 1 dX12_tipOf_88 rfl rfl rfl ?_
      refine v_iconst 90 2 dX12_tipOf_89 kc_i_2 rfl ?_
      refine v_iadd 91 dX12_tipOf_90 rfl ?_
      refine v_iload_n 92 2 dX12_tipOf_91 rfl rfl rfl ?_
      refine v_cS 95 [.int (l1 + 2), .int l2] (c_X12_trueTip (l1 + 2) l2) cl_X12_trueTip gX12_tipOf_X12_trueTip ⟨Nat.le_of_ble_eq_true rfl, Nat.le_of_ble_eq_true rfl⟩ rfl rfl (Nat.le_of_ble_eq_true rfl) dX12_tipOf_92 rfl ?_
      refine v_ineg 96 dX12_tipOf_95 rfl ?_
      exact v_iretT h rfl dX12_tipOf_96
    have a1 := ne_lit q1 kc_ti_1
    have a2 := ne_lit q2 kc_ti_2
    have a3 := ne_lit q3 kc_ti_3
    have a4 := ne_lit q4 kc_ti_4
    have a5 := ne_lit q5 kc_ti_5
    refine v_tabOut 97 dX12_tipOf_1 (by omega) (by decide) ?_
    refine v_iload_n 98 1 dX12_tipOf_97 rfl rfl rfl ?_
    refine v_iload_n 99 2 dX12_tipOf_98 rfl rfl rfl ?_
    refine v_cS 102 [.int l1, .int l2] (c_X12_trueTip l1 l2) cl_X12_trueTip gX12_tipOf_X12_trueTip ⟨Nat.le_of_ble_eq_true rfl, Nat.le_of_ble_eq_true rfl⟩ rfl rfl (Nat.le_of_ble_eq_true rfl) dX12_tipOf_99 rfl ?_
    exact v_iretT h rfl dX12_tipOf_102
  exact main _ rfl
-- private int balancesOf(int);
abbrev rm_X12_balancesOf : Room := { frames := 3, cells := 0, slots := 0, locals := 68 }
theorem cl_X12_balancesOf : Cl yX12_balancesOf wsX12_balancesOf cX12_balancesOf 7 (some .int) rm_X12_balancesOf 1 := ⟨⟨_, rfl⟩, rfl, rfl, by decide +kernel, by decide +kernel, by decide +kernel⟩
theorem in_X12_balancesOf_8 : ∀ w ∈ wsX120, w ∈ wsX12_balancesOf := fun w h => List.mem_cons_of_mem _ (List.mem_append_right _ h)
def b_X12_balancesOf_113 (σ : Sg) (l1 : Int32) (c4 : Int32 → Int32 → Option Int32) (l3 : Int32) (t0 : Int32) (t1 : Int32) : Option Int32 := nam (t1 ||| t0) fun x1 => nam (l3 + 1) fun x2 => c4 x1 x2
def b_X12_balancesOf_92 (σ : Sg) (l1 : Int32) (c4 : Int32 → Int32 → Option Int32) (c16 : Int32 → Int32 → Int32 → Int32 → Option Int32) (l2 : Int32) (l3 : Int32) (l5 : Int32) (t0 : Int32) : Option Int32 := nam (l5 + 1) fun x4 => c16 l2 l3 t0 x4
def b_X12_balancesOf_91 (σ : Sg) (l1 : Int32) (c4 : Int32 → Int32 → Option Int32) (c16 : Int32 → Int32 → Int32 → Int32 → Option Int32) (l2 : Int32) (l3 : Int32) (l5 : Int32) : Option Int32 := b_X12_balancesOf_92 σ l1 c4 c16 l2 l3 l5 0
def b_X12_balancesOf_87 (σ : Sg) (l1 : Int32) (c4 : Int32 → Int32 → Option Int32) (c16 : Int32 → Int32 → Int32 → Int32 → Option Int32) (l2 : Int32) (l3 : Int32) (l5 : Int32) : Option Int32 := b_X12_balancesOf_92 σ l1 c4 c16 l2 l3 l5 1
def b_X12_balancesOf_16 (σ : Sg) (l1 : Int32) (c4 : Int32 → Int32 → Option Int32) : Nat → Int32 → Int32 → Int32 → Int32 → Option Int32
  | 0, _, _, _, _ => none
  | f + 1, l2, l3, l4, l5 => (if inb 87 (kLen 113) = true then (if (rI σ 113 (ix 87)) ≤ l5 then (if l4 = 0 then b_X12_balancesOf_113 σ l1 c4 l3 0 l2 else b_X12_balancesOf_113 σ l1 c4 l3 (1 <<< (l3 &&& 31)) l2) else nam (88 + (4 * l5)) fun x3 => (if l4 = 0 then b_X12_balancesOf_91 σ l1 c4 (b_X12_balancesOf_16 σ l1 c4 f) l2 l3 l5 else (if inb x3 (kLen 113) = true then (if (rI σ 113 (ix x3)) = l1 then (if inb (x3 + 1) (kLen 113) = true then (if inb (x3 + 2) (kLen 113) = true then (if inb (x3 + 3) (kLen 113) = true then (if (f_X12_tipOf l3 (rI σ 113 (ix (x3 + 1))) (rI σ 113 (ix (x3 + 2)))) = (rI σ 113 (ix (x3 + 3))) then b_X12_balancesOf_87 σ l1 c4 (b_X12_balancesOf_16 σ l1 c4 f) l2 l3 l5 else b_X12_balancesOf_91 σ l1 c4 (b_X12_balancesOf_16 σ l1 c4 f) l2 l3 l5) else none) else none) else none) else b_X12_balancesOf_87 σ l1 c4 (b_X12_balancesOf_16 σ l1 c4 f) l2 l3 l5) else none))) else none)
def b_X12_balancesOf_4 (σ : Sg) (l1 : Int32) : Nat → Int32 → Int32 → Option Int32
  | 0, _, _ => none
  | f + 1, l2, l3 => (if 6 ≤ l3 then (some (l2)) else b_X12_balancesOf_16 σ l1 (b_X12_balancesOf_4 σ l1 f) FU l2 l3 1 0)
def f_X12_balancesOf (σ : Sg) (l1 : Int32) : Option Int32 := b_X12_balancesOf_4 σ l1 FU 0 0
set_option maxRecDepth 100000 in
set_option maxHeartbeats 4000000 in
theorem q_X12_balancesOf_113 {g : Cx} (σ : Sg) (l1 : Int32) (r : Int32) (c4 : Int32 → Int32 → Option Int32) (hc4 : ∀ l2 : Int32, ∀ l3 : Int32, c4 l2 l3 = some r → V g cX12_balancesOf RX12 wsX12_balancesOf 7 (some .int) rm_X12_balancesOf (some (.int r)) σ σ 4 [(0, .ref (g.1 112)), (1, .int l1), (2, .int l2), (3, .int l3)] []) : ∀ l3 : Int32, ∀ t0 : Int32, ∀ t1 : Int32, b_X12_balancesOf_113 σ l1 c4 l3 t0 t1 = some r → V g cX12_balancesOf RX12 wsX12_balancesOf 7 (some .int) rm_X12_balancesOf (some (.int r)) σ σ 113 [(0, .ref (g.1 112)), (1, .int l1), (3, .int l3)] [.int t0, .int t1] := by
  intro l3 t0 t1 h
  unfold b_X12_balancesOf_113 at h
  refine v_ior 114 dX12_balancesOf_113 rfl ?_
  refine v_istoreN_n 115 h dX12_balancesOf_114 rfl (by decide) rfl (fun _ => rfl) (fun x1 h => ?_)
  refine v_iincN 118 3 h dX12_balancesOf_115 rfl kc_i_1 (by decide) rfl (fun _ => rfl) (fun x2 h => ?_)
  refine v_goto 4 dX12_balancesOf_118 (by decide) ?_
  refine v_sub [2, 3, 1, 0] rfl ?_
  exact hc4 x1 x2 h
set_option maxRecDepth 100000 in
set_option maxHeartbeats 4000000 in
theorem q_X12_balancesOf_92 {g : Cx} (σ : Sg) (l1 : Int32) (r : Int32) (c4 : Int32 → Int32 → Option Int32) (c16 : Int32 → Int32 → Int32 → Int32 → Option Int32) (hc4 : ∀ l2 : Int32, ∀ l3 : Int32, c4 l2 l3 = some r → V g cX12_balancesOf RX12 wsX12_balancesOf 7 (some .int) rm_X12_balancesOf (some (.int r)) σ σ 4 [(0, .ref (g.1 112)), (1, .int l1), (2, .int l2), (3, .int l3)] []) (hc16 : ∀ l2 : Int32, ∀ l3 : Int32, ∀ l4 : Int32, ∀ l5 : Int32, (l4 = 0 ∨ l4 = 1) → c16 l2 l3 l4 l5 = some r → V g cX12_balancesOf RX12 wsX12_balancesOf 7 (some .int) rm_X12_balancesOf (some (.int r)) σ σ 16 [(0, .ref (g.1 112)), (1, .int l1), (2, .int l2), (3, .int l3), (4, .int l4), (5, .int l5)] []) : ∀ l2 : Int32, ∀ l3 : Int32, ∀ l5 : Int32, ∀ t0 : Int32, (t0 = 0 ∨ t0 = 1) → b_X12_balancesOf_92 σ l1 c4 c16 l2 l3 l5 t0 = some r → V g cX12_balancesOf RX12 wsX12_balancesOf 7 (some .int) rm_X12_balancesOf (some (.int r)) σ σ 92 [(0, .ref (g.1 112)), (1, .int l1), (2, .int l2), (3, .int l3), (5, .int l5)] [.int t0] := by
  intro l2 l3 l5 t0 hz0 h
  unfold b_X12_balancesOf_92 at h
  refine v_istore 94 dX12_balancesOf_92 (by decide) rfl rfl ?_
  refine v_iincN 97 5 h dX12_balancesOf_94 rfl kc_i_1 (by decide) rfl (fun _ => rfl) (fun x4 h => ?_)
  refine v_goto 16 dX12_balancesOf_97 (by decide) ?_
  refine v_sub [2, 3, 4, 5, 1, 0] rfl ?_
  exact hc16 l2 l3 t0 x4 hz0 h
set_option maxRecDepth 100000 in
set_option maxHeartbeats 4000000 in
theorem q_X12_balancesOf_91 {g : Cx} (σ : Sg) (l1 : Int32) (r : Int32) (c4 : Int32 → Int32 → Option Int32) (c16 : Int32 → Int32 → Int32 → Int32 → Option Int32) (hc4 : ∀ l2 : Int32, ∀ l3 : Int32, c4 l2 l3 = some r → V g cX12_balancesOf RX12 wsX12_balancesOf 7 (some .int) rm_X12_balancesOf (some (.int r)) σ σ 4 [(0, .ref (g.1 112)), (1, .int l1), (2, .int l2), (3, .int l3)] []) (hc16 : ∀ l2 : Int32, ∀ l3 : Int32, ∀ l4 : Int32, ∀ l5 : Int32, (l4 = 0 ∨ l4 = 1) → c16 l2 l3 l4 l5 = some r → V g cX12_balancesOf RX12 wsX12_balancesOf 7 (some .int) rm_X12_balancesOf (some (.int r)) σ σ 16 [(0, .ref (g.1 112)), (1, .int l1), (2, .int l2), (3, .int l3), (4, .int l4), (5, .int l5)] []) : ∀ l2 : Int32, ∀ l3 : Int32, ∀ l5 : Int32, b_X12_balancesOf_91 σ l1 c4 c16 l2 l3 l5 = some r → V g cX12_balancesOf RX12 wsX12_balancesOf 7 (some .int) rm_X12_balancesOf (some (.int r)) σ σ 91 [(0, .ref (g.1 112)), (1, .int l1), (2, .int l2), (3, .int l3), (5, .int l5)] [] := by
  intro l2 l3 l5 h
  unfold b_X12_balancesOf_91 at h
  refine v_iconst 92 0 dX12_balancesOf_91 kc_i_0 rfl ?_
  refine v_sub [0, 1, 2, 3, 4] rfl ?_
  exact q_X12_balancesOf_92 σ l1 r c4 c16 hc4 hc16 l2 l3 l5 0 (Or.inl rfl) h
set_option maxRecDepth 100000 in
set_option maxHeartbeats 4000000 in
theorem q_X12_balancesOf_87 {g : Cx} (σ : Sg) (l1 : Int32) (r : Int32) (c4 : Int32 → Int32 → Option Int32) (c16 : Int32 → Int32 → Int32 → Int32 → Option Int32) (hc4 : ∀ l2 : Int32, ∀ l3 : Int32, c4 l2 l3 = some r → V g cX12_balancesOf RX12 wsX12_balancesOf 7 (some .int) rm_X12_balancesOf (some (.int r)) σ σ 4 [(0, .ref (g.1 112)), (1, .int l1), (2, .int l2), (3, .int l3)] []) (hc16 : ∀ l2 : Int32, ∀ l3 : Int32, ∀ l4 : Int32, ∀ l5 : Int32, (l4 = 0 ∨ l4 = 1) → c16 l2 l3 l4 l5 = some r → V g cX12_balancesOf RX12 wsX12_balancesOf 7 (some .int) rm_X12_balancesOf (some (.int r)) σ σ 16 [(0, .ref (g.1 112)), (1, .int l1), (2, .int l2), (3, .int l3), (4, .int l4), (5, .int l5)] []) : ∀ l2 : Int32, ∀ l3 : Int32, ∀ l5 : Int32, b_X12_balancesOf_87 σ l1 c4 c16 l2 l3 l5 = some r → V g cX12_balancesOf RX12 wsX12_balancesOf 7 (some .int) rm_X12_balancesOf (some (.int r)) σ σ 87 [(0, .ref (g.1 112)), (1, .int l1), (2, .int l2), (3, .int l3), (5, .int l5)] [] := by
  intro l2 l3 l5 h
  unfold b_X12_balancesOf_87 at h
  refine v_iconst 88 1 dX12_balancesOf_87 kc_i_1 rfl ?_
  refine v_goto 92 dX12_balancesOf_88 (by decide) ?_
  refine v_sub [0, 1, 2, 3, 4] rfl ?_
  exact q_X12_balancesOf_92 σ l1 r c4 c16 hc4 hc16 l2 l3 l5 1 (Or.inr rfl) h
set_option maxRecDepth 100000 in
set_option maxHeartbeats 4000000 in
theorem q_X12_balancesOf_16 {g : Cx} (σ : Sg) (l1 : Int32) (r : Int32) (c4 : Int32 → Int32 → Option Int32) (hc4 : ∀ l2 : Int32, ∀ l3 : Int32, c4 l2 l3 = some r → V g cX12_balancesOf RX12 wsX12_balancesOf 7 (some .int) rm_X12_balancesOf (some (.int r)) σ σ 4 [(0, .ref (g.1 112)), (1, .int l1), (2, .int l2), (3, .int l3)] []) : ∀ f : Nat, ∀ l2 : Int32, ∀ l3 : Int32, ∀ l4 : Int32, ∀ l5 : Int32, (l4 = 0 ∨ l4 = 1) → b_X12_balancesOf_16 σ l1 c4 f l2 l3 l4 l5 = some r → V g cX12_balancesOf RX12 wsX12_balancesOf 7 (some .int) rm_X12_balancesOf (some (.int r)) σ σ 16 [(0, .ref (g.1 112)), (1, .int l1), (2, .int l2), (3, .int l3), (4, .int l4), (5, .int l5)] [] := by
  intro f
  induction f with
  | zero =>
    intro l2 l3 l4 l5 hl4 h
    cases h
  | succ f ih =>
    intro l2 l3 l4 l5 hl4 h
    rw [b_X12_balancesOf_16] at h
    refine v_iload 18 5 dX12_balancesOf_16 rfl rfl ?_
    refine v_aload_n 19 0 dX12_balancesOf_18 rfl rfl rfl ?_
    refine vg_8_0 22 (rfl : kK 112 = 8) in_X12_balancesOf_8 (mem_at 1 rfl) dX12_balancesOf_19 rfl ?_
    refine v_bipush 24 87 dX12_balancesOf_22 kc_b_87 rfl ?_
    refine v_iald 25 h (rfl : kK 113 = 9) dX12_balancesOf_24 rfl (fun h => ?_)
    refine v_icmp_ge 28 100 h dX12_balancesOf_25 rfl (by decide) (fun h => ?_) (fun h => ?_)
    · refine v_iload_n 101 2 dX12_balancesOf_100 rfl rfl rfl ?_
      refine v_iload 103 4 dX12_balancesOf_101 rfl rfl ?_
      refine v_if_eq 106 112 h dX12_balancesOf_103 rfl (by decide) (fun h => ?_) (fun h => ?_)
      · refine v_iconst 113 0 dX12_balancesOf_112 kc_i_0 rfl ?_
        refine v_sub [0, 1, 3] rfl ?_
        exact q_X12_balancesOf_113 σ l1 r c4 hc4 l3 0 l2 h
      · refine v_iconst 107 1 dX12_balancesOf_106 kc_i_1 rfl ?_
        refine v_iload_n 108 3 dX12_balancesOf_107 rfl rfl rfl ?_
        refine v_ishl 109 dX12_balancesOf_108 rfl ?_
        refine v_goto 113 dX12_balancesOf_109 (by decide) ?_
        refine v_sub [0, 1, 3] rfl ?_
        exact q_X12_balancesOf_113 σ l1 r c4 hc4 l3 (1 <<< (l3 &&& 31)) l2 h
    · refine v_bipush 30 88 dX12_balancesOf_28 kc_b_88 rfl ?_
      refine v_iconst 31 4 dX12_balancesOf_30 kc_i_4 rfl ?_
      refine v_iload 33 5 dX12_balancesOf_31 rfl rfl ?_
      refine v_imul 34 dX12_balancesOf_33 rfl ?_
      refine v_iadd 35 dX12_balancesOf_34 rfl ?_
      refine v_istoreN 37 h dX12_balancesOf_35 (by decide) rfl (fun _ => rfl) (fun x3 h => ?_)
      refine v_iload 39 5 dX12_balancesOf_37 rfl rfl ?_
      refine v_if_eq 42 91 h dX12_balancesOf_39 rfl (by decide) (fun h => ?_) (fun h => ?_)
      · refine v_sub [1, 2, 3, 4, 6] rfl ?_
        exact q_X12_balancesOf_91 σ l1 r c4 (b_X12_balancesOf_16 σ l1 c4 f) hc4 ih l2 l3 l5 h
      · refine v_aload_n 43 1 dX12_balancesOf_42 rfl rfl rfl ?_
        refine vg_8_0 46 (rfl : kK 112 = 8) in_X12_balancesOf_8 (mem_at 1 rfl) dX12_balancesOf_43 rfl ?_
        refine v_iload 48 0 dX12_balancesOf_46 rfl rfl ?_
        refine v_iald 49 h (rfl : kK 113 = 9) dX12_balancesOf_48 rfl (fun h => ?_)
        refine v_iload_n 50 2 dX12_balancesOf_49 rfl rfl rfl ?_
        refine v_icmp_ne 53 87 h dX12_balancesOf_50 rfl (by decide) (fun h => ?_) (fun h => ?_)
        · refine v_sub [1, 2, 3, 4, 6] rfl ?_
          exact q_X12_balancesOf_87 σ l1 r c4 (b_X12_balancesOf_16 σ l1 c4 f) hc4 ih l2 l3 l5 h
        · refine v_iload_n 54 4 dX12_balancesOf_53 rfl rfl rfl ?_
          refine v_aload_n 55 1 dX12_balancesOf_54 rfl rfl rfl ?_
          refine vg_8_0 58 (rfl : kK 112 = 8) in_X12_balancesOf_8 (mem_at 1 rfl) dX12_balancesOf_55 rfl ?_
          refine v_iload 60 0 dX12_balancesOf_58 rfl rfl ?_
          refine v_iconst 61 1 dX12_balancesOf_60 kc_i_1 rfl ?_
          refine v_iadd 62 dX12_balancesOf_61 rfl ?_
          refine v_iald 63 h (rfl : kK 113 = 9) dX12_balancesOf_62 rfl (fun h => ?_)
          refine v_aload_n 64 1 dX12_balancesOf_63 rfl rfl rfl ?_
          refine vg_8_0 67 (rfl : kK 112 = 8) in_X12_balancesOf_8 (mem_at 1 rfl) dX12_balancesOf_64 rfl ?_
          refine v_iload 69 0 dX12_balancesOf_67 rfl rfl ?_
          refine v_iconst 70 2 dX12_balancesOf_69 kc_i_2 rfl ?_
          refine v_iadd 71 dX12_balancesOf_70 rfl ?_
          refine v_iald 72 h (rfl : kK 113 = 9) dX12_balancesOf_71 rfl (fun h => ?_)
          refine v_cS 75 [.int l3, .int (rI σ 113 (ix (x3 + 1))), .int (rI σ 113 (ix (x3 + 2)))] (c_X12_tipOf l3 (rI σ 113 (ix (x3 + 1))) (rI σ 113 (ix (x3 + 2)))) cl_X12_tipOf gX12_balancesOf_X12_tipOf ⟨Nat.le_of_ble_eq_true rfl, Nat.le_of_ble_eq_true rfl⟩ rfl rfl (Nat.le_of_ble_eq_true rfl) dX12_balancesOf_72 rfl ?_
          refine v_aload_n 76 1 dX12_balancesOf_75 rfl rfl rfl ?_
          refine vg_8_0 79 (rfl : kK 112 = 8) in_X12_balancesOf_8 (mem_at 1 rfl) dX12_balancesOf_76 rfl ?_
          refine v_iload 81 0 dX12_balancesOf_79 rfl rfl ?_
          refine v_iconst 82 3 dX12_balancesOf_81 kc_i_3 rfl ?_
          refine v_iadd 83 dX12_balancesOf_82 rfl ?_
          refine v_iald 84 h (rfl : kK 113 = 9) dX12_balancesOf_83 rfl (fun h => ?_)
          refine v_icmp_ne 87 91 h dX12_balancesOf_84 rfl (by decide) (fun h => ?_) (fun h => ?_)
          · refine v_sub [1, 2, 3, 4, 6] rfl ?_
            exact q_X12_balancesOf_91 σ l1 r c4 (b_X12_balancesOf_16 σ l1 c4 f) hc4 ih l2 l3 l5 h
          · refine v_sub [1, 2, 3, 4, 6] rfl ?_
            exact q_X12_balancesOf_87 σ l1 r c4 (b_X12_balancesOf_16 σ l1 c4 f) hc4 ih l2 l3 l5 h
set_option maxRecDepth 100000 in
set_option maxHeartbeats 4000000 in
theorem q_X12_balancesOf_4 {g : Cx} (σ : Sg) (l1 : Int32) (r : Int32) : ∀ f : Nat, ∀ l2 : Int32, ∀ l3 : Int32, b_X12_balancesOf_4 σ l1 f l2 l3 = some r → V g cX12_balancesOf RX12 wsX12_balancesOf 7 (some .int) rm_X12_balancesOf (some (.int r)) σ σ 4 [(0, .ref (g.1 112)), (1, .int l1), (2, .int l2), (3, .int l3)] [] := by
  intro f
  induction f with
  | zero =>
    intro l2 l3 h
    cases h
  | succ f ih =>
    intro l2 l3 h
    rw [b_X12_balancesOf_4] at h
    refine v_iload_n 5 3 dX12_balancesOf_4 rfl rfl rfl ?_
    refine v_bipush 7 6 dX12_balancesOf_5 kc_b_6 rfl ?_
    refine v_icmp_ge 10 121 h dX12_balancesOf_7 rfl (by decide) (fun h => ?_) (fun h => ?_)
    · refine v_iload_n 122 2 dX12_balancesOf_121 rfl rfl rfl ?_
      exact v_iretP h rfl dX12_balancesOf_122
    · refine v_iconst 11 1 dX12_balancesOf_10 kc_i_1 rfl ?_
      refine v_istore 13 dX12_balancesOf_11 (by decide) rfl rfl ?_
      refine v_iconst 14 0 dX12_balancesOf_13 kc_i_0 rfl ?_
      refine v_istore 16 dX12_balancesOf_14 (by decide) rfl rfl ?_
      refine v_sub [2, 3, 4, 5, 1, 0] rfl ?_
      exact q_X12_balancesOf_16 σ l1 r (b_X12_balancesOf_4 σ l1 f) ih FU l2 l3 1 0 (Or.inr rfl) h
set_option maxRecDepth 100000 in
set_option maxHeartbeats 4000000 in
theorem c_X12_balancesOf {g : Cx} {σ : Sg} (l1 : Int32) (r : Int32) (h : f_X12_balancesOf σ l1 = some r) : ∀ l, MetF l yX12_balancesOf wsX12_balancesOf rm_X12_balancesOf g [.ref (g.1 112), .int l1] σ (some (.int r)) σ := by
  refine MetF.of (own0 := RX12) (lv0 := [(0, .ref (g.1 112)), (1, .int l1)]) rfl cl_X12_balancesOf (by decide) (Nat.le_of_ble_eq_true rfl) rfl ?_
  unfold f_X12_balancesOf at h
  refine v_iconst 1 0 dX12_balancesOf_0 kc_i_0 rfl ?_
  refine v_istore_n 2 dX12_balancesOf_1 rfl (by decide) rfl rfl ?_
  refine v_iconst 3 0 dX12_balancesOf_2 kc_i_0 rfl ?_
  refine v_istore_n 4 dX12_balancesOf_3 rfl (by decide) rfl rfl ?_
  refine v_sub [2, 3, 1, 0] rfl ?_
  exact q_X12_balancesOf_4 σ l1 r FU 0 0 h
-- private int byteAt(int);
abbrev rm_X12_byteAt : Room := { frames := 0, cells := 0, slots := 0, locals := 0 }
theorem cl_X12_byteAt : Cl yX12_byteAt wsX12_byteAt cX12_byteAt 2 (some .int) rm_X12_byteAt 1 := ⟨⟨_, rfl⟩, rfl, rfl, by decide +kernel, by decide +kernel, by decide +kernel⟩
theorem in_X12_byteAt_8 : ∀ w ∈ wsX120, w ∈ wsX12_byteAt := fun w h => List.mem_cons_of_mem _ (List.mem_append_right _ h)
def f_X12_byteAt (σ : Sg) (l1 : Int32) : Option Int32 := (if (rI σ 112 3) ≤ l1 then (some ((-1))) else (if inb l1 (kLen 115) = true then (some (rI σ 115 (ix l1))) else none))
set_option maxRecDepth 100000 in
set_option maxHeartbeats 4000000 in
theorem c_X12_byteAt {g : Cx} {σ : Sg} (l1 : Int32) (r : Int32) (h : f_X12_byteAt σ l1 = some r) : ∀ l, MetF l yX12_byteAt wsX12_byteAt rm_X12_byteAt g [.ref (g.1 112), .int l1] σ (some (.int r)) σ := by
  refine MetF.of (own0 := RX12) (lv0 := [(0, .ref (g.1 112)), (1, .int l1)]) rfl cl_X12_byteAt (by decide) (Nat.le_of_ble_eq_true rfl) rfl ?_
  unfold f_X12_byteAt at h
  refine v_iload_n 1 1 dX12_byteAt_0 rfl rfl rfl ?_
  refine v_aload_n 2 0 dX12_byteAt_1 rfl rfl rfl ?_
  refine vg_8_3 5 (rfl : kK 112 = 8) in_X12_byteAt_8 (mem_at 1 rfl) dX12_byteAt_2 rfl ?_
  refine v_icmp_ge 8 17 h dX12_byteAt_5 rfl (by decide) (fun h => ?_) (fun h => ?_)
  · refine v_iconst 18 (-1) dX12_byteAt_17 kc_i_m1 rfl ?_
    exact v_iretP h rfl dX12_byteAt_18
  · refine v_aload_n 9 0 dX12_byteAt_8 rfl rfl rfl ?_
    refine vg_8_2 12 (rfl : kK 112 = 8) in_X12_byteAt_8 (mem_at 2 rfl) dX12_byteAt_9 rfl ?_
    refine v_iload_n 13 1 dX12_byteAt_12 rfl rfl rfl ?_
    refine v_iald 14 h (rfl : kK 115 = 9) dX12_byteAt_13 rfl (fun h => ?_)
    refine v_goto 18 dX12_byteAt_14 (by decide) ?_
    exact v_iretP h rfl dX12_byteAt_18
-- private void blanks();
abbrev rm_X12_blanks : Room := { frames := 1, cells := 0, slots := 0, locals := 21 }
theorem cl_X12_blanks : Cl yX12_blanks wsX12_blanks cX12_blanks 1 none rm_X12_blanks 0 := ⟨⟨_, rfl⟩, rfl, rfl, by decide +kernel, by decide +kernel, by decide +kernel⟩
theorem in_X12_blanks_8 : ∀ w ∈ wsX120, w ∈ wsX12_blanks := fun w h => List.mem_cons_of_mem _ (List.mem_append_right _ h)
def b_X12_blanks_0 : Nat → Sg → Option Sg
  | 0, _ => none
  | f + 1, σ => (f_X12_byteAt σ (rI σ 112 7)).bind fun x1 => (if x1 = 32 then nam (stI σ 112 7 ((rI σ 112 7) + 1)) fun s3 => b_X12_blanks_0 f s3 else nam (stI σ 112 8 (rI σ 112 7)) fun s2 => (some s2))
def f_X12_blanks (σ : Sg) : Option Sg := b_X12_blanks_0 FU σ
set_option maxRecDepth 100000 in
set_option maxHeartbeats 4000000 in
theorem q_X12_blanks_0 {g : Cx} (τ : Sg) : ∀ f : Nat, ∀ σ : Sg, b_X12_blanks_0 f σ = some τ → V g cX12_blanks RX12 wsX12_blanks 1 none rm_X12_blanks none τ σ 0 [(0, .ref (g.1 112))] [] := by
  intro f
  induction f with
  | zero =>
    intro σ h
    cases h
  | succ f ih =>
    intro σ h
    rw [b_X12_blanks_0] at h
    refine v_aload_n 1 0 dX12_blanks_0 rfl rfl rfl ?_
    refine v_aload_n 2 0 dX12_blanks_1 rfl rfl rfl ?_
    refine vg_8_7 5 (rfl : kK 112 = 8) in_X12_blanks_8 (mem_at 1 rfl) dX12_blanks_2 rfl ?_
    obtain ⟨x1, h0, h⟩ := ob h
    refine v_cV 8 8 [.int (rI σ 112 7)] (rfl : kK 112 = 8) rfl (c_X12_byteAt (rI σ 112 7) _ h0) cl_X12_byteAt gX12_blanks_X12_byteAt rfl ⟨Nat.le_of_ble_eq_true rfl, Nat.le_of_ble_eq_true rfl⟩ rfl rfl (Nat.le_of_ble_eq_true rfl) dX12_blanks_5 rfl ?_
    refine v_bipush 10 32 dX12_blanks_8 kc_b_32 rfl ?_
    refine v_icmp_ne 13 26 h dX12_blanks_10 rfl (by decide) (fun h => ?_) (fun h => ?_)
    · refine v_aload_n 27 0 dX12_blanks_26 rfl rfl rfl ?_
      refine v_aload_n 28 0 dX12_blanks_27 rfl rfl rfl ?_
      refine vg_8_7 31 (rfl : kK 112 = 8) in_X12_blanks_8 (mem_at 1 rfl) dX12_blanks_28 rfl ?_
      refine vp_8_8 34 h (rfl : kK 112 = 8) in_X12_blanks_8 (mem_at 2 rfl) dX12_blanks_31 rfl (fun s2 h => ?_)
      exact v_vretS h rfl dX12_blanks_34
    · refine v_aload_n 14 0 dX12_blanks_13 rfl rfl rfl ?_
      refine v_dup 15 dX12_blanks_14 rfl rfl ?_
      refine vg_8_7 18 (rfl : kK 112 = 8) in_X12_blanks_8 (mem_at 1 rfl) dX12_blanks_15 rfl ?_
      refine v_iconst 19 1 dX12_blanks_18 kc_i_1 rfl ?_
      refine v_iadd 20 dX12_blanks_19 rfl ?_
      refine vp_8_7 23 h (rfl : kK 112 = 8) in_X12_blanks_8 (mem_at 1 rfl) dX12_blanks_20 rfl (fun s3 h => ?_)
      refine v_goto 0 dX12_blanks_23 (by decide) ?_
      refine v_sub [0] rfl ?_
      exact ih s3 h
set_option maxRecDepth 100000 in
set_option maxHeartbeats 4000000 in
theorem c_X12_blanks {g : Cx} {σ : Sg} (τ : Sg) (h : f_X12_blanks σ = some τ) : ∀ l, MetF l yX12_blanks wsX12_blanks rm_X12_blanks g [.ref (g.1 112)] σ none τ := by
  refine MetF.of (own0 := RX12) (lv0 := [(0, .ref (g.1 112))]) rfl cl_X12_blanks (by decide) (Nat.le_of_ble_eq_true rfl) rfl ?_
  unfold f_X12_blanks at h
  refine v_sub [0] rfl ?_
  exact q_X12_blanks_0 τ FU σ h
-- private boolean isKeeper(int);
abbrev rm_X12_isKeeper : Room := { frames := 1, cells := 0, slots := 0, locals := 25 }
theorem cl_X12_isKeeper : Cl yX12_isKeeper wsX12_isKeeper cX12_isKeeper 2 (some .boolean) rm_X12_isKeeper 1 := ⟨⟨_, rfl⟩, rfl, rfl, by decide +kernel, by decide +kernel, by decide +kernel⟩
theorem in_X12_isKeeper_8 : ∀ w ∈ wsX120, w ∈ wsX12_isKeeper := fun w h => List.mem_cons_of_mem _ (List.mem_append_right _ h)
def f_X12_isKeeper (σ : Sg) (l1 : Int32) : Option Int32 := (if inb 0 (kLen 113) = true then (some (f_X12_in (Int32.toInt64 l1) 0 (Int32.toInt64 ((rI σ 113 (ix 0)) - 1)))) else none)
set_option maxRecDepth 100000 in
set_option maxHeartbeats 4000000 in
theorem c_X12_isKeeper {g : Cx} {σ : Sg} (l1 : Int32) (r : Int32) (h : f_X12_isKeeper σ l1 = some r) : ∀ l, MetF l yX12_isKeeper wsX12_isKeeper rm_X12_isKeeper g [.ref (g.1 112), .int l1] σ (some (.int r)) σ := by
  refine MetF.of (own0 := RX12) (lv0 := [(0, .ref (g.1 112)), (1, .int l1)]) rfl cl_X12_isKeeper (by decide) (Nat.le_of_ble_eq_true rfl) rfl ?_
  unfold f_X12_isKeeper at h
  refine v_iload_n 1 1 dX12_isKeeper_0 rfl rfl rfl ?_
  refine v_i2l 2 dX12_isKeeper_1 rfl ?_
  refine v_lconst 3 0 dX12_isKeeper_2 kc_l_0 rfl ?_
  refine v_aload_n 4 0 dX12_isKeeper_3 rfl rfl rfl ?_
  refine vg_8_0 7 (rfl : kK 112 = 8) in_X12_isKeeper_8 (mem_at 1 rfl) dX12_isKeeper_4 rfl ?_
  refine v_iconst 8 0 dX12_isKeeper_7 kc_i_0 rfl ?_
  refine v_iald 9 h (rfl : kK 113 = 9) dX12_isKeeper_8 rfl (fun h => ?_)
  refine v_iconst 10 1 dX12_isKeeper_9 kc_i_1 rfl ?_
  refine v_isub 11 dX12_isKeeper_10 rfl ?_
  refine v_i2l 12 dX12_isKeeper_11 rfl ?_
  refine v_cS 15 [.long (Int32.toInt64 l1), .long 0, .long (Int32.toInt64 ((rI σ 113 (ix 0)) - 1))] (c_X12_in (Int32.toInt64 l1) 0 (Int32.toInt64 ((rI σ 113 (ix 0)) - 1))) cl_X12_in gX12_isKeeper_X12_in ⟨Nat.le_of_ble_eq_true rfl, Nat.le_of_ble_eq_true rfl⟩ rfl rfl (Nat.le_of_ble_eq_true rfl) dX12_isKeeper_12 rfl ?_
  exact v_zretP h rfl zb_X12_in dX12_isKeeper_15
-- private static boolean has(int, int);
abbrev rm_X12_has : Room := { frames := 0, cells := 0, slots := 0, locals := 0 }
theorem cl_X12_has : Cl yX12_has wsX12_has cX12_has 2 (some .boolean) rm_X12_has 2 := ⟨⟨_, rfl⟩, rfl, rfl, by decide +kernel, by decide +kernel, by decide +kernel⟩
def f_X12_has (l0 : Int32) (l1 : Int32) : Int32 := (if ((l0 >>> (l1 &&& 31)) &&& 1) = 1 then 1 else 0)
theorem zb_X12_has {l0 : Int32} {l1 : Int32} : f_X12_has l0 l1 = 0 ∨ f_X12_has l0 l1 = 1 := by
  unfold f_X12_has
  try simp only [nam]
  repeat' (first | exact Or.inl rfl | exact Or.inr rfl | split)
set_option maxRecDepth 100000 in
set_option maxHeartbeats 4000000 in
theorem c_X12_has {g : Cx} {σ : Sg} (l0 : Int32) (l1 : Int32) : ∀ l, MetF l yX12_has wsX12_has rm_X12_has g [.int l0, .int l1] σ (some (.int (f_X12_has l0 l1))) σ := by
  have main : ∀ r : Int32, f_X12_has l0 l1 = r → ∀ l, MetF l yX12_has wsX12_has rm_X12_has g [.int l0, .int l1] σ (some (.int r)) σ := by
    intro r h
    refine MetF.of (own0 := RX12) (lv0 := [(0, .int l0), (1, .int l1)]) rfl cl_X12_has (by decide) (Nat.le_of_ble_eq_true rfl) rfl ?_
    unfold f_X12_has at h
    refine v_iload_n 1 0 dX12_has_0 rfl rfl rfl ?_
    refine v_iload_n 2 1 dX12_has_1 rfl rfl rfl ?_
    refine v_ishr 3 dX12_has_2 rfl ?_
    refine v_iconst 4 1 dX12_has_3 kc_i_1 rfl ?_
    refine v_iand 5 dX12_has_4 rfl ?_
    refine v_iconst 6 1 dX12_has_5 kc_i_1 rfl ?_
    refine v_icmp_ne 9 13 h dX12_has_6 rfl (by decide) (fun h => ?_) (fun h => ?_)
    · refine v_iconst 14 0 dX12_has_13 kc_i_0 rfl ?_
      exact v_zretT h rfl (Or.inl rfl) dX12_has_14
    · refine v_iconst 10 1 dX12_has_9 kc_i_1 rfl ?_
      refine v_goto 14 dX12_has_10 (by decide) ?_
      exact v_zretT h rfl (Or.inr rfl) dX12_has_14
  exact main _ rfl
-- private int no();
abbrev rm_X12_no : Room := { frames := 0, cells := 0, slots := 0, locals := 0 }
theorem cl_X12_no : Cl yX12_no wsX12_no cX12_no 1 (some .int) rm_X12_no 0 := ⟨⟨_, rfl⟩, rfl, rfl, by decide +kernel, by decide +kernel, by decide +kernel⟩
theorem in_X12_no_8 : ∀ w ∈ wsX120, w ∈ wsX12_no := fun w h => List.mem_cons_of_mem _ (List.mem_append_right _ h)
def f_X12_no (σ : Sg) : Option (Int32 × Sg) := (if inb 1 (kLen 116) = true then (if inb 1 (kLen 116) = true then nam (stI σ 116 (ix 1) ((rI σ 116 (ix 1)) + 1)) (fun s1 => (some ((-3), s1))) else none) else none)
set_option maxRecDepth 100000 in
set_option maxHeartbeats 4000000 in
theorem c_X12_no {g : Cx} {σ : Sg} (r : Int32) (τ : Sg) (h : f_X12_no σ = some (r, τ)) : ∀ l, MetF l yX12_no wsX12_no rm_X12_no g [.ref (g.1 112)] σ (some (.int r)) τ := by
  refine MetF.of (own0 := RX12) (lv0 := [(0, .ref (g.1 112))]) rfl cl_X12_no (by decide) (Nat.le_of_ble_eq_true rfl) rfl ?_
  unfold f_X12_no at h
  refine v_aload_n 1 0 dX12_no_0 rfl rfl rfl ?_
  refine vg_8_6 4 (rfl : kK 112 = 8) in_X12_no_8 (mem_at 1 rfl) dX12_no_1 rfl ?_
  refine v_iconst 5 1 dX12_no_4 kc_i_1 rfl ?_
  refine v_dup2 6 dX12_no_5 rfl rfl rfl ?_
  refine v_iald 7 h (rfl : kK 116 = 9) dX12_no_6 rfl (fun h => ?_)
  refine v_iconst 8 1 dX12_no_7 kc_i_1 rfl ?_
  refine v_iadd 9 dX12_no_8 rfl ?_
  refine v_iast 10 h (rfl : kK 116 = 9) dX12_no_9 rfl (fun s1 h => ?_)
  refine v_bipush 12 (-3) dX12_no_10 kc_b_m3 rfl ?_
  exact v_iretS h rfl dX12_no_12
-- private static boolean lends(int, int, int, int);
abbrev rm_X12_lends : Room := { frames := 0, cells := 0, slots := 0, locals := 0 }
theorem cl_X12_lends : Cl yX12_lends wsX12_lends cX12_lends 5 (some .boolean) rm_X12_lends 4 := ⟨⟨_, rfl⟩, rfl, rfl, by decide +kernel, by decide +kernel, by decide +kernel⟩
def b_X12_lends_63 (l0 : Int32) (l1 : Int32) (l2 : Int32) (l3 : Int32) : Int32 := 1
def b_X12_lends_80 (l0 : Int32) (l1 : Int32) (l2 : Int32) (l3 : Int32) : Int32 := 1
def b_X12_lends_12 (l0 : Int32) (l1 : Int32) (l2 : Int32) (l3 : Int32) (t0 : Int32) : Int32 := (if l0 = 2 then 0 else (if l0 = 3 then (if t0 = 0 then 0 else (if (l1 - l1 / 7 * 7) = 0 then b_X12_lends_63 l0 l1 l2 l3 else (if l3 < 5 then 0 else b_X12_lends_63 l0 l1 l2 l3))) else (if l0 = 4 then (if t0 = 0 then (if l2 < 8 then 0 else b_X12_lends_80 l0 l1 l2 l3) else b_X12_lends_80 l0 l1 l2 l3) else (if l0 = 5 then (if t0 = 0 then 0 else (if (l1 - l1 / 7 * 7) = 0 then b_X12_lends_63 l0 l1 l2 l3 else (if l3 < 5 then 0 else b_X12_lends_63 l0 l1 l2 l3))) else t0))))
def f_X12_lends (l0 : Int32) (l1 : Int32) (l2 : Int32) (l3 : Int32) : Int32 := (if (l2 + l3) < 5 then b_X12_lends_12 l0 l1 l2 l3 0 else b_X12_lends_12 l0 l1 l2 l3 1)
theorem zb_X12_lends {l0 : Int32} {l1 : Int32} {l2 : Int32} {l3 : Int32} : f_X12_lends l0 l1 l2 l3 = 0 ∨ f_X12_lends l0 l1 l2 l3 = 1 := by
  unfold f_X12_lends b_X12_lends_12 b_X12_lends_80 b_X12_lends_63
  try simp only [nam]
  repeat' (first | exact Or.inl rfl | exact Or.inr rfl | split)
set_option maxRecDepth 100000 in
set_option maxHeartbeats 4000000 in
theorem q_X12_lends_63 {g : Cx} {σ : Sg} (l0 : Int32) (l1 : Int32) (l2 : Int32) (l3 : Int32) (r : Int32) : b_X12_lends_63 l0 l1 l2 l3 = r → V g cX12_lends RX12 wsX12_lends 5 (some .boolean) rm_X12_lends (some (.int r)) σ σ 63 [] [] := by
  intro h
  unfold b_X12_lends_63 at h
  refine v_iconst 64 1 dX12_lends_63 kc_i_1 rfl ?_
  refine v_goto 68 dX12_lends_64 (by decide) ?_
  exact v_zretT h rfl (Or.inr rfl) dX12_lends_68
set_option maxRecDepth 100000 in
set_option maxHeartbeats 4000000 in
theorem q_X12_lends_80 {g : Cx} {σ : Sg} (l0 : Int32) (l1 : Int32) (l2 : Int32) (l3 : Int32) (r : Int32) : b_X12_lends_80 l0 l1 l2 l3 = r → V g cX12_lends RX12 wsX12_lends 5 (some .boolean) rm_X12_lends (some (.int r)) σ σ 80 [] [] := by
  intro h
  unfold b_X12_lends_80 at h
  refine v_iconst 81 1 dX12_lends_80 kc_i_1 rfl ?_
  refine v_goto 85 dX12_lends_81 (by decide) ?_
  exact v_zretT h rfl (Or.inr rfl) dX12_lends_85
set_option maxRecDepth 100000 in
set_option maxHeartbeats 4000000 in
theorem q_X12_lends_12 {g : Cx} {σ : Sg} (l0 : Int32) (l1 : Int32) (l2 : Int32) (l3 : Int32) (r : Int32) : ∀ t0 : Int32, (t0 = 0 ∨ t0 = 1) → b_X12_lends_12 l0 l1 l2 l3 t0 = r → V g cX12_lends RX12 wsX12_lends 5 (some .boolean) rm_X12_lends (some (.int r)) σ σ 12 [(0, .int l0), (1, .int l1), (2, .int l2), (3, .int l3)] [.int t0] := by
  intro t0 hz0 h
  unfold b_X12_lends_12 at h
  refine v_istore 14 dX12_lends_12 (by decide) rfl rfl ?_
  refine v_iload_n 15 1 dX12_lends_14 rfl rfl rfl ?_
  refine v_ite h (fun q h => ?_) (fun q2 h => ?_)
  · refine v_tabInZ 44 2 dX12_lends_15 (ti_of q kc_ti_2) (by decide) (by decide) rfl (by decide) ?_
    refine v_iconst 45 0 dX12_lends_44 kc_i_0 rfl ?_
    exact v_zretT h rfl (Or.inl rfl) dX12_lends_45
  refine v_ite h (fun q h => ?_) (fun q3 h => ?_)
  · refine v_tabInZ 46 3 dX12_lends_15 (ti_of q kc_ti_3) (by decide) (by decide) rfl (by decide) ?_
    refine v_iload 48 0 dX12_lends_46 rfl rfl ?_
    refine v_if_eq 51 67 h dX12_lends_48 rfl (by decide) (fun h => ?_) (fun h => ?_)
    · refine v_iconst 68 0 dX12_lends_67 kc_i_0 rfl ?_
      exact v_zretT h rfl (Or.inl rfl) dX12_lends_68
    · refine v_iload_n 52 2 dX12_lends_51 rfl rfl rfl ?_
      refine v_bipush 54 7 dX12_lends_52 kc_b_7 rfl ?_
      refine v_irem 55 kc_ne_7 dX12_lends_54 rfl ?_
      refine v_if_eq 58 63 h dX12_lends_55 rfl (by decide) (fun h => ?_) (fun h => ?_)
      · refine v_sub [] rfl ?_
        exact q_X12_lends_63 l0 l1 l2 l3 r h
      · refine v_iload_n 59 4 dX12_lends_58 rfl rfl rfl ?_
        refine v_iconst 60 5 dX12_lends_59 kc_i_5 rfl ?_
        refine v_icmp_lt 63 67 h dX12_lends_60 rfl (by decide) (fun h => ?_) (fun h => ?_)
        · refine v_iconst 68 0 dX12_lends_67 kc_i_0 rfl ?_
          exact v_zretT h rfl (Or.inl rfl) dX12_lends_68
        · refine v_sub [] rfl ?_
          exact q_X12_lends_63 l0 l1 l2 l3 r h
  refine v_ite h (fun q h => ?_) (fun q4 h => ?_)
  · refine v_tabInZ 69 4 dX12_lends_15 (ti_of q kc_ti_4) (by decide) (by decide) rfl (by decide) ?_
    refine v_iload 71 0 dX12_lends_69 rfl rfl ?_
    refine v_if_ne 74 80 h dX12_lends_71 rfl (by decide) (fun h => ?_) (fun h => ?_)
    · refine v_sub [] rfl ?_
      exact q_X12_lends_80 l0 l1 l2 l3 r h
    · refine v_iload_n 75 3 dX12_lends_74 rfl rfl rfl ?_
      refine v_bipush 77 8 dX12_lends_75 kc_b_8 rfl ?_
      refine v_icmp_lt 80 84 h dX12_lends_77 rfl (by decide) (fun h => ?_) (fun h => ?_)
      · refine v_iconst 85 0 dX12_lends_84 kc_i_0 rfl ?_
        exact v_zretT h rfl (Or.inl rfl) dX12_lends_85
      · refine v_sub [] rfl ?_
        exact q_X12_lends_80 l0 l1 l2 l3 r h
  refine v_ite h (fun q h => ?_) (fun q5 h => ?_)
  · refine v_tabInZ 46 5 dX12_lends_15 (ti_of q kc_ti_5) (by decide) (by decide) rfl (by decide) ?_
    refine v_iload 48 0 dX12_lends_46 rfl rfl ?_
    refine v_if_eq 51 67 h dX12_lends_48 rfl (by decide) (fun h => ?_) (fun h => ?_)
    · refine v_iconst 68 0 dX12_lends_67 kc_i_0 rfl ?_
      exact v_zretT h rfl (Or.inl rfl) dX12_lends_68
    · refine v_iload_n 52 2 dX12_lends_51 rfl rfl rfl ?_
      refine v_bipush 54 7 dX12_lends_52 kc_b_7 rfl ?_
      refine v_irem 55 kc_ne_7 dX12_lends_54 rfl ?_
      refine v_if_eq 58 63 h dX12_lends_55 rfl (by decide) (fun h => ?_) (fun h => ?_)
      · refine v_sub [] rfl ?_
        exact q_X12_lends_63 l0 l1 l2 l3 r h
      · refine v_iload_n 59 4 dX12_lends_58 rfl rfl rfl ?_
        refine v_iconst 60 5 dX12_lends_59 kc_i_5 rfl ?_
        refine v_icmp_lt 63 67 h dX12_lends_60 rfl (by decide) (fun h => ?_) (fun h => ?_)
        · refine v_iconst 68 0 dX12_lends_67 kc_i_0 rfl ?_
          exact v_zretT h rfl (Or.inl rfl) dX12_lends_68
        · refine v_sub [] rfl ?_
          exact q_X12_lends_63 l0 l1 l2 l3 r h
  have a2 := ne_lit q2 kc_ti_2
  have a3 := ne_lit q3 kc_ti_3
  have a4 := ne_lit q4 kc_ti_4
  have a5 := ne_lit q5 kc_ti_5
  refine v_tabOut 86 dX12_lends_15 (by omega) (by decide) ?_
  refine v_iload 88 0 dX12_lends_86 rfl rfl ?_
  exact v_zretT h rfl hz0 dX12_lends_88
set_option maxRecDepth 100000 in
set_option maxHeartbeats 4000000 in
theorem c_X12_lends {g : Cx} {σ : Sg} (l0 : Int32) (l1 : Int32) (l2 : Int32) (l3 : Int32) : ∀ l, MetF l yX12_lends wsX12_lends rm_X12_lends g [.int l0, .int l1, .int l2, .int l3] σ (some (.int (f_X12_lends l0 l1 l2 l3))) σ := by
  have main : ∀ r : Int32, f_X12_lends l0 l1 l2 l3 = r → ∀ l, MetF l yX12_lends wsX12_lends rm_X12_lends g [.int l0, .int l1, .int l2, .int l3] σ (some (.int r)) σ := by
    intro r h
    refine MetF.of (own0 := RX12) (lv0 := [(0, .int l0), (1, .int l1), (2, .int l2), (3, .int l3)]) rfl cl_X12_lends (by decide) (Nat.le_of_ble_eq_true rfl) rfl ?_
    unfold f_X12_lends at h
    refine v_iload_n 1 2 dX12_lends_0 rfl rfl rfl ?_
    refine v_iload_n 2 3 dX12_lends_1 rfl rfl rfl ?_
    refine v_iadd 3 dX12_lends_2 rfl ?_
    refine v_iconst 4 5 dX12_lends_3 kc_i_5 rfl ?_
    refine v_icmp_lt 7 11 h dX12_lends_4 rfl (by decide) (fun h => ?_) (fun h => ?_)
    · refine v_iconst 12 0 dX12_lends_11 kc_i_0 rfl ?_
      refine v_sub [0, 1, 2, 3] rfl ?_
      exact q_X12_lends_12 l0 l1 l2 l3 r 0 (Or.inl rfl) h
    · refine v_iconst 8 1 dX12_lends_7 kc_i_1 rfl ?_
      refine v_goto 12 dX12_lends_8 (by decide) ?_
      refine v_sub [0, 1, 2, 3] rfl ?_
      exact q_X12_lends_12 l0 l1 l2 l3 r 1 (Or.inr rfl) h
  exact main _ rfl
-- private boolean wouldLend(int, int);
abbrev rm_X12_wouldLend : Room := { frames := 1, cells := 0, slots := 0, locals := 24 }
theorem cl_X12_wouldLend : Cl yX12_wouldLend wsX12_wouldLend cX12_wouldLend 3 (some .boolean) rm_X12_wouldLend 2 := ⟨⟨_, rfl⟩, rfl, rfl, by decide +kernel, by decide +kernel, by decide +kernel⟩
theorem in_X12_wouldLend_8 : ∀ w ∈ wsX120, w ∈ wsX12_wouldLend := fun w h => List.mem_cons_of_mem _ (List.mem_append_right _ h)
def f_X12_wouldLend (σ : Sg) (l1 : Int32) (l2 : Int32) : Option Int32 := (if inb (4 + l1) (kLen 113) = true then (if inb 2 (kLen 113) = true then (if inb (32 + l1) (kLen 113) = true then (some (f_X12_lends (rI σ 113 (ix (4 + l1))) (rI σ 113 (ix 2)) (rI σ 113 (ix (32 + l1))) l2)) else none) else none) else none)
set_option maxRecDepth 100000 in
set_option maxHeartbeats 4000000 in
theorem c_X12_wouldLend {g : Cx} {σ : Sg} (l1 : Int32) (l2 : Int32) (r : Int32) (h : f_X12_wouldLend σ l1 l2 = some r) : ∀ l, MetF l yX12_wouldLend wsX12_wouldLend rm_X12_wouldLend g [.ref (g.1 112), .int l1, .int l2] σ (some (.int r)) σ := by
  refine MetF.of (own0 := RX12) (lv0 := [(0, .ref (g.1 112)), (1, .int l1), (2, .int l2)]) rfl cl_X12_wouldLend (by decide) (Nat.le_of_ble_eq_true rfl) rfl ?_
  unfold f_X12_wouldLend at h
  refine v_aload_n 1 0 dX12_wouldLend_0 rfl rfl rfl ?_
  refine vg_8_0 4 (rfl : kK 112 = 8) in_X12_wouldLend_8 (mem_at 1 rfl) dX12_wouldLend_1 rfl ?_
  refine v_iconst 5 4 dX12_wouldLend_4 kc_i_4 rfl ?_
  refine v_iload_n 6 1 dX12_wouldLend_5 rfl rfl rfl ?_
  refine v_iadd 7 dX12_wouldLend_6 rfl ?_
  refine v_iald 8 h (rfl : kK 113 = 9) dX12_wouldLend_7 rfl (fun h => ?_)
  refine v_aload_n 9 0 dX12_wouldLend_8 rfl rfl rfl ?_
  refine vg_8_0 12 (rfl : kK 112 = 8) in_X12_wouldLend_8 (mem_at 1 rfl) dX12_wouldLend_9 rfl ?_
  refine v_iconst 13 2 dX12_wouldLend_12 kc_i_2 rfl ?_
  refine v_iald 14 h (rfl : kK 113 = 9) dX12_wouldLend_13 rfl (fun h => ?_)
  refine v_aload_n 15 0 dX12_wouldLend_14 rfl rfl rfl ?_
  refine vg_8_0 18 (rfl : kK 112 = 8) in_X12_wouldLend_8 (mem_at 1 rfl) dX12_wouldLend_15 rfl ?_
  refine v_bipush 20 32 dX12_wouldLend_18 kc_b_32 rfl ?_
  refine v_iload_n 21 1 dX12_wouldLend_20 rfl rfl rfl ?_
  refine v_iadd 22 dX12_wouldLend_21 rfl ?_
  refine v_iald 23 h (rfl : kK 113 = 9) dX12_wouldLend_22 rfl (fun h => ?_)
  refine v_iload_n 24 2 dX12_wouldLend_23 rfl rfl rfl ?_
  refine v_cS 27 [.int (rI σ 113 (ix (4 + l1))), .int (rI σ 113 (ix 2)), .int (rI σ 113 (ix (32 + l1))), .int l2] (c_X12_lends (rI σ 113 (ix (4 + l1))) (rI σ 113 (ix 2)) (rI σ 113 (ix (32 + l1))) l2) cl_X12_lends gX12_wouldLend_X12_lends ⟨Nat.le_of_ble_eq_true rfl, Nat.le_of_ble_eq_true rfl⟩ rfl rfl (Nat.le_of_ble_eq_true rfl) dX12_wouldLend_24 rfl ?_
  exact v_zretP h rfl zb_X12_lends dX12_wouldLend_27
-- private int getsBy(int, int, int, boolean);
abbrev rm_X12_getsBy : Room := { frames := 2, cells := 0, slots := 0, locals := 46 }
theorem cl_X12_getsBy : Cl yX12_getsBy wsX12_getsBy cX12_getsBy 6 (some .int) rm_X12_getsBy 4 := ⟨⟨_, rfl⟩, rfl, rfl, by decide +kernel, by decide +kernel, by decide +kernel⟩
def b_X12_getsBy_43 (σ : Sg) (l1 : Int32) (l2 : Int32) (l3 : Int32) (l4 : Int32) : Option Int32 := (some (-(l2 / 2)))
def b_X12_getsBy_20 (σ : Sg) (l1 : Int32) (l2 : Int32) (l3 : Int32) (l4 : Int32) (t0 : Int32) : Option Int32 := (if t0 = 0 then b_X12_getsBy_43 σ l1 l2 l3 l4 else (f_X12_wouldLend σ l1 l2).bind fun x1 => (if x1 = 0 then b_X12_getsBy_43 σ l1 l2 l3 l4 else (some (8 - l2))))
def b_X12_getsBy_15 (σ : Sg) (l1 : Int32) (l2 : Int32) (l3 : Int32) (l4 : Int32) : Option Int32 := b_X12_getsBy_20 σ l1 l2 l3 l4 1
def b_X12_getsBy_19 (σ : Sg) (l1 : Int32) (l2 : Int32) (l3 : Int32) (l4 : Int32) : Option Int32 := b_X12_getsBy_20 σ l1 l2 l3 l4 0
def f_X12_getsBy (σ : Sg) (l1 : Int32) (l2 : Int32) (l3 : Int32) (l4 : Int32) : Option Int32 := (if l3 < l2 then b_X12_getsBy_15 σ l1 l2 l3 l4 else (if l2 = l3 then (if l4 = 0 then b_X12_getsBy_19 σ l1 l2 l3 l4 else b_X12_getsBy_15 σ l1 l2 l3 l4) else b_X12_getsBy_19 σ l1 l2 l3 l4))
set_option maxRecDepth 100000 in
set_option maxHeartbeats 4000000 in
theorem q_X12_getsBy_43 {g : Cx} (σ : Sg) (l1 : Int32) (l2 : Int32) (l3 : Int32) (l4 : Int32) (r : Int32) : b_X12_getsBy_43 σ l1 l2 l3 l4 = some r → V g cX12_getsBy RX12 wsX12_getsBy 6 (some .int) rm_X12_getsBy (some (.int r)) σ σ 43 [(2, .int l2)] [] := by
  intro h
  unfold b_X12_getsBy_43 at h
  refine v_iload_n 44 0 dX12_getsBy_43 rfl rfl rfl ?_
  refine v_iconst 45 2 dX12_getsBy_44 kc_i_2 rfl ?_
  refine v_idiv 46 kc_ne_2 dX12_getsBy_45 rfl ?_
  refine v_ineg 47 dX12_getsBy_46 rfl ?_
  exact v_iretP h rfl dX12_getsBy_47
set_option maxRecDepth 100000 in
set_option maxHeartbeats 4000000 in
theorem q_X12_getsBy_20 {g : Cx} (σ : Sg) (l1 : Int32) (l2 : Int32) (l3 : Int32) (l4 : Int32) (r : Int32) : ∀ t0 : Int32, (t0 = 0 ∨ t0 = 1) → b_X12_getsBy_20 σ l1 l2 l3 l4 t0 = some r → V g cX12_getsBy RX12 wsX12_getsBy 6 (some .int) rm_X12_getsBy (some (.int r)) σ σ 20 [(0, .ref (g.1 112)), (1, .int l1), (2, .int l2)] [.int t0] := by
  intro t0 hz0 h
  unfold b_X12_getsBy_20 at h
  refine v_istore 22 dX12_getsBy_20 (by decide) rfl rfl ?_
  refine v_iload 24 0 dX12_getsBy_22 rfl rfl ?_
  refine v_if_eq 27 43 h dX12_getsBy_24 rfl (by decide) (fun h => ?_) (fun h => ?_)
  · refine v_sub [3] rfl ?_
    exact q_X12_getsBy_43 σ l1 l2 l3 l4 r h
  · refine v_aload_n 28 1 dX12_getsBy_27 rfl rfl rfl ?_
    refine v_iload_n 29 2 dX12_getsBy_28 rfl rfl rfl ?_
    refine v_iload_n 30 3 dX12_getsBy_29 rfl rfl rfl ?_
    obtain ⟨x1, h0, h⟩ := ob h
    refine v_cV 33 8 [.int l1, .int l2] (rfl : kK 112 = 8) rfl (c_X12_wouldLend l1 l2 _ h0) cl_X12_wouldLend gX12_getsBy_X12_wouldLend rfl ⟨Nat.le_of_ble_eq_true rfl, Nat.le_of_ble_eq_true rfl⟩ rfl rfl (Nat.le_of_ble_eq_true rfl) dX12_getsBy_30 rfl ?_
    refine v_if_eq 36 43 h dX12_getsBy_33 rfl (by decide) (fun h => ?_) (fun h => ?_)
    · refine v_sub [3] rfl ?_
      exact q_X12_getsBy_43 σ l1 l2 l3 l4 r h
    · refine v_bipush 38 8 dX12_getsBy_36 kc_b_8 rfl ?_
      refine v_iload_n 39 3 dX12_getsBy_38 rfl rfl rfl ?_
      refine v_isub 40 dX12_getsBy_39 rfl ?_
      refine v_goto 47 dX12_getsBy_40 (by decide) ?_
      exact v_iretP h rfl dX12_getsBy_47
set_option maxRecDepth 100000 in
set_option maxHeartbeats 4000000 in
theorem q_X12_getsBy_15 {g : Cx} (σ : Sg) (l1 : Int32) (l2 : Int32) (l3 : Int32) (l4 : Int32) (r : Int32) : b_X12_getsBy_15 σ l1 l2 l3 l4 = some r → V g cX12_getsBy RX12 wsX12_getsBy 6 (some .int) rm_X12_getsBy (some (.int r)) σ σ 15 [(0, .ref (g.1 112)), (1, .int l1), (2, .int l2)] [] := by
  intro h
  unfold b_X12_getsBy_15 at h
  refine v_iconst 16 1 dX12_getsBy_15 kc_i_1 rfl ?_
  refine v_goto 20 dX12_getsBy_16 (by decide) ?_
  refine v_sub [0, 1, 2] rfl ?_
  exact q_X12_getsBy_20 σ l1 l2 l3 l4 r 1 (Or.inr rfl) h
set_option maxRecDepth 100000 in
set_option maxHeartbeats 4000000 in
theorem q_X12_getsBy_19 {g : Cx} (σ : Sg) (l1 : Int32) (l2 : Int32) (l3 : Int32) (l4 : Int32) (r : Int32) : b_X12_getsBy_19 σ l1 l2 l3 l4 = some r → V g cX12_getsBy RX12 wsX12_getsBy 6 (some .int) rm_X12_getsBy (some (.int r)) σ σ 19 [(0, .ref (g.1 112)), (1, .int l1), (2, .int l2)] [] := by
  intro h
  unfold b_X12_getsBy_19 at h
  refine v_iconst 20 0 dX12_getsBy_19 kc_i_0 rfl ?_
  refine v_sub [0, 1, 2] rfl ?_
  exact q_X12_getsBy_20 σ l1 l2 l3 l4 r 0 (Or.inl rfl) h
set_option maxRecDepth 100000 in
set_option maxHeartbeats 4000000 in
theorem c_X12_getsBy {g : Cx} {σ : Sg} (l1 : Int32) (l2 : Int32) (l3 : Int32) (l4 : Int32) (r : Int32) (h : f_X12_getsBy σ l1 l2 l3 l4 = some r) : ∀ l, MetF l yX12_getsBy wsX12_getsBy rm_X12_getsBy g [.ref (g.1 112), .int l1, .int l2, .int l3, .int l4] σ (some (.int r)) σ := by
  refine MetF.of (own0 := RX12) (lv0 := [(0, .ref (g.1 112)), (1, .int l1), (2, .int l2), (3, .int l3), (4, .int l4)]) rfl cl_X12_getsBy (by decide) (Nat.le_of_ble_eq_true rfl) rfl ?_
  unfold f_X12_getsBy at h
  refine v_iload_n 1 2 dX12_getsBy_0 rfl rfl rfl ?_
  refine v_iload_n 2 3 dX12_getsBy_1 rfl rfl rfl ?_
  refine v_icmp_gt 5 15 h dX12_getsBy_2 rfl (by decide) (fun h => ?_) (fun h => ?_)
  · refine v_sub [0, 1, 2] rfl ?_
    exact q_X12_getsBy_15 σ l1 l2 l3 l4 r h
  · refine v_iload_n 6 2 dX12_getsBy_5 rfl rfl rfl ?_
    refine v_iload_n 7 3 dX12_getsBy_6 rfl rfl rfl ?_
    refine v_icmp_ne 10 19 h dX12_getsBy_7 rfl (by decide) (fun h => ?_) (fun h => ?_)
    · refine v_sub [0, 1, 2] rfl ?_
      exact q_X12_getsBy_19 σ l1 l2 l3 l4 r h
    · refine v_iload 12 4 dX12_getsBy_10 rfl rfl ?_
      refine v_if_eq 15 19 h dX12_getsBy_12 rfl (by decide) (fun h => ?_) (fun h => ?_)
      · refine v_sub [0, 1, 2] rfl ?_
        exact q_X12_getsBy_19 σ l1 l2 l3 l4 r h
      · refine v_sub [0, 1, 2] rfl ?_
        exact q_X12_getsBy_15 σ l1 l2 l3 l4 r h
-- private boolean rests(int, int, int);
abbrev rm_X12_rests : Room := { frames := 3, cells := 0, slots := 0, locals := 71 }
theorem cl_X12_rests : Cl yX12_rests wsX12_rests cX12_rests 6 (some .boolean) rm_X12_rests 3 := ⟨⟨_, rfl⟩, rfl, rfl, by decide +kernel, by decide +kernel, by decide +kernel⟩
def b_X12_rests_63 (σ : Sg) (l1 : Int32) (l2 : Int32) (l3 : Int32) (c6 : Int32 → Int32 → Option Int32) (l5 : Int32) (t0 : Int32) : Option Int32 := nam (l5 + 1) fun x1 => c6 t0 x1
def b_X12_rests_62 (σ : Sg) (l1 : Int32) (l2 : Int32) (l3 : Int32) (c6 : Int32 → Int32 → Option Int32) (l5 : Int32) : Option Int32 := b_X12_rests_63 σ l1 l2 l3 c6 l5 0
def b_X12_rests_6 (σ : Sg) (l1 : Int32) (l2 : Int32) (l3 : Int32) : Nat → Int32 → Int32 → Option Int32
  | 0, _, _ => none
  | f + 1, l4, l5 => (if 10 ≤ l5 then (some (l4)) else (if l4 = 0 then b_X12_rests_62 σ l1 l2 l3 (b_X12_rests_6 σ l1 l2 l3 f) l5 else (f_X12_getsBy σ l1 l5 l3 1).bind fun x2 => (f_X12_getsBy σ l1 l2 l3 1).bind fun x3 => (if x3 < x2 then b_X12_rests_62 σ l1 l2 l3 (b_X12_rests_6 σ l1 l2 l3 f) l5 else (f_X12_getsBy σ l1 l5 l2 0).bind fun x4 => (f_X12_getsBy σ l1 l3 l2 0).bind fun x5 => (if x5 < x4 then b_X12_rests_62 σ l1 l2 l3 (b_X12_rests_6 σ l1 l2 l3 f) l5 else b_X12_rests_63 σ l1 l2 l3 (b_X12_rests_6 σ l1 l2 l3 f) l5 1))))
def f_X12_rests (σ : Sg) (l1 : Int32) (l2 : Int32) (l3 : Int32) : Option Int32 := b_X12_rests_6 σ l1 l2 l3 FU 1 0
set_option maxRecDepth 100000 in
set_option maxHeartbeats 4000000 in
theorem q_X12_rests_63 {g : Cx} (σ : Sg) (l1 : Int32) (l2 : Int32) (l3 : Int32) (r : Int32) (c6 : Int32 → Int32 → Option Int32) (hc6 : ∀ l4 : Int32, ∀ l5 : Int32, (l4 = 0 ∨ l4 = 1) → c6 l4 l5 = some r → V g cX12_rests RX12 wsX12_rests 6 (some .boolean) rm_X12_rests (some (.int r)) σ σ 6 [(0, .ref (g.1 112)), (1, .int l1), (2, .int l2), (3, .int l3), (4, .int l4), (5, .int l5)] []) : ∀ l5 : Int32, ∀ t0 : Int32, (t0 = 0 ∨ t0 = 1) → b_X12_rests_63 σ l1 l2 l3 c6 l5 t0 = some r → V g cX12_rests RX12 wsX12_rests 6 (some .boolean) rm_X12_rests (some (.int r)) σ σ 63 [(0, .ref (g.1 112)), (1, .int l1), (2, .int l2), (3, .int l3), (5, .int l5)] [.int t0] := by
  intro l5 t0 hz0 h
  unfold b_X12_rests_63 at h
  refine v_istore 65 dX12_rests_63 (by decide) rfl rfl ?_
  refine v_iincN 68 5 h dX12_rests_65 rfl kc_i_1 (by decide) rfl (fun _ => rfl) (fun x1 h => ?_)
  refine v_goto 6 dX12_rests_68 (by decide) ?_
  refine v_sub [2, 3, 4, 5, 1, 0] rfl ?_
  exact hc6 t0 x1 hz0 h
set_option maxRecDepth 100000 in
set_option maxHeartbeats 4000000 in
theorem q_X12_rests_62 {g : Cx} (σ : Sg) (l1 : Int32) (l2 : Int32) (l3 : Int32) (r : Int32) (c6 : Int32 → Int32 → Option Int32) (hc6 : ∀ l4 : Int32, ∀ l5 : Int32, (l4 = 0 ∨ l4 = 1) → c6 l4 l5 = some r → V g cX12_rests RX12 wsX12_rests 6 (some .boolean) rm_X12_rests (some (.int r)) σ σ 6 [(0, .ref (g.1 112)), (1, .int l1), (2, .int l2), (3, .int l3), (4, .int l4), (5, .int l5)] []) : ∀ l5 : Int32, b_X12_rests_62 σ l1 l2 l3 c6 l5 = some r → V g cX12_rests RX12 wsX12_rests 6 (some .boolean) rm_X12_rests (some (.int r)) σ σ 62 [(0, .ref (g.1 112)), (1, .int l1), (2, .int l2), (3, .int l3), (5, .int l5)] [] := by
  intro l5 h
  unfold b_X12_rests_62 at h
  refine v_iconst 63 0 dX12_rests_62 kc_i_0 rfl ?_
  refine v_sub [0, 1, 2, 3, 4] rfl ?_
  exact q_X12_rests_63 σ l1 l2 l3 r c6 hc6 l5 0 (Or.inl rfl) h
set_option maxRecDepth 100000 in
set_option maxHeartbeats 4000000 in
theorem q_X12_rests_6 {g : Cx} (σ : Sg) (l1 : Int32) (l2 : Int32) (l3 : Int32) (r : Int32) : ∀ f : Nat, ∀ l4 : Int32, ∀ l5 : Int32, (l4 = 0 ∨ l4 = 1) → b_X12_rests_6 σ l1 l2 l3 f l4 l5 = some r → V g cX12_rests RX12 wsX12_rests 6 (some .boolean) rm_X12_rests (some (.int r)) σ σ 6 [(0, .ref (g.1 112)), (1, .int l1), (2, .int l2), (3, .int l3), (4, .int l4), (5, .int l5)] [] := by
  intro f
  induction f with
  | zero =>
    intro l4 l5 hl4 h
    cases h
  | succ f ih =>
    intro l4 l5 hl4 h
    rw [b_X12_rests_6] at h
    refine v_iload 8 5 dX12_rests_6 rfl rfl ?_
    refine v_bipush 10 10 dX12_rests_8 kc_b_10 rfl ?_
    refine v_icmp_ge 13 71 h dX12_rests_10 rfl (by decide) (fun h => ?_) (fun h => ?_)
    · refine v_iload 73 4 dX12_rests_71 rfl rfl ?_
      exact v_zretP h rfl hl4 dX12_rests_73
    · refine v_iload 15 4 dX12_rests_13 rfl rfl ?_
      refine v_if_eq 18 62 h dX12_rests_15 rfl (by decide) (fun h => ?_) (fun h => ?_)
      · refine v_sub [0, 1, 2, 3, 5] rfl ?_
        exact q_X12_rests_62 σ l1 l2 l3 r (b_X12_rests_6 σ l1 l2 l3 f) ih l5 h
      · refine v_aload_n 19 0 dX12_rests_18 rfl rfl rfl ?_
        refine v_iload_n 20 1 dX12_rests_19 rfl rfl rfl ?_
        refine v_iload 22 5 dX12_rests_20 rfl rfl ?_
        refine v_iload_n 23 3 dX12_rests_22 rfl rfl rfl ?_
        refine v_iconst 24 1 dX12_rests_23 kc_i_1 rfl ?_
        obtain ⟨x2, h0, h⟩ := ob h
        refine v_cV 27 8 [.int l1, .int l5, .int l3, .int 1] (rfl : kK 112 = 8) rfl (c_X12_getsBy l1 l5 l3 1 _ h0) cl_X12_getsBy gX12_rests_X12_getsBy rfl ⟨Nat.le_of_ble_eq_true rfl, Nat.le_of_ble_eq_true rfl⟩ rfl rfl (Nat.le_of_ble_eq_true rfl) dX12_rests_24 rfl ?_
        refine v_aload_n 28 0 dX12_rests_27 rfl rfl rfl ?_
        refine v_iload_n 29 1 dX12_rests_28 rfl rfl rfl ?_
        refine v_iload_n 30 2 dX12_rests_29 rfl rfl rfl ?_
        refine v_iload_n 31 3 dX12_rests_30 rfl rfl rfl ?_
        refine v_iconst 32 1 dX12_rests_31 kc_i_1 rfl ?_
        obtain ⟨x3, h0, h⟩ := ob h
        refine v_cV 35 8 [.int l1, .int l2, .int l3, .int 1] (rfl : kK 112 = 8) rfl (c_X12_getsBy l1 l2 l3 1 _ h0) cl_X12_getsBy gX12_rests_X12_getsBy rfl ⟨Nat.le_of_ble_eq_true rfl, Nat.le_of_ble_eq_true rfl⟩ rfl rfl (Nat.le_of_ble_eq_true rfl) dX12_rests_32 rfl ?_
        refine v_icmp_gt 38 62 h dX12_rests_35 rfl (by decide) (fun h => ?_) (fun h => ?_)
        · refine v_sub [0, 1, 2, 3, 5] rfl ?_
          exact q_X12_rests_62 σ l1 l2 l3 r (b_X12_rests_6 σ l1 l2 l3 f) ih l5 h
        · refine v_aload_n 39 0 dX12_rests_38 rfl rfl rfl ?_
          refine v_iload_n 40 1 dX12_rests_39 rfl rfl rfl ?_
          refine v_iload 42 5 dX12_rests_40 rfl rfl ?_
          refine v_iload_n 43 2 dX12_rests_42 rfl rfl rfl ?_
          refine v_iconst 44 0 dX12_rests_43 kc_i_0 rfl ?_
          obtain ⟨x4, h0, h⟩ := ob h
          refine v_cV 47 8 [.int l1, .int l5, .int l2, .int 0] (rfl : kK 112 = 8) rfl (c_X12_getsBy l1 l5 l2 0 _ h0) cl_X12_getsBy gX12_rests_X12_getsBy rfl ⟨Nat.le_of_ble_eq_true rfl, Nat.le_of_ble_eq_true rfl⟩ rfl rfl (Nat.le_of_ble_eq_true rfl) dX12_rests_44 rfl ?_
          refine v_aload_n 48 0 dX12_rests_47 rfl rfl rfl ?_
          refine v_iload_n 49 1 dX12_rests_48 rfl rfl rfl ?_
          refine v_iload_n 50 3 dX12_rests_49 rfl rfl rfl ?_
          refine v_iload_n 51 2 dX12_rests_50 rfl rfl rfl ?_
          refine v_iconst 52 0 dX12_rests_51 kc_i_0 rfl ?_
          obtain ⟨x5, h0, h⟩ := ob h
          refine v_cV 55 8 [.int l1, .int l3, .int l2, .int 0] (rfl : kK 112 = 8) rfl (c_X12_getsBy l1 l3 l2 0 _ h0) cl_X12_getsBy gX12_rests_X12_getsBy rfl ⟨Nat.le_of_ble_eq_true rfl, Nat.le_of_ble_eq_true rfl⟩ rfl rfl (Nat.le_of_ble_eq_true rfl) dX12_rests_52 rfl ?_
          refine v_icmp_gt 58 62 h dX12_rests_55 rfl (by decide) (fun h => ?_) (fun h => ?_)
          · refine v_sub [0, 1, 2, 3, 5] rfl ?_
            exact q_X12_rests_62 σ l1 l2 l3 r (b_X12_rests_6 σ l1 l2 l3 f) ih l5 h
          · refine v_iconst 59 1 dX12_rests_58 kc_i_1 rfl ?_
            refine v_goto 63 dX12_rests_59 (by decide) ?_
            refine v_sub [0, 1, 2, 3, 5] rfl ?_
            exact q_X12_rests_63 σ l1 l2 l3 r (b_X12_rests_6 σ l1 l2 l3 f) ih l5 1 (Or.inr rfl) h
set_option maxRecDepth 100000 in
set_option maxHeartbeats 4000000 in
theorem c_X12_rests {g : Cx} {σ : Sg} (l1 : Int32) (l2 : Int32) (l3 : Int32) (r : Int32) (h : f_X12_rests σ l1 l2 l3 = some r) : ∀ l, MetF l yX12_rests wsX12_rests rm_X12_rests g [.ref (g.1 112), .int l1, .int l2, .int l3] σ (some (.int r)) σ := by
  refine MetF.of (own0 := RX12) (lv0 := [(0, .ref (g.1 112)), (1, .int l1), (2, .int l2), (3, .int l3)]) rfl cl_X12_rests (by decide) (Nat.le_of_ble_eq_true rfl) rfl ?_
  unfold f_X12_rests at h
  refine v_iconst 1 1 dX12_rests_0 kc_i_1 rfl ?_
  refine v_istore 3 dX12_rests_1 (by decide) rfl rfl ?_
  refine v_iconst 4 0 dX12_rests_3 kc_i_0 rfl ?_
  refine v_istore 6 dX12_rests_4 (by decide) rfl rfl ?_
  refine v_sub [2, 3, 4, 5, 1, 0] rfl ?_
  exact q_X12_rests_6 σ l1 l2 l3 r FU 1 0 (Or.inr rfl) h
-- public int buyers(int, int);
abbrev rm_X12_buyers : Room := { frames := 4, cells := 0, slots := 0, locals := 96 }
theorem cl_X12_buyers : Cl yX12_buyers wsX12_buyers cX12_buyers 5 (some .int) rm_X12_buyers 2 := ⟨⟨_, rfl⟩, rfl, rfl, by decide +kernel, by decide +kernel, by decide +kernel⟩
theorem in_X12_buyers_8 : ∀ w ∈ wsX120, w ∈ wsX12_buyers := fun w h => List.mem_cons_of_mem _ (List.mem_append_right _ h)
def b_X12_buyers_13 (l1 : Int32) (l2 : Int32) (σ : Sg) : Option (Int32 × Sg) := bnd (f_X12_bad σ (-10)) fun x2 s3 => (some (x2, s3))
def b_X12_buyers_79 (l1 : Int32) (l2 : Int32) (c43 : Sg → Int32 → Int32 → Option (Int32 × Sg)) (σ : Sg) (l3 : Int32) (l4 : Int32) : Option (Int32 × Sg) := nam (l4 + 1) fun x5 => c43 σ l3 x5
def b_X12_buyers_43 (l1 : Int32) (l2 : Int32) : Nat → Sg → Int32 → Int32 → Option (Int32 × Sg)
  | 0, _, _, _ => none
  | f + 1, σ, l3, l4 => (if 100 ≤ l4 then (if l2 = (-1) then (some (l3, σ)) else (some ((-5), σ))) else (f_X12_rests σ l1 (l4 / 10) (l4 - l4 / 10 * 10)).bind fun x4 => (if x4 = 0 then b_X12_buyers_79 l1 l2 (b_X12_buyers_43 l1 l2 f) σ l3 l4 else (if l3 = l2 then (some (l4, σ)) else nam (l3 + 1) fun x6 => b_X12_buyers_79 l1 l2 (b_X12_buyers_43 l1 l2 f) σ x6 l4)))
def f_X12_buyers (σ : Sg) (l1 : Int32) (l2 : Int32) : Option (Int32 × Sg) := (f_X12_isKeeper σ l1).bind fun x1 => (if x1 = 0 then b_X12_buyers_13 l1 l2 σ else (if (-1) ≤ l2 then (if inb 3 (kLen 113) = true then (if (f_X12_has (rI σ 113 (ix 3)) l1) = 0 then b_X12_buyers_43 l1 l2 FU σ 0 0 else bnd (f_X12_no σ) fun x7 s8 => (some (x7, s8))) else none) else b_X12_buyers_13 l1 l2 σ))
set_option maxRecDepth 100000 in
set_option maxHeartbeats 4000000 in
theorem q_X12_buyers_13 {g : Cx} (l1 : Int32) (l2 : Int32) (r : Int32) (τ : Sg) : ∀ σ : Sg, b_X12_buyers_13 l1 l2 σ = some (r, τ) → V g cX12_buyers RX12 wsX12_buyers 5 (some .int) rm_X12_buyers (some (.int r)) τ σ 13 [(0, .ref (g.1 112))] [] := by
  intro σ h
  unfold b_X12_buyers_13 at h
  refine v_aload_n 14 0 dX12_buyers_13 rfl rfl rfl ?_
  refine v_bipush 16 (-10) dX12_buyers_14 kc_b_m10 rfl ?_
  obtain ⟨x2, s3, h0, h⟩ := ob2 h
  refine v_cV 19 8 [.int (-10)] (rfl : kK 112 = 8) rfl (c_X12_bad (-10) _ _ h0) cl_X12_bad gX12_buyers_X12_bad rfl ⟨Nat.le_of_ble_eq_true rfl, Nat.le_of_ble_eq_true rfl⟩ rfl rfl (Nat.le_of_ble_eq_true rfl) dX12_buyers_16 rfl ?_
  exact v_iretS h rfl dX12_buyers_19
set_option maxRecDepth 100000 in
set_option maxHeartbeats 4000000 in
theorem q_X12_buyers_79 {g : Cx} (l1 : Int32) (l2 : Int32) (r : Int32) (τ : Sg) (c43 : Sg → Int32 → Int32 → Option (Int32 × Sg)) (hc43 : ∀ σ : Sg, ∀ l3 : Int32, ∀ l4 : Int32, c43 σ l3 l4 = some (r, τ) → V g cX12_buyers RX12 wsX12_buyers 5 (some .int) rm_X12_buyers (some (.int r)) τ σ 43 [(0, .ref (g.1 112)), (1, .int l1), (2, .int l2), (3, .int l3), (4, .int l4)] []) : ∀ σ : Sg, ∀ l3 : Int32, ∀ l4 : Int32, b_X12_buyers_79 l1 l2 c43 σ l3 l4 = some (r, τ) → V g cX12_buyers RX12 wsX12_buyers 5 (some .int) rm_X12_buyers (some (.int r)) τ σ 79 [(0, .ref (g.1 112)), (1, .int l1), (2, .int l2), (3, .int l3), (4, .int l4)] [] := by
  intro σ l3 l4 h
  unfold b_X12_buyers_79 at h
  refine v_iincN 82 4 h dX12_buyers_79 rfl kc_i_1 (by decide) rfl (fun _ => rfl) (fun x5 h => ?_)
  refine v_goto 43 dX12_buyers_82 (by decide) ?_
  refine v_sub [1, 2, 3, 4, 0] rfl ?_
  exact hc43 σ l3 x5 h
set_option maxRecDepth 100000 in
set_option maxHeartbeats 4000000 in
theorem q_X12_buyers_43 {g : Cx} (l1 : Int32) (l2 : Int32) (r : Int32) (τ : Sg) : ∀ f : Nat, ∀ σ : Sg, ∀ l3 : Int32, ∀ l4 : Int32, b_X12_buyers_43 l1 l2 f σ l3 l4 = some (r, τ) → V g cX12_buyers RX12 wsX12_buyers 5 (some .int) rm_X12_buyers (some (.int r)) τ σ 43 [(0, .ref (g.1 112)), (1, .int l1), (2, .int l2), (3, .int l3), (4, .int l4)] [] := by
  intro f
  induction f with
  | zero =>
    intro σ l3 l4 h
    cases h
  | succ f ih =>
    intro σ l3 l4 h
    rw [b_X12_buyers_43] at h
    refine v_iload 45 4 dX12_buyers_43 rfl rfl ?_
    refine v_bipush 47 100 dX12_buyers_45 kc_b_100 rfl ?_
    refine v_icmp_ge 50 85 h dX12_buyers_47 rfl (by decide) (fun h => ?_) (fun h => ?_)
    · refine v_iload_n 86 2 dX12_buyers_85 rfl rfl rfl ?_
      refine v_iconst 87 (-1) dX12_buyers_86 kc_i_m1 rfl ?_
      refine v_icmp_ne 90 94 h dX12_buyers_87 rfl (by decide) (fun h => ?_) (fun h => ?_)
      · refine v_bipush 96 (-5) dX12_buyers_94 kc_b_m5 rfl ?_
        exact v_iretS h rfl dX12_buyers_96
      · refine v_iload_n 91 3 dX12_buyers_90 rfl rfl rfl ?_
        refine v_goto 96 dX12_buyers_91 (by decide) ?_
        exact v_iretS h rfl dX12_buyers_96
    · refine v_aload_n 51 0 dX12_buyers_50 rfl rfl rfl ?_
      refine v_iload_n 52 1 dX12_buyers_51 rfl rfl rfl ?_
      refine v_iload 54 4 dX12_buyers_52 rfl rfl ?_
      refine v_bipush 56 10 dX12_buyers_54 kc_b_10 rfl ?_
      refine v_idiv 57 kc_ne_10 dX12_buyers_56 rfl ?_
      refine v_iload 59 4 dX12_buyers_57 rfl rfl ?_
      refine v_bipush 61 10 dX12_buyers_59 kc_b_10 rfl ?_
      refine v_irem 62 kc_ne_10 dX12_buyers_61 rfl ?_
      obtain ⟨x4, h0, h⟩ := ob h
      refine v_cV 65 8 [.int l1, .int (l4 / 10), .int (l4 - l4 / 10 * 10)] (rfl : kK 112 = 8) rfl (c_X12_rests l1 (l4 / 10) (l4 - l4 / 10 * 10) _ h0) cl_X12_rests gX12_buyers_X12_rests rfl ⟨Nat.le_of_ble_eq_true rfl, Nat.le_of_ble_eq_true rfl⟩ rfl rfl (Nat.le_of_ble_eq_true rfl) dX12_buyers_62 rfl ?_
      refine v_if_eq 68 79 h dX12_buyers_65 rfl (by decide) (fun h => ?_) (fun h => ?_)
      · refine v_sub [0, 1, 2, 3, 4] rfl ?_
        exact q_X12_buyers_79 l1 l2 r τ (b_X12_buyers_43 l1 l2 f) ih σ l3 l4 h
      · refine v_iload_n 69 3 dX12_buyers_68 rfl rfl rfl ?_
        refine v_iload_n 70 2 dX12_buyers_69 rfl rfl rfl ?_
        refine v_icmp_ne 73 76 h dX12_buyers_70 rfl (by decide) (fun h => ?_) (fun h => ?_)
        · refine v_iincN 79 3 h dX12_buyers_76 rfl kc_i_1 (by decide) rfl (fun _ => rfl) (fun x6 h => ?_)
          refine v_sub [1, 2, 3, 0, 4] rfl ?_
          exact q_X12_buyers_79 l1 l2 r τ (b_X12_buyers_43 l1 l2 f) ih σ x6 l4 h
        · refine v_iload 75 4 dX12_buyers_73 rfl rfl ?_
          exact v_iretS h rfl dX12_buyers_75
set_option maxRecDepth 100000 in
set_option maxHeartbeats 4000000 in
theorem c_X12_buyers {g : Cx} {σ : Sg} (l1 : Int32) (l2 : Int32) (r : Int32) (τ : Sg) (h : f_X12_buyers σ l1 l2 = some (r, τ)) : ∀ l, MetF l yX12_buyers wsX12_buyers rm_X12_buyers g [.ref (g.1 112), .int l1, .int l2] σ (some (.int r)) τ := by
  refine MetF.of (own0 := RX12) (lv0 := [(0, .ref (g.1 112)), (1, .int l1), (2, .int l2)]) rfl cl_X12_buyers (by decide) (Nat.le_of_ble_eq_true rfl) rfl ?_
  unfold f_X12_buyers at h
  refine v_aload_n 1 0 dX12_buyers_0 rfl rfl rfl ?_
  refine v_iload_n 2 1 dX12_buyers_1 rfl rfl rfl ?_
  obtain ⟨x1, h0, h⟩ := ob h
  refine v_cV 5 8 [.int l1] (rfl : kK 112 = 8) rfl (c_X12_isKeeper l1 _ h0) cl_X12_isKeeper gX12_buyers_X12_isKeeper rfl ⟨Nat.le_of_ble_eq_true rfl, Nat.le_of_ble_eq_true rfl⟩ rfl rfl (Nat.le_of_ble_eq_true rfl) dX12_buyers_2 rfl ?_
  refine v_if_eq 8 13 h dX12_buyers_5 rfl (by decide) (fun h => ?_) (fun h => ?_)
  · refine v_sub [0] rfl ?_
    exact q_X12_buyers_13 l1 l2 r τ σ h
  · refine v_iload_n 9 2 dX12_buyers_8 rfl rfl rfl ?_
    refine v_iconst 10 (-1) dX12_buyers_9 kc_i_m1 rfl ?_
    refine v_icmp_ge 13 20 h dX12_buyers_10 rfl (by decide) (fun h => ?_) (fun h => ?_)
    · refine v_aload_n 21 0 dX12_buyers_20 rfl rfl rfl ?_
      refine vg_8_0 24 (rfl : kK 112 = 8) in_X12_buyers_8 (mem_at 1 rfl) dX12_buyers_21 rfl ?_
      refine v_iconst 25 3 dX12_buyers_24 kc_i_3 rfl ?_
      refine v_iald 26 h (rfl : kK 113 = 9) dX12_buyers_25 rfl (fun h => ?_)
      refine v_iload_n 27 1 dX12_buyers_26 rfl rfl rfl ?_
      refine v_cS 30 [.int (rI σ 113 (ix 3)), .int l1] (c_X12_has (rI σ 113 (ix 3)) l1) cl_X12_has gX12_buyers_X12_has ⟨Nat.le_of_ble_eq_true rfl, Nat.le_of_ble_eq_true rfl⟩ rfl rfl (Nat.le_of_ble_eq_true rfl) dX12_buyers_27 rfl ?_
      refine v_if_eq 33 38 h dX12_buyers_30 rfl (by decide) (fun h => ?_) (fun h => ?_)
      · refine v_iconst 39 0 dX12_buyers_38 kc_i_0 rfl ?_
        refine v_istore_n 40 dX12_buyers_39 rfl (by decide) rfl rfl ?_
        refine v_iconst 41 0 dX12_buyers_40 kc_i_0 rfl ?_
        refine v_istore 43 dX12_buyers_41 (by decide) rfl rfl ?_
        refine v_sub [2, 3, 4, 1, 0] rfl ?_
        exact q_X12_buyers_43 l1 l2 r τ FU σ 0 0 h
      · refine v_aload_n 34 0 dX12_buyers_33 rfl rfl rfl ?_
        obtain ⟨x7, s8, h0, h⟩ := ob2 h
        refine v_cV 37 8 [] (rfl : kK 112 = 8) rfl (c_X12_no _ _ h0) cl_X12_no gX12_buyers_X12_no rfl ⟨Nat.le_of_ble_eq_true rfl, Nat.le_of_ble_eq_true rfl⟩ rfl rfl (Nat.le_of_ble_eq_true rfl) dX12_buyers_34 rfl ?_
        exact v_iretS h rfl dX12_buyers_37
    · refine v_sub [0] rfl ?_
      exact q_X12_buyers_13 l1 l2 r τ σ h
-- public int clear();
abbrev rm_X12_clear : Room := { frames := 0, cells := 0, slots := 0, locals := 0 }
theorem cl_X12_clear : Cl yX12_clear wsX12_clear cX12_clear 2 (some .int) rm_X12_clear 0 := ⟨⟨_, rfl⟩, rfl, rfl, by decide +kernel, by decide +kernel, by decide +kernel⟩
theorem in_X12_clear_8 : ∀ w ∈ wsX120, w ∈ wsX12_clear := fun w h => List.mem_cons_of_mem _ (List.mem_append_right _ h)
def f_X12_clear (σ : Sg) : Option (Int32 × Sg) := nam (rI σ 112 3) fun x1 => nam (stI σ 112 3 0) fun s2 => (some (x1, s2))
set_option maxRecDepth 100000 in
set_option maxHeartbeats 4000000 in
theorem c_X12_clear {g : Cx} {σ : Sg} (r : Int32) (τ : Sg) (h : f_X12_clear σ = some (r, τ)) : ∀ l, MetF l yX12_clear wsX12_clear rm_X12_clear g [.ref (g.1 112)] σ (some (.int r)) τ := by
  refine MetF.of (own0 := RX12) (lv0 := [(0, .ref (g.1 112))]) rfl cl_X12_clear (by decide) (Nat.le_of_ble_eq_true rfl) rfl ?_
  unfold f_X12_clear at h
  refine v_aload_n 1 0 dX12_clear_0 rfl rfl rfl ?_
  refine vg_8_3 4 (rfl : kK 112 = 8) in_X12_clear_8 (mem_at 1 rfl) dX12_clear_1 rfl ?_
  refine v_istoreN_n 5 h dX12_clear_4 rfl (by decide) rfl (fun _ => rfl) (fun x1 h => ?_)
  refine v_aload_n 6 1 dX12_clear_5 rfl rfl rfl ?_
  refine v_iconst 7 0 dX12_clear_6 kc_i_0 rfl ?_
  refine vp_8_3 10 h (rfl : kK 112 = 8) in_X12_clear_8 (mem_at 1 rfl) dX12_clear_7 rfl (fun s2 h => ?_)
  refine v_iload_n 11 0 dX12_clear_10 rfl rfl rfl ?_
  exact v_iretS h rfl dX12_clear_11
-- private int codes();
abbrev rm_X12_codes : Room := { frames := 0, cells := 0, slots := 0, locals := 0 }
theorem cl_X12_codes : Cl yX12_codes wsX12_codes cX12_codes 3 (some .int) rm_X12_codes 0 := ⟨⟨_, rfl⟩, rfl, rfl, by decide +kernel, by decide +kernel, by decide +kernel⟩
theorem in_X12_codes_8 : ∀ w ∈ wsX120, w ∈ wsX12_codes := fun w h => List.mem_cons_of_mem _ (List.mem_append_right _ h)
def b_X12_codes_4 (σ : Sg) : Nat → Int32 → Int32 → Option Int32
  | 0, _, _ => none
  | f + 1, l1, l2 => (if inb 0 (kLen 113) = true then (if (rI σ 113 (ix 0)) ≤ l2 then (some (l1)) else nam (l1 * 3) fun x1 => nam (l2 + 1) fun x2 => b_X12_codes_4 σ f x1 x2) else none)
def f_X12_codes (σ : Sg) : Option Int32 := b_X12_codes_4 σ FU 1 0
set_option maxRecDepth 100000 in
set_option maxHeartbeats 4000000 in
theorem q_X12_codes_4 {g : Cx} (σ : Sg) (r : Int32) : ∀ f : Nat, ∀ l1 : Int32, ∀ l2 : Int32, b_X12_codes_4 σ f l1 l2 = some r → V g cX12_codes RX12 wsX12_codes 3 (some .int) rm_X12_codes (some (.int r)) σ σ 4 [(0, .ref (g.1 112)), (1, .int l1), (2, .int l2)] [] := by
  intro f
  induction f with
  | zero =>
    intro l1 l2 h
    cases h
  | succ f ih =>
    intro l1 l2 h
    rw [b_X12_codes_4] at h
    refine v_iload_n 5 2 dX12_codes_4 rfl rfl rfl ?_
    refine v_aload_n 6 0 dX12_codes_5 rfl rfl rfl ?_
    refine vg_8_0 9 (rfl : kK 112 = 8) in_X12_codes_8 (mem_at 1 rfl) dX12_codes_6 rfl ?_
    refine v_iconst 10 0 dX12_codes_9 kc_i_0 rfl ?_
    refine v_iald 11 h (rfl : kK 113 = 9) dX12_codes_10 rfl (fun h => ?_)
    refine v_icmp_ge 14 24 h dX12_codes_11 rfl (by decide) (fun h => ?_) (fun h => ?_)
    · refine v_iload_n 25 1 dX12_codes_24 rfl rfl rfl ?_
      exact v_iretP h rfl dX12_codes_25
    · refine v_iload_n 15 1 dX12_codes_14 rfl rfl rfl ?_
      refine v_iconst 16 3 dX12_codes_15 kc_i_3 rfl ?_
      refine v_imul 17 dX12_codes_16 rfl ?_
      refine v_istoreN_n 18 h dX12_codes_17 rfl (by decide) rfl (fun _ => rfl) (fun x1 h => ?_)
      refine v_iincN 21 2 h dX12_codes_18 rfl kc_i_1 (by decide) rfl (fun _ => rfl) (fun x2 h => ?_)
      refine v_goto 4 dX12_codes_21 (by decide) ?_
      refine v_sub [2, 1, 0] rfl ?_
      exact ih x1 x2 h
set_option maxRecDepth 100000 in
set_option maxHeartbeats 4000000 in
theorem c_X12_codes {g : Cx} {σ : Sg} (r : Int32) (h : f_X12_codes σ = some r) : ∀ l, MetF l yX12_codes wsX12_codes rm_X12_codes g [.ref (g.1 112)] σ (some (.int r)) σ := by
  refine MetF.of (own0 := RX12) (lv0 := [(0, .ref (g.1 112))]) rfl cl_X12_codes (by decide) (Nat.le_of_ble_eq_true rfl) rfl ?_
  unfold f_X12_codes at h
  refine v_iconst 1 1 dX12_codes_0 kc_i_1 rfl ?_
  refine v_istore_n 2 dX12_codes_1 rfl (by decide) rfl rfl ?_
  refine v_iconst 3 0 dX12_codes_2 kc_i_0 rfl ?_
  refine v_istore_n 4 dX12_codes_3 rfl (by decide) rfl rfl ?_
  refine v_sub [2, 1, 0] rfl ?_
  exact q_X12_codes_4 σ r FU 1 0 h
-- private void copy(int, int);
abbrev rm_X12_copy : Room := { frames := 0, cells := 0, slots := 0, locals := 0 }
theorem cl_X12_copy : Cl yX12_copy wsX12_copy cX12_copy 4 none rm_X12_copy 2 := ⟨⟨_, rfl⟩, rfl, rfl, by decide +kernel, by decide +kernel, by decide +kernel⟩
theorem in_X12_copy_8 : ∀ w ∈ wsX120, w ∈ wsX12_copy := fun w h => List.mem_cons_of_mem _ (List.mem_append_right _ h)
def b_X12_copy_2 (l1 : Int32) (l2 : Int32) : Nat → Sg → Int32 → Option Sg
  | 0, _, _ => none
  | f + 1, σ, l3 => (if 241 ≤ l3 then (some σ) else (if inb (l1 + l3) (kLen 113) = true then (if inb (l2 + l3) (kLen 113) = true then nam (stI σ 113 (ix (l2 + l3)) (rI σ 113 (ix (l1 + l3)))) (fun s1 => nam (l3 + 1) fun x2 => b_X12_copy_2 l1 l2 f s1 x2) else none) else none))
def f_X12_copy (σ : Sg) (l1 : Int32) (l2 : Int32) : Option Sg := b_X12_copy_2 l1 l2 FU σ 0
set_option maxRecDepth 100000 in
set_option maxHeartbeats 4000000 in
theorem q_X12_copy_2 {g : Cx} (l1 : Int32) (l2 : Int32) (τ : Sg) : ∀ f : Nat, ∀ σ : Sg, ∀ l3 : Int32, b_X12_copy_2 l1 l2 f σ l3 = some τ → V g cX12_copy RX12 wsX12_copy 4 none rm_X12_copy none τ σ 2 [(0, .ref (g.1 112)), (1, .int l1), (2, .int l2), (3, .int l3)] [] := by
  intro f
  induction f with
  | zero =>
    intro σ l3 h
    cases h
  | succ f ih =>
    intro σ l3 h
    rw [b_X12_copy_2] at h
    refine v_iload_n 3 3 dX12_copy_2 rfl rfl rfl ?_
    refine v_sipush 6 241 dX12_copy_3 kc_s_241 rfl ?_
    refine v_icmp_ge 9 31 h dX12_copy_6 rfl (by decide) (fun h => ?_) (fun h => ?_)
    · exact v_vretS h rfl dX12_copy_31
    · refine v_aload_n 10 0 dX12_copy_9 rfl rfl rfl ?_
      refine vg_8_0 13 (rfl : kK 112 = 8) in_X12_copy_8 (mem_at 1 rfl) dX12_copy_10 rfl ?_
      refine v_iload_n 14 2 dX12_copy_13 rfl rfl rfl ?_
      refine v_iload_n 15 3 dX12_copy_14 rfl rfl rfl ?_
      refine v_iadd 16 dX12_copy_15 rfl ?_
      refine v_aload_n 17 0 dX12_copy_16 rfl rfl rfl ?_
      refine vg_8_0 20 (rfl : kK 112 = 8) in_X12_copy_8 (mem_at 1 rfl) dX12_copy_17 rfl ?_
      refine v_iload_n 21 1 dX12_copy_20 rfl rfl rfl ?_
      refine v_iload_n 22 3 dX12_copy_21 rfl rfl rfl ?_
      refine v_iadd 23 dX12_copy_22 rfl ?_
      refine v_iald 24 h (rfl : kK 113 = 9) dX12_copy_23 rfl (fun h => ?_)
      refine v_iast 25 h (rfl : kK 113 = 9) dX12_copy_24 rfl (fun s1 h => ?_)
      refine v_iincN 28 3 h dX12_copy_25 rfl kc_i_1 (by decide) rfl (fun _ => rfl) (fun x2 h => ?_)
      refine v_goto 2 dX12_copy_28 (by decide) ?_
      refine v_sub [1, 2, 3, 0] rfl ?_
      exact ih s1 x2 h
set_option maxRecDepth 100000 in
set_option maxHeartbeats 4000000 in
theorem c_X12_copy {g : Cx} {σ : Sg} (l1 : Int32) (l2 : Int32) (τ : Sg) (h : f_X12_copy σ l1 l2 = some τ) : ∀ l, MetF l yX12_copy wsX12_copy rm_X12_copy g [.ref (g.1 112), .int l1, .int l2] σ none τ := by
  refine MetF.of (own0 := RX12) (lv0 := [(0, .ref (g.1 112)), (1, .int l1), (2, .int l2)]) rfl cl_X12_copy (by decide) (Nat.le_of_ble_eq_true rfl) rfl ?_
  unfold f_X12_copy at h
  refine v_iconst 1 0 dX12_copy_0 kc_i_0 rfl ?_
  refine v_istore_n 2 dX12_copy_1 rfl (by decide) rfl rfl ?_
  refine v_sub [1, 2, 3, 0] rfl ?_
  exact q_X12_copy_2 l1 l2 τ FU σ 0 h
-- private static int ones(int);
abbrev rm_X12_ones : Room := { frames := 0, cells := 0, slots := 0, locals := 0 }
theorem cl_X12_ones : Cl yX12_ones wsX12_ones cX12_ones 3 (some .int) rm_X12_ones 1 := ⟨⟨_, rfl⟩, rfl, rfl, by decide +kernel, by decide +kernel, by decide +kernel⟩
def b_X12_ones_4 (l0 : Int32) : Nat → Int32 → Int32 → Option Int32
  | 0, _, _ => none
  | f + 1, l1, l2 => (if 7 ≤ l2 then (some (l1)) else nam (l1 + ((l0 >>> (l2 &&& 31)) &&& 1)) fun x1 => nam (l2 + 1) fun x2 => b_X12_ones_4 l0 f x1 x2)
def f_X12_ones (l0 : Int32) : Option Int32 := b_X12_ones_4 l0 FU 0 0
set_option maxRecDepth 100000 in
set_option maxHeartbeats 4000000 in
theorem q_X12_ones_4 {g : Cx} {σ : Sg} (l0 : Int32) (r : Int32) : ∀ f : Nat, ∀ l1 : Int32, ∀ l2 : Int32, b_X12_ones_4 l0 f l1 l2 = some r → V g cX12_ones RX12 wsX12_ones 3 (some .int) rm_X12_ones (some (.int r)) σ σ 4 [(0, .int l0), (1, .int l1), (2, .int l2)] [] := by
  intro f
  induction f with
  | zero =>
    intro l1 l2 h
    cases h
  | succ f ih =>
    intro l1 l2 h
    rw [b_X12_ones_4] at h
    refine v_iload_n 5 2 dX12_ones_4 rfl rfl rfl ?_
    refine v_bipush 7 7 dX12_ones_5 kc_b_7 rfl ?_
    refine v_icmp_ge 10 24 h dX12_ones_7 rfl (by decide) (fun h => ?_) (fun h => ?_)
    · refine v_iload_n 25 1 dX12_ones_24 rfl rfl rfl ?_
      exact v_iretP h rfl dX12_ones_25
    · refine v_iload_n 11 1 dX12_ones_10 rfl rfl rfl ?_
      refine v_iload_n 12 0 dX12_ones_11 rfl rfl rfl ?_
      refine v_iload_n 13 2 dX12_ones_12 rfl rfl rfl ?_
      refine v_ishr 14 dX12_ones_13 rfl ?_
      refine v_iconst 15 1 dX12_ones_14 kc_i_1 rfl ?_
      refine v_iand 16 dX12_ones_15 rfl ?_
      refine v_iadd 17 dX12_ones_16 rfl ?_
      refine v_istoreN_n 18 h dX12_ones_17 rfl (by decide) rfl (fun _ => rfl) (fun x1 h => ?_)
      refine v_iincN 21 2 h dX12_ones_18 rfl kc_i_1 (by decide) rfl (fun _ => rfl) (fun x2 h => ?_)
      refine v_goto 4 dX12_ones_21 (by decide) ?_
      refine v_sub [2, 1, 0] rfl ?_
      exact ih x1 x2 h
set_option maxRecDepth 100000 in
set_option maxHeartbeats 4000000 in
theorem c_X12_ones {g : Cx} {σ : Sg} (l0 : Int32) (r : Int32) (h : f_X12_ones l0 = some r) : ∀ l, MetF l yX12_ones wsX12_ones rm_X12_ones g [.int l0] σ (some (.int r)) σ := by
  refine MetF.of (own0 := RX12) (lv0 := [(0, .int l0)]) rfl cl_X12_ones (by decide) (Nat.le_of_ble_eq_true rfl) rfl ?_
  unfold f_X12_ones at h
  refine v_iconst 1 0 dX12_ones_0 kc_i_0 rfl ?_
  refine v_istore_n 2 dX12_ones_1 rfl (by decide) rfl rfl ?_
  refine v_iconst 3 0 dX12_ones_2 kc_i_0 rfl ?_
  refine v_istore_n 4 dX12_ones_3 rfl (by decide) rfl rfl ?_
  refine v_sub [2, 1, 0] rfl ?_
  exact q_X12_ones_4 l0 r FU 0 0 h
-- private int countOf(int);
abbrev rm_X12_countOf : Room := { frames := 1, cells := 0, slots := 0, locals := 22 }
theorem cl_X12_countOf : Cl yX12_countOf wsX12_countOf cX12_countOf 2 (some .int) rm_X12_countOf 1 := ⟨⟨_, rfl⟩, rfl, rfl, by decide +kernel, by decide +kernel, by decide +kernel⟩
theorem in_X12_countOf_8 : ∀ w ∈ wsX120, w ∈ wsX12_countOf := fun w h => List.mem_cons_of_mem _ (List.mem_append_right _ h)
def f_X12_countOf (σ : Sg) (l1 : Int32) : Option Int32 := (if l1 = 0 then (if inb 0 (kLen 113) = true then (some (rI σ 113 (ix 0))) else none) else (if l1 = 1 then (if inb 1 (kLen 113) = true then (some (rI σ 113 (ix 1))) else none) else (if l1 = 2 then (if inb 2 (kLen 113) = true then (some (rI σ 113 (ix 2))) else none) else (if l1 = 3 then (if inb 3 (kLen 113) = true then (f_X12_ones (rI σ 113 (ix 3))).bind fun x1 => (some (x1)) else none) else (if l1 = 4 then (f_X12_allStones σ).bind fun x2 => (some (x2)) else (if l1 = 5 then (if inb 43 (kLen 113) = true then (some (rI σ 113 (ix 43))) else none) else (if l1 = 6 then (if inb 62 (kLen 113) = true then (some (rI σ 113 (ix 62))) else none) else (if l1 = 7 then (if inb 87 (kLen 113) = true then (some (rI σ 113 (ix 87))) else none) else (if l1 = 8 then (if inb 112 (kLen 113) = true then (some (rI σ 113 (ix 112))) else none) else (some (rI σ 112 3)))))))))))
set_option maxRecDepth 100000 in
set_option maxHeartbeats 4000000 in
theorem c_X12_countOf {g : Cx} {σ : Sg} (l1 : Int32) (r : Int32) (h : f_X12_countOf σ l1 = some r) : ∀ l, MetF l yX12_countOf wsX12_countOf rm_X12_countOf g [.ref (g.1 112), .int l1] σ (some (.int r)) σ := by
  refine MetF.of (own0 := RX12) (lv0 := [(0, .ref (g.1 112)), (1, .int l1)]) rfl cl_X12_countOf (by decide) (Nat.le_of_ble_eq_true rfl) rfl ?_
  unfold f_X12_countOf at h
  refine v_iload_n 1 1 dX12_countOf_0 rfl rfl rfl ?_
  refine v_ite h (fun q h => ?_) (fun q0 h => ?_)
  · refine v_tabInZ 52 0 dX12_countOf_1 (ti_of q kc_ti_0) (by decide) (by decide) rfl (by decide) ?_
    refine v_aload_n 53 0 dX12_countOf_52 rfl rfl rfl ?_
    refine vg_8_0 56 (rfl : kK 112 = 8) in_X12_countOf_8 (mem_at 1 rfl) dX12_countOf_53 rfl ?_
    refine v_iconst 57 0 dX12_countOf_56 kc_i_0 rfl ?_
    refine v_iald 58 h (rfl : kK 113 = 9) dX12_countOf_57 rfl (fun h => ?_)
    exact v_iretP h rfl dX12_countOf_58
  refine v_ite h (fun q h => ?_) (fun q1 h => ?_)
  · refine v_tabInZ 59 1 dX12_countOf_1 (ti_of q kc_ti_1) (by decide) (by decide) rfl (by decide) ?_
    refine v_aload_n 60 0 dX12_countOf_59 rfl rfl rfl ?_
    refine vg_8_0 63 (rfl : kK 112 = 8) in_X12_countOf_8 (mem_at 1 rfl) dX12_countOf_60 rfl ?_
    refine v_iconst 64 1 dX12_countOf_63 kc_i_1 rfl ?_
    refine v_iald 65 h (rfl : kK 113 = 9) dX12_countOf_64 rfl (fun h => ?_)
    exact v_iretP h rfl dX12_countOf_65
  refine v_ite h (fun q h => ?_) (fun q2 h => ?_)
  · refine v_tabInZ 66 2 dX12_countOf_1 (ti_of q kc_ti_2) (by decide) (by decide) rfl (by decide) ?_
    refine v_aload_n 67 0 dX12_countOf_66 rfl rfl rfl ?_
    refine vg_8_0 70 (rfl : kK 112 = 8) in_X12_countOf_8 (mem_at 1 rfl) dX12_countOf_67 rfl ?_
    refine v_iconst 71 2 dX12_countOf_70 kc_i_2 rfl ?_
    refine v_iald 72 h (rfl : kK 113 = 9) dX12_countOf_71 rfl (fun h => ?_)
    exact v_iretP h rfl dX12_countOf_72
  refine v_ite h (fun q h => ?_) (fun q3 h => ?_)
  · refine v_tabInZ 73 3 dX12_countOf_1 (ti_of q kc_ti_3) (by decide) (by decide) rfl (by decide) ?_
    refine v_aload_n 74 0 dX12_countOf_73 rfl rfl rfl ?_
    refine vg_8_0 77 (rfl : kK 112 = 8) in_X12_countOf_8 (mem_at 1 rfl) dX12_countOf_74 rfl ?_
    refine v_iconst 78 3 dX12_countOf_77 kc_i_3 rfl ?_
    refine v_iald 79 h (rfl : kK 113 = 9) dX12_countOf_78 rfl (fun h => ?_)
    obtain ⟨x1, h0, h⟩ := ob h
    refine v_cS 82 [.int (rI σ 113 (ix 3))] (c_X12_ones (rI σ 113 (ix 3)) _ h0) cl_X12_ones gX12_countOf_X12_ones ⟨Nat.le_of_ble_eq_true rfl, Nat.le_of_ble_eq_true rfl⟩ rfl rfl (Nat.le_of_ble_eq_true rfl) dX12_countOf_79 rfl ?_
    exact v_iretP h rfl dX12_countOf_82
  refine v_ite h (fun q h => ?_) (fun q4 h => ?_)
  · refine v_tabInZ 83 4 dX12_countOf_1 (ti_of q kc_ti_4) (by decide) (by decide) rfl (by decide) ?_
    refine v_aload_n 84 0 dX12_countOf_83 rfl rfl rfl ?_
    obtain ⟨x2, h0, h⟩ := ob h
    refine v_cV 87 8 [] (rfl : kK 112 = 8) rfl (c_X12_allStones _ h0) cl_X12_allStones gX12_countOf_X12_allStones rfl ⟨Nat.le_of_ble_eq_true rfl, Nat.le_of_ble_eq_true rfl⟩ rfl rfl (Nat.le_of_ble_eq_true rfl) dX12_countOf_84 rfl ?_
    exact v_iretP h rfl dX12_countOf_87
  refine v_ite h (fun q h => ?_) (fun q5 h => ?_)
  · refine v_tabInZ 88 5 dX12_countOf_1 (ti_of q kc_ti_5) (by decide) (by decide) rfl (by decide) ?_
    refine v_aload_n 89 0 dX12_countOf_88 rfl rfl rfl ?_
    refine vg_8_0 92 (rfl : kK 112 = 8) in_X12_countOf_8 (mem_at 1 rfl) dX12_countOf_89 rfl ?_
    refine v_bipush 94 43 dX12_countOf_92 kc_b_43 rfl ?_
    refine v_iald 95 h (rfl : kK 113 = 9) dX12_countOf_94 rfl (fun h => ?_)
    exact v_iretP h rfl dX12_countOf_95
  refine v_ite h (fun q h => ?_) (fun q6 h => ?_)
  · refine v_tabInZ 96 6 dX12_countOf_1 (ti_of q kc_ti_6) (by decide) (by decide) rfl (by decide) ?_
    refine v_aload_n 97 0 dX12_countOf_96 rfl rfl rfl ?_
    refine vg_8_0 100 (rfl : kK 112 = 8) in_X12_countOf_8 (mem_at 1 rfl) dX12_countOf_97 rfl ?_
    refine v_bipush 102 62 dX12_countOf_100 kc_b_62 rfl ?_
    refine v_iald 103 h (rfl : kK 113 = 9) dX12_countOf_102 rfl (fun h => ?_)
    exact v_iretP h rfl dX12_countOf_103
  refine v_ite h (fun q h => ?_) (fun q7 h => ?_)
  · refine v_tabInZ 104 7 dX12_countOf_1 (ti_of q kc_ti_7) (by decide) (by decide) rfl (by decide) ?_
    refine v_aload_n 105 0 dX12_countOf_104 rfl rfl rfl ?_
    refine vg_8_0 108 (rfl : kK 112 = 8) in_X12_countOf_8 (mem_at 1 rfl) dX12_countOf_105 rfl ?_
    refine v_bipush 110 87 dX12_countOf_108 kc_b_87 rfl ?_
    refine v_iald 111 h (rfl : kK 113 = 9) dX12_countOf_110 rfl (fun h => ?_)
    exact v_iretP h rfl dX12_countOf_111
  refine v_ite h (fun q h => ?_) (fun q8 h => ?_)
  · refine v_tabInZ 112 8 dX12_countOf_1 (ti_of q kc_ti_8) (by decide) (by decide) rfl (by decide) ?_
    refine v_aload_n 113 0 dX12_countOf_112 rfl rfl rfl ?_
    refine vg_8_0 116 (rfl : kK 112 = 8) in_X12_countOf_8 (mem_at 1 rfl) dX12_countOf_113 rfl ?_
    refine v_bipush 118 112 dX12_countOf_116 kc_b_112 rfl ?_
    refine v_iald 119 h (rfl : kK 113 = 9) dX12_countOf_118 rfl (fun h => ?_)
    exact v_iretP h rfl dX12_countOf_119
  have a0 := ne_lit q0 kc_ti_0
  have a1 := ne_lit q1 kc_ti_1
  have a2 := ne_lit q2 kc_ti_2
  have a3 := ne_lit q3 kc_ti_3
  have a4 := ne_lit q4 kc_ti_4
  have a5 := ne_lit q5 kc_ti_5
  have a6 := ne_lit q6 kc_ti_6
  have a7 := ne_lit q7 kc_ti_7
  have a8 := ne_lit q8 kc_ti_8
  refine v_tabOut 120 dX12_countOf_1 (by omega) (by decide) ?_
  refine v_aload_n 121 0 dX12_countOf_120 rfl rfl rfl ?_
  refine vg_8_3 124 (rfl : kK 112 = 8) in_X12_countOf_8 (mem_at 2 rfl) dX12_countOf_121 rfl ?_
  exact v_iretP h rfl dX12_countOf_124
-- public int count(int);
abbrev rm_X12_count : Room := { frames := 2, cells := 0, slots := 0, locals := 43 }
theorem cl_X12_count : Cl yX12_count wsX12_count cX12_count 2 (some .int) rm_X12_count 1 := ⟨⟨_, rfl⟩, rfl, rfl, by decide +kernel, by decide +kernel, by decide +kernel⟩
def f_X12_count (σ : Sg) (l1 : Int32) : Option (Int32 × Sg) := (if (f_X12_in (Int32.toInt64 l1) 0 9) = 0 then bnd (f_X12_bad σ (-2)) fun x1 s2 => (some (x1, s2)) else (f_X12_countOf σ l1).bind fun x3 => (some (x3, σ)))
set_option maxRecDepth 100000 in
set_option maxHeartbeats 4000000 in
theorem c_X12_count {g : Cx} {σ : Sg} (l1 : Int32) (r : Int32) (τ : Sg) (h : f_X12_count σ l1 = some (r, τ)) : ∀ l, MetF l yX12_count wsX12_count rm_X12_count g [.ref (g.1 112), .int l1] σ (some (.int r)) τ := by
  refine MetF.of (own0 := RX12) (lv0 := [(0, .ref (g.1 112)), (1, .int l1)]) rfl cl_X12_count (by decide) (Nat.le_of_ble_eq_true rfl) rfl ?_
  unfold f_X12_count at h
  refine v_iload_n 1 1 dX12_count_0 rfl rfl rfl ?_
  refine v_i2l 2 dX12_count_1 rfl ?_
  refine v_lconst 3 0 dX12_count_2 kc_l_0 rfl ?_
  refine v_ldc2 6 9 dX12_count_3 (mem_at 1 rfl) rfl ?_
  refine v_cS 9 [.long (Int32.toInt64 l1), .long 0, .long 9] (c_X12_in (Int32.toInt64 l1) 0 9) cl_X12_in gX12_count_X12_in ⟨Nat.le_of_ble_eq_true rfl, Nat.le_of_ble_eq_true rfl⟩ rfl rfl (Nat.le_of_ble_eq_true rfl) dX12_count_6 rfl ?_
  refine v_if_eq 12 20 h dX12_count_9 rfl (by decide) (fun h => ?_) (fun h => ?_)
  · refine v_aload_n 21 0 dX12_count_20 rfl rfl rfl ?_
    refine v_bipush 23 (-2) dX12_count_21 kc_b_m2 rfl ?_
    obtain ⟨x1, s2, h0, h⟩ := ob2 h
    refine v_cV 26 8 [.int (-2)] (rfl : kK 112 = 8) rfl (c_X12_bad (-2) _ _ h0) cl_X12_bad gX12_count_X12_bad rfl ⟨Nat.le_of_ble_eq_true rfl, Nat.le_of_ble_eq_true rfl⟩ rfl rfl (Nat.le_of_ble_eq_true rfl) dX12_count_23 rfl ?_
    exact v_iretS h rfl dX12_count_26
  · refine v_aload_n 13 0 dX12_count_12 rfl rfl rfl ?_
    refine v_iload_n 14 1 dX12_count_13 rfl rfl rfl ?_
    obtain ⟨x3, h0, h⟩ := ob h
    refine v_cV 17 8 [.int l1] (rfl : kK 112 = 8) rfl (c_X12_countOf l1 _ h0) cl_X12_countOf gX12_count_X12_countOf rfl ⟨Nat.le_of_ble_eq_true rfl, Nat.le_of_ble_eq_true rfl⟩ rfl rfl (Nat.le_of_ble_eq_true rfl) dX12_count_14 rfl ?_
    refine v_goto 26 dX12_count_17 (by decide) ?_
    exact v_iretS h rfl dX12_count_26
-- private void minds();
abbrev rm_X12_minds : Room := { frames := 0, cells := 0, slots := 0, locals := 0 }
theorem cl_X12_minds : Cl yX12_minds wsX12_minds cX12_minds 3 none rm_X12_minds 0 := ⟨⟨_, rfl⟩, rfl, rfl, by decide +kernel, by decide +kernel, by decide +kernel⟩
theorem in_X12_minds_8 : ∀ w ∈ wsX120, w ∈ wsX12_minds := fun w h => List.mem_cons_of_mem _ (List.mem_append_right _ h)
def b_X12_minds_74 : Nat → Sg → Int32 → Int32 → Option Sg
  | 0, _, _, _ => none
  | f + 1, σ, l1, l2 => (if 7 ≤ l2 then (if inb 3 (kLen 113) = true then (if inb (l1 + 14) (kLen 113) = true then nam (stI σ 113 (ix (l1 + 14)) (rI σ 113 (ix 3))) (fun s2 => (if inb 2 (kLen 113) = true then (if inb (l1 + 15) (kLen 113) = true then nam (stI s2 113 (ix (l1 + 15)) (rI s2 113 (ix 2))) (fun s3 => (if inb 112 (kLen 113) = true then (if inb 112 (kLen 113) = true then nam (stI s3 113 (ix 112) ((rI s3 113 (ix 112)) + 1)) (fun s4 => (some s4)) else none) else none)) else none) else none)) else none) else none) else (if inb (18 + l2) (kLen 113) = true then (if inb (l1 + l2) (kLen 113) = true then nam (stI σ 113 (ix (l1 + l2)) (rI σ 113 (ix (18 + l2)))) (fun s5 => (if inb (32 + l2) (kLen 113) = true then (if inb ((l1 + 7) + l2) (kLen 113) = true then nam (stI s5 113 (ix ((l1 + 7) + l2)) (rI s5 113 (ix (32 + l2)))) (fun s6 => nam (l2 + 1) fun x7 => b_X12_minds_74 f s6 l1 x7) else none) else none)) else none) else none))
def b_X12_minds_58 (σ : Sg) : Option Sg := (if inb 112 (kLen 113) = true then nam (113 + (16 * (rI σ 113 (ix 112)))) fun x1 => b_X12_minds_74 FU σ x1 0 else none)
def b_X12_minds_14 : Nat → Sg → Int32 → Option Sg
  | 0, _, _ => none
  | f + 1, σ, l1 => (if 112 ≤ l1 then (if inb 112 (kLen 113) = true then (if inb 112 (kLen 113) = true then nam (stI σ 113 (ix 112) ((rI σ 113 (ix 112)) - 1)) (fun s8 => b_X12_minds_58 s8) else none) else none) else (if inb ((113 + l1) + 16) (kLen 113) = true then (if inb (113 + l1) (kLen 113) = true then nam (stI σ 113 (ix (113 + l1)) (rI σ 113 (ix ((113 + l1) + 16)))) (fun s9 => nam (l1 + 1) fun x10 => b_X12_minds_14 f s9 x10) else none) else none))
def f_X12_minds (σ : Sg) : Option Sg := (if inb 112 (kLen 113) = true then (if (rI σ 113 (ix 112)) = 8 then b_X12_minds_14 FU σ 0 else b_X12_minds_58 σ) else none)
set_option maxRecDepth 100000 in
set_option maxHeartbeats 4000000 in
theorem q_X12_minds_74 {g : Cx} (τ : Sg) : ∀ f : Nat, ∀ σ : Sg, ∀ l1 : Int32, ∀ l2 : Int32, b_X12_minds_74 f σ l1 l2 = some τ → V g cX12_minds RX12 wsX12_minds 3 none rm_X12_minds none τ σ 74 [(0, .ref (g.1 112)), (1, .int l1), (2, .int l2)] [] := by
  intro f
  induction f with
  | zero =>
    intro σ l1 l2 h
    cases h
  | succ f ih =>
    intro σ l1 l2 h
    rw [b_X12_minds_74] at h
    refine v_iload_n 75 2 dX12_minds_74 rfl rfl rfl ?_
    refine v_bipush 77 7 dX12_minds_75 kc_b_7 rfl ?_
    refine v_icmp_ge 80 123 h dX12_minds_77 rfl (by decide) (fun h => ?_) (fun h => ?_)
    · refine v_aload_n 124 0 dX12_minds_123 rfl rfl rfl ?_
      refine vg_8_0 127 (rfl : kK 112 = 8) in_X12_minds_8 (mem_at 1 rfl) dX12_minds_124 rfl ?_
      refine v_iload_n 128 1 dX12_minds_127 rfl rfl rfl ?_
      refine v_bipush 130 14 dX12_minds_128 kc_b_14 rfl ?_
      refine v_iadd 131 dX12_minds_130 rfl ?_
      refine v_aload_n 132 0 dX12_minds_131 rfl rfl rfl ?_
      refine vg_8_0 135 (rfl : kK 112 = 8) in_X12_minds_8 (mem_at 1 rfl) dX12_minds_132 rfl ?_
      refine v_iconst 136 3 dX12_minds_135 kc_i_3 rfl ?_
      refine v_iald 137 h (rfl : kK 113 = 9) dX12_minds_136 rfl (fun h => ?_)
      refine v_iast 138 h (rfl : kK 113 = 9) dX12_minds_137 rfl (fun s2 h => ?_)
      refine v_aload_n 139 0 dX12_minds_138 rfl rfl rfl ?_
      refine vg_8_0 142 (rfl : kK 112 = 8) in_X12_minds_8 (mem_at 1 rfl) dX12_minds_139 rfl ?_
      refine v_iload_n 143 1 dX12_minds_142 rfl rfl rfl ?_
      refine v_bipush 145 15 dX12_minds_143 kc_b_15 rfl ?_
      refine v_iadd 146 dX12_minds_145 rfl ?_
      refine v_aload_n 147 0 dX12_minds_146 rfl rfl rfl ?_
      refine vg_8_0 150 (rfl : kK 112 = 8) in_X12_minds_8 (mem_at 1 rfl) dX12_minds_147 rfl ?_
      refine v_iconst 151 2 dX12_minds_150 kc_i_2 rfl ?_
      refine v_iald 152 h (rfl : kK 113 = 9) dX12_minds_151 rfl (fun h => ?_)
      refine v_iast 153 h (rfl : kK 113 = 9) dX12_minds_152 rfl (fun s3 h => ?_)
      refine v_aload_n 154 0 dX12_minds_153 rfl rfl rfl ?_
      refine vg_8_0 157 (rfl : kK 112 = 8) in_X12_minds_8 (mem_at 1 rfl) dX12_minds_154 rfl ?_
      refine v_bipush 159 112 dX12_minds_157 kc_b_112 rfl ?_
      refine v_dup2 160 dX12_minds_159 rfl rfl rfl ?_
      refine v_iald 161 h (rfl : kK 113 = 9) dX12_minds_160 rfl (fun h => ?_)
      refine v_iconst 162 1 dX12_minds_161 kc_i_1 rfl ?_
      refine v_iadd 163 dX12_minds_162 rfl ?_
      refine v_iast 164 h (rfl : kK 113 = 9) dX12_minds_163 rfl (fun s4 h => ?_)
      exact v_vretS h rfl dX12_minds_164
    · refine v_aload_n 81 0 dX12_minds_80 rfl rfl rfl ?_
      refine vg_8_0 84 (rfl : kK 112 = 8) in_X12_minds_8 (mem_at 1 rfl) dX12_minds_81 rfl ?_
      refine v_iload_n 85 1 dX12_minds_84 rfl rfl rfl ?_
      refine v_iload_n 86 2 dX12_minds_85 rfl rfl rfl ?_
      refine v_iadd 87 dX12_minds_86 rfl ?_
      refine v_aload_n 88 0 dX12_minds_87 rfl rfl rfl ?_
      refine vg_8_0 91 (rfl : kK 112 = 8) in_X12_minds_8 (mem_at 1 rfl) dX12_minds_88 rfl ?_
      refine v_bipush 93 18 dX12_minds_91 kc_b_18 rfl ?_
      refine v_iload_n 94 2 dX12_minds_93 rfl rfl rfl ?_
      refine v_iadd 95 dX12_minds_94 rfl ?_
      refine v_iald 96 h (rfl : kK 113 = 9) dX12_minds_95 rfl (fun h => ?_)
      refine v_iast 97 h (rfl : kK 113 = 9) dX12_minds_96 rfl (fun s5 h => ?_)
      refine v_aload_n 98 0 dX12_minds_97 rfl rfl rfl ?_
      refine vg_8_0 101 (rfl : kK 112 = 8) in_X12_minds_8 (mem_at 1 rfl) dX12_minds_98 rfl ?_
      refine v_iload_n 102 1 dX12_minds_101 rfl rfl rfl ?_
      refine v_bipush 104 7 dX12_minds_102 kc_b_7 rfl ?_
      refine v_iadd 105 dX12_minds_104 rfl ?_
      refine v_iload_n 106 2 dX12_minds_105 rfl rfl rfl ?_
      refine v_iadd 107 dX12_minds_106 rfl ?_
      refine v_aload_n 108 0 dX12_minds_107 rfl rfl rfl ?_
      refine vg_8_0 111 (rfl : kK 112 = 8) in_X12_minds_8 (mem_at 1 rfl) dX12_minds_108 rfl ?_
      refine v_bipush 113 32 dX12_minds_111 kc_b_32 rfl ?_
      refine v_iload_n 114 2 dX12_minds_113 rfl rfl rfl ?_
      refine v_iadd 115 dX12_minds_114 rfl ?_
      refine v_iald 116 h (rfl : kK 113 = 9) dX12_minds_115 rfl (fun h => ?_)
      refine v_iast 117 h (rfl : kK 113 = 9) dX12_minds_116 rfl (fun s6 h => ?_)
      refine v_iincN 120 2 h dX12_minds_117 rfl kc_i_1 (by decide) rfl (fun _ => rfl) (fun x7 h => ?_)
      refine v_goto 74 dX12_minds_120 (by decide) ?_
      refine v_sub [1, 2, 0] rfl ?_
      exact ih s6 l1 x7 h
set_option maxRecDepth 100000 in
set_option maxHeartbeats 4000000 in
theorem q_X12_minds_58 {g : Cx} (τ : Sg) : ∀ σ : Sg, b_X12_minds_58 σ = some τ → V g cX12_minds RX12 wsX12_minds 3 none rm_X12_minds none τ σ 58 [(0, .ref (g.1 112))] [] := by
  intro σ h
  unfold b_X12_minds_58 at h
  refine v_bipush 60 113 dX12_minds_58 kc_b_113 rfl ?_
  refine v_bipush 62 16 dX12_minds_60 kc_b_16 rfl ?_
  refine v_aload_n 63 0 dX12_minds_62 rfl rfl rfl ?_
  refine vg_8_0 66 (rfl : kK 112 = 8) in_X12_minds_8 (mem_at 1 rfl) dX12_minds_63 rfl ?_
  refine v_bipush 68 112 dX12_minds_66 kc_b_112 rfl ?_
  refine v_iald 69 h (rfl : kK 113 = 9) dX12_minds_68 rfl (fun h => ?_)
  refine v_imul 70 dX12_minds_69 rfl ?_
  refine v_iadd 71 dX12_minds_70 rfl ?_
  refine v_istoreN_n 72 h dX12_minds_71 rfl (by decide) rfl (fun _ => rfl) (fun x1 h => ?_)
  refine v_iconst 73 0 dX12_minds_72 kc_i_0 rfl ?_
  refine v_istore_n 74 dX12_minds_73 rfl (by decide) rfl rfl ?_
  refine v_sub [2, 1, 0] rfl ?_
  exact q_X12_minds_74 τ FU σ x1 0 h
set_option maxRecDepth 100000 in
set_option maxHeartbeats 4000000 in
theorem q_X12_minds_14 {g : Cx} (τ : Sg) : ∀ f : Nat, ∀ σ : Sg, ∀ l1 : Int32, b_X12_minds_14 f σ l1 = some τ → V g cX12_minds RX12 wsX12_minds 3 none rm_X12_minds none τ σ 14 [(0, .ref (g.1 112)), (1, .int l1)] [] := by
  intro f
  induction f with
  | zero =>
    intro σ l1 h
    cases h
  | succ f ih =>
    intro σ l1 h
    rw [b_X12_minds_14] at h
    refine v_iload_n 15 1 dX12_minds_14 rfl rfl rfl ?_
    refine v_bipush 17 112 dX12_minds_15 kc_b_112 rfl ?_
    refine v_icmp_ge 20 47 h dX12_minds_17 rfl (by decide) (fun h => ?_) (fun h => ?_)
    · refine v_aload_n 48 0 dX12_minds_47 rfl rfl rfl ?_
      refine vg_8_0 51 (rfl : kK 112 = 8) in_X12_minds_8 (mem_at 1 rfl) dX12_minds_48 rfl ?_
      refine v_bipush 53 112 dX12_minds_51 kc_b_112 rfl ?_
      refine v_dup2 54 dX12_minds_53 rfl rfl rfl ?_
      refine v_iald 55 h (rfl : kK 113 = 9) dX12_minds_54 rfl (fun h => ?_)
      refine v_iconst 56 1 dX12_minds_55 kc_i_1 rfl ?_
      refine v_isub 57 dX12_minds_56 rfl ?_
      refine v_iast 58 h (rfl : kK 113 = 9) dX12_minds_57 rfl (fun s8 h => ?_)
      refine v_sub [0] rfl ?_
      exact q_X12_minds_58 τ s8 h
    · refine v_aload_n 21 0 dX12_minds_20 rfl rfl rfl ?_
      refine vg_8_0 24 (rfl : kK 112 = 8) in_X12_minds_8 (mem_at 1 rfl) dX12_minds_21 rfl ?_
      refine v_bipush 26 113 dX12_minds_24 kc_b_113 rfl ?_
      refine v_iload_n 27 1 dX12_minds_26 rfl rfl rfl ?_
      refine v_iadd 28 dX12_minds_27 rfl ?_
      refine v_aload_n 29 0 dX12_minds_28 rfl rfl rfl ?_
      refine vg_8_0 32 (rfl : kK 112 = 8) in_X12_minds_8 (mem_at 1 rfl) dX12_minds_29 rfl ?_
      refine v_bipush 34 113 dX12_minds_32 kc_b_113 rfl ?_
      refine v_iload_n 35 1 dX12_minds_34 rfl rfl rfl ?_
      refine v_iadd 36 dX12_minds_35 rfl ?_
      refine v_bipush 38 16 dX12_minds_36 kc_b_16 rfl ?_
      refine v_iadd 39 dX12_minds_38 rfl ?_
      refine v_iald 40 h (rfl : kK 113 = 9) dX12_minds_39 rfl (fun h => ?_)
      refine v_iast 41 h (rfl : kK 113 = 9) dX12_minds_40 rfl (fun s9 h => ?_)
      refine v_iincN 44 1 h dX12_minds_41 rfl kc_i_1 (by decide) rfl (fun _ => rfl) (fun x10 h => ?_)
      refine v_goto 14 dX12_minds_44 (by decide) ?_
      refine v_sub [1, 0] rfl ?_
      exact ih s9 x10 h
set_option maxRecDepth 100000 in
set_option maxHeartbeats 4000000 in
theorem c_X12_minds {g : Cx} {σ : Sg} (τ : Sg) (h : f_X12_minds σ = some τ) : ∀ l, MetF l yX12_minds wsX12_minds rm_X12_minds g [.ref (g.1 112)] σ none τ := by
  refine MetF.of (own0 := RX12) (lv0 := [(0, .ref (g.1 112))]) rfl cl_X12_minds (by decide) (Nat.le_of_ble_eq_true rfl) rfl ?_
  unfold f_X12_minds at h
  refine v_aload_n 1 0 dX12_minds_0 rfl rfl rfl ?_
  refine vg_8_0 4 (rfl : kK 112 = 8) in_X12_minds_8 (mem_at 1 rfl) dX12_minds_1 rfl ?_
  refine v_bipush 6 112 dX12_minds_4 kc_b_112 rfl ?_
  refine v_iald 7 h (rfl : kK 113 = 9) dX12_minds_6 rfl (fun h => ?_)
  refine v_bipush 9 8 dX12_minds_7 kc_b_8 rfl ?_
  refine v_icmp_ne 12 58 h dX12_minds_9 rfl (by decide) (fun h => ?_) (fun h => ?_)
  · refine v_sub [0] rfl ?_
    exact q_X12_minds_58 τ σ h
  · refine v_iconst 13 0 dX12_minds_12 kc_i_0 rfl ?_
    refine v_istore_n 14 dX12_minds_13 rfl (by decide) rfl rfl ?_
    refine v_sub [1, 0] rfl ?_
    exact q_X12_minds_14 τ FU σ 0 h
-- private static int fades(int, int);
abbrev rm_X12_fades : Room := { frames := 0, cells := 0, slots := 0, locals := 0 }
theorem cl_X12_fades : Cl yX12_fades wsX12_fades cX12_fades 2 (some .int) rm_X12_fades 2 := ⟨⟨_, rfl⟩, rfl, rfl, by decide +kernel, by decide +kernel, by decide +kernel⟩
def b_X12_fades_11 (l0 : Int32) (l1 : Int32) : Int32 := l0
def f_X12_fades (l0 : Int32) (l1 : Int32) : Int32 := (if (l1 - l1 / 2 * 2) = 0 then (if l0 = 1 then b_X12_fades_11 l0 l1 else l0 - 1) else b_X12_fades_11 l0 l1)
set_option maxRecDepth 100000 in
set_option maxHeartbeats 4000000 in
theorem q_X12_fades_11 {g : Cx} {σ : Sg} (l0 : Int32) (l1 : Int32) (r : Int32) : b_X12_fades_11 l0 l1 = r → V g cX12_fades RX12 wsX12_fades 2 (some .int) rm_X12_fades (some (.int r)) σ σ 11 [(0, .int l0)] [] := by
  intro h
  unfold b_X12_fades_11 at h
  refine v_iload_n 12 0 dX12_fades_11 rfl rfl rfl ?_
  refine v_goto 18 dX12_fades_12 (by decide) ?_
  exact v_iretT h rfl dX12_fades_18
set_option maxRecDepth 100000 in
set_option maxHeartbeats 4000000 in
theorem c_X12_fades {g : Cx} {σ : Sg} (l0 : Int32) (l1 : Int32) : ∀ l, MetF l yX12_fades wsX12_fades rm_X12_fades g [.int l0, .int l1] σ (some (.int (f_X12_fades l0 l1))) σ := by
  have main : ∀ r : Int32, f_X12_fades l0 l1 = r → ∀ l, MetF l yX12_fades wsX12_fades rm_X12_fades g [.int l0, .int l1] σ (some (.int r)) σ := by
    intro r h
    refine MetF.of (own0 := RX12) (lv0 := [(0, .int l0), (1, .int l1)]) rfl cl_X12_fades (by decide) (Nat.le_of_ble_eq_true rfl) rfl ?_
    unfold f_X12_fades at h
    refine v_iload_n 1 1 dX12_fades_0 rfl rfl rfl ?_
    refine v_iconst 2 2 dX12_fades_1 kc_i_2 rfl ?_
    refine v_irem 3 kc_ne_2 dX12_fades_2 rfl ?_
    refine v_if_ne 6 11 h dX12_fades_3 rfl (by decide) (fun h => ?_) (fun h => ?_)
    · refine v_sub [0] rfl ?_
      exact q_X12_fades_11 l0 l1 r h
    · refine v_iload_n 7 0 dX12_fades_6 rfl rfl rfl ?_
      refine v_iconst 8 1 dX12_fades_7 kc_i_1 rfl ?_
      refine v_icmp_ne 11 15 h dX12_fades_8 rfl (by decide) (fun h => ?_) (fun h => ?_)
      · refine v_iload_n 16 0 dX12_fades_15 rfl rfl rfl ?_
        refine v_iconst 17 1 dX12_fades_16 kc_i_1 rfl ?_
        refine v_isub 18 dX12_fades_17 rfl ?_
        exact v_iretT h rfl dX12_fades_18
      · refine v_sub [0] rfl ?_
        exact q_X12_fades_11 l0 l1 r h
  exact main _ rfl
-- private static int goes(int, int, int);
abbrev rm_X12_goes : Room := { frames := 1, cells := 0, slots := 0, locals := 21 }
theorem cl_X12_goes : Cl yX12_goes wsX12_goes cX12_goes 3 (some .int) rm_X12_goes 3 := ⟨⟨_, rfl⟩, rfl, rfl, by decide +kernel, by decide +kernel, by decide +kernel⟩
def f_X12_goes (l0 : Int32) (l1 : Int32) (l2 : Int32) : Int32 := (if l0 = 1 then f_X12_fades l1 l2 else (if l0 = 2 then l1 else (if l0 = 3 then l1 else (if l0 = 4 then f_X12_fades (f_X12_fades l1 l2) l2 else (if l0 = 5 then (if (l2 - l2 / 3 * 3) = 0 then (if 250 ≤ l1 then l1 else l1 + 1) else l1) else l1)))))
set_option maxRecDepth 100000 in
set_option maxHeartbeats 4000000 in
theorem c_X12_goes {g : Cx} {σ : Sg} (l0 : Int32) (l1 : Int32) (l2 : Int32) : ∀ l, MetF l yX12_goes wsX12_goes rm_X12_goes g [.int l0, .int l1, .int l2] σ (some (.int (f_X12_goes l0 l1 l2))) σ := by
  have main : ∀ r : Int32, f_X12_goes l0 l1 l2 = r → ∀ l, MetF l yX12_goes wsX12_goes rm_X12_goes g [.int l0, .int l1, .int l2] σ (some (.int r)) σ := by
    intro r h
    refine MetF.of (own0 := RX12) (lv0 := [(0, .int l0), (1, .int l1), (2, .int l2)]) rfl cl_X12_goes (by decide) (Nat.le_of_ble_eq_true rfl) rfl ?_
    unfold f_X12_goes at h
    refine v_iload_n 1 0 dX12_goes_0 rfl rfl rfl ?_
    refine v_ite h (fun q h => ?_) (fun q1 h => ?_)
    · refine v_tabInZ 36 1 dX12_goes_1 (ti_of q kc_ti_1) (by decide) (by decide) rfl (by decide) ?_
      refine v_iload_n 37 1 dX12_goes_36 rfl rfl rfl ?_
      refine v_iload_n 38 2 dX12_goes_37 rfl rfl rfl ?_
      refine v_cS 41 [.int l1, .int l2] (c_X12_fades l1 l2) cl_X12_fades gX12_goes_X12_fades ⟨Nat.le_of_ble_eq_true rfl, Nat.le_of_ble_eq_true rfl⟩ rfl rfl (Nat.le_of_ble_eq_true rfl) dX12_goes_38 rfl ?_
      exact v_iretT h rfl dX12_goes_41
    refine v_ite h (fun q h => ?_) (fun q2 h => ?_)
    · refine v_tabInZ 73 2 dX12_goes_1 (ti_of q kc_ti_2) (by decide) (by decide) rfl (by decide) ?_
      refine v_iload_n 74 1 dX12_goes_73 rfl rfl rfl ?_
      exact v_iretT h rfl dX12_goes_74
    refine v_ite h (fun q h => ?_) (fun q3 h => ?_)
    · refine v_tabInZ 73 3 dX12_goes_1 (ti_of q kc_ti_3) (by decide) (by decide) rfl (by decide) ?_
      refine v_iload_n 74 1 dX12_goes_73 rfl rfl rfl ?_
      exact v_iretT h rfl dX12_goes_74
    refine v_ite h (fun q h => ?_) (fun q4 h => ?_)
    · refine v_tabInZ 42 4 dX12_goes_1 (ti_of q kc_ti_4) (by decide) (by decide) rfl (by decide) ?_
      refine v_iload_n 43 1 dX12_goes_42 rfl rfl rfl ?_
      refine v_iload_n 44 2 dX12_goes_43 rfl rfl rfl ?_
      refine v_cS 47 [.int l1, .int l2] (c_X12_fades l1 l2) cl_X12_fades gX12_goes_X12_fades ⟨Nat.le_of_ble_eq_true rfl, Nat.le_of_ble_eq_true rfl⟩ rfl rfl (Nat.le_of_ble_eq_true rfl) dX12_goes_44 rfl ?_
      refine v_iload_n 48 2 dX12_goes_47 rfl rfl rfl ?_
      refine v_cS 51 [.int (f_X12_fades l1 l2), .int l2] (c_X12_fades (f_X12_fades l1 l2) l2) cl_X12_fades gX12_goes_X12_fades ⟨Nat.le_of_ble_eq_true rfl, Nat.le_of_ble_eq_true rfl⟩ rfl rfl (Nat.le_of_ble_eq_true rfl) dX12_goes_48 rfl ?_
      exact v_iretT h rfl dX12_goes_51
    refine v_ite h (fun q h => ?_) (fun q5 h => ?_)
    · refine v_tabInZ 52 5 dX12_goes_1 (ti_of q kc_ti_5) (by decide) (by decide) rfl (by decide) ?_
      refine v_iload_n 53 2 dX12_goes_52 rfl rfl rfl ?_
      refine v_iconst 54 3 dX12_goes_53 kc_i_3 rfl ?_
      refine v_irem 55 kc_ne_3 dX12_goes_54 rfl ?_
      refine v_if_ne 58 71 h dX12_goes_55 rfl (by decide) (fun h => ?_) (fun h => ?_)
      · refine v_iload_n 72 1 dX12_goes_71 rfl rfl rfl ?_
        exact v_iretT h rfl dX12_goes_72
      · refine v_iload_n 59 1 dX12_goes_58 rfl rfl rfl ?_
        refine v_sipush 62 250 dX12_goes_59 kc_s_250 rfl ?_
        refine v_icmp_ge 65 71 h dX12_goes_62 rfl (by decide) (fun h => ?_) (fun h => ?_)
        · refine v_iload_n 72 1 dX12_goes_71 rfl rfl rfl ?_
          exact v_iretT h rfl dX12_goes_72
        · refine v_iload_n 66 1 dX12_goes_65 rfl rfl rfl ?_
          refine v_iconst 67 1 dX12_goes_66 kc_i_1 rfl ?_
          refine v_iadd 68 dX12_goes_67 rfl ?_
          refine v_goto 72 dX12_goes_68 (by decide) ?_
          exact v_iretT h rfl dX12_goes_72
    have a1 := ne_lit q1 kc_ti_1
    have a2 := ne_lit q2 kc_ti_2
    have a3 := ne_lit q3 kc_ti_3
    have a4 := ne_lit q4 kc_ti_4
    have a5 := ne_lit q5 kc_ti_5
    refine v_tabOut 73 dX12_goes_1 (by omega) (by decide) ?_
    refine v_iload_n 74 1 dX12_goes_73 rfl rfl rfl ?_
    exact v_iretT h rfl dX12_goes_74
  exact main _ rfl
-- private void passes(int);
abbrev rm_X12_passes : Room := { frames := 2, cells := 0, slots := 0, locals := 43 }
theorem cl_X12_passes : Cl yX12_passes wsX12_passes cX12_passes 4 none rm_X12_passes 1 := ⟨⟨_, rfl⟩, rfl, rfl, by decide +kernel, by decide +kernel, by decide +kernel⟩
theorem in_X12_passes_8 : ∀ w ∈ wsX120, w ∈ wsX12_passes := fun w h => List.mem_cons_of_mem _ (List.mem_append_right _ h)
def b_X12_passes_117 (l1 : Int32) (c17 : Sg → Int32 → Option Sg) (σ : Sg) (l2 : Int32) (t0 : Int32) (t1 : Int32) : Option Sg := (if inb t1 (kLen 113) = true then nam (stI σ 113 (ix t1) t0) (fun s5 => nam (l2 + 1) fun x6 => c17 s5 x6) else none)
def b_X12_passes_17 (l1 : Int32) : Nat → Sg → Int32 → Option Sg
  | 0, _, _ => none
  | f + 1, σ, l2 => (if inb (l1 + 0) (kLen 113) = true then (if (rI σ 113 (ix (l1 + 0))) ≤ l2 then (if inb (l1 + 3) (kLen 113) = true then nam (stI σ 113 (ix (l1 + 3)) 0) (fun s1 => (if inb (l1 + 2) (kLen 113) = true then (if inb (l1 + 2) (kLen 113) = true then nam (stI s1 113 (ix (l1 + 2)) ((rI s1 113 (ix (l1 + 2))) + 1)) (fun s2 => (some s2)) else none) else none)) else none) else (if inb ((l1 + 32) + l2) (kLen 113) = true then nam (rI σ 113 (ix ((l1 + 32) + l2))) fun x3 => (if inb ((l1 + 4) + l2) (kLen 113) = true then (if inb ((l1 + 18) + l2) (kLen 113) = true then (if inb (l1 + 2) (kLen 113) = true then (if inb ((l1 + 18) + l2) (kLen 113) = true then nam (stI σ 113 (ix ((l1 + 18) + l2)) (f_X12_goes (rI σ 113 (ix ((l1 + 4) + l2))) (rI σ 113 (ix ((l1 + 18) + l2))) (rI σ 113 (ix (l1 + 2))))) (fun s4 => (if x3 ≤ 5 then (if 5 ≤ x3 then b_X12_passes_117 l1 (b_X12_passes_17 l1 f) s4 l2 5 ((l1 + 32) + l2) else b_X12_passes_117 l1 (b_X12_passes_17 l1 f) s4 l2 (x3 + 1) ((l1 + 32) + l2)) else b_X12_passes_117 l1 (b_X12_passes_17 l1 f) s4 l2 (x3 - 1) ((l1 + 32) + l2))) else none) else none) else none) else none) else none)) else none)
def f_X12_passes (σ : Sg) (l1 : Int32) : Option Sg := (if inb (l1 + 2) (kLen 113) = true then (if (rI σ 113 (ix (l1 + 2))) = 9999 then (some σ) else b_X12_passes_17 l1 FU σ 0) else none)
set_option maxRecDepth 100000 in
set_option maxHeartbeats 4000000 in
theorem q_X12_passes_117 {g : Cx} (l1 : Int32) (τ : Sg) (c17 : Sg → Int32 → Option Sg) (hc17 : ∀ σ : Sg, ∀ l2 : Int32, c17 σ l2 = some τ → V g cX12_passes RX12 wsX12_passes 4 none rm_X12_passes none τ σ 17 [(0, .ref (g.1 112)), (1, .int l1), (2, .int l2)] []) : ∀ σ : Sg, ∀ l2 : Int32, ∀ t0 : Int32, ∀ t1 : Int32, b_X12_passes_117 l1 c17 σ l2 t0 t1 = some τ → V g cX12_passes RX12 wsX12_passes 4 none rm_X12_passes none τ σ 117 [(0, .ref (g.1 112)), (1, .int l1), (2, .int l2)] [.int t0, .int t1, .ref (g.1 113)] := by
  intro σ l2 t0 t1 h
  unfold b_X12_passes_117 at h
  refine v_iast 118 h (rfl : kK 113 = 9) dX12_passes_117 rfl (fun s5 h => ?_)
  refine v_iincN 121 2 h dX12_passes_118 rfl kc_i_1 (by decide) rfl (fun _ => rfl) (fun x6 h => ?_)
  refine v_goto 17 dX12_passes_121 (by decide) ?_
  refine v_sub [1, 2, 0] rfl ?_
  exact hc17 s5 x6 h
set_option maxRecDepth 100000 in
set_option maxHeartbeats 4000000 in
theorem q_X12_passes_17 {g : Cx} (l1 : Int32) (τ : Sg) : ∀ f : Nat, ∀ σ : Sg, ∀ l2 : Int32, b_X12_passes_17 l1 f σ l2 = some τ → V g cX12_passes RX12 wsX12_passes 4 none rm_X12_passes none τ σ 17 [(0, .ref (g.1 112)), (1, .int l1), (2, .int l2)] [] := by
  intro f
  induction f with
  | zero =>
    intro σ l2 h
    cases h
  | succ f ih =>
    intro σ l2 h
    rw [b_X12_passes_17] at h
    refine v_iload_n 18 2 dX12_passes_17 rfl rfl rfl ?_
    refine v_aload_n 19 0 dX12_passes_18 rfl rfl rfl ?_
    refine vg_8_0 22 (rfl : kK 112 = 8) in_X12_passes_8 (mem_at 1 rfl) dX12_passes_19 rfl ?_
    refine v_iload_n 23 1 dX12_passes_22 rfl rfl rfl ?_
    refine v_iconst 24 0 dX12_passes_23 kc_i_0 rfl ?_
    refine v_iadd 25 dX12_passes_24 rfl ?_
    refine v_iald 26 h (rfl : kK 113 = 9) dX12_passes_25 rfl (fun h => ?_)
    refine v_icmp_ge 29 124 h dX12_passes_26 rfl (by decide) (fun h => ?_) (fun h => ?_)
    · refine v_aload_n 125 0 dX12_passes_124 rfl rfl rfl ?_
      refine vg_8_0 128 (rfl : kK 112 = 8) in_X12_passes_8 (mem_at 1 rfl) dX12_passes_125 rfl ?_
      refine v_iload_n 129 1 dX12_passes_128 rfl rfl rfl ?_
      refine v_iconst 130 3 dX12_passes_129 kc_i_3 rfl ?_
      refine v_iadd 131 dX12_passes_130 rfl ?_
      refine v_iconst 132 0 dX12_passes_131 kc_i_0 rfl ?_
      refine v_iast 133 h (rfl : kK 113 = 9) dX12_passes_132 rfl (fun s1 h => ?_)
      refine v_aload_n 134 0 dX12_passes_133 rfl rfl rfl ?_
      refine vg_8_0 137 (rfl : kK 112 = 8) in_X12_passes_8 (mem_at 1 rfl) dX12_passes_134 rfl ?_
      refine v_iload_n 138 1 dX12_passes_137 rfl rfl rfl ?_
      refine v_iconst 139 2 dX12_passes_138 kc_i_2 rfl ?_
      refine v_iadd 140 dX12_passes_139 rfl ?_
      refine v_dup2 141 dX12_passes_140 rfl rfl rfl ?_
      refine v_iald 142 h (rfl : kK 113 = 9) dX12_passes_141 rfl (fun h => ?_)
      refine v_iconst 143 1 dX12_passes_142 kc_i_1 rfl ?_
      refine v_iadd 144 dX12_passes_143 rfl ?_
      refine v_iast 145 h (rfl : kK 113 = 9) dX12_passes_144 rfl (fun s2 h => ?_)
      exact v_vretS h rfl dX12_passes_145
    · refine v_aload_n 30 0 dX12_passes_29 rfl rfl rfl ?_
      refine vg_8_0 33 (rfl : kK 112 = 8) in_X12_passes_8 (mem_at 1 rfl) dX12_passes_30 rfl ?_
      refine v_iload_n 34 1 dX12_passes_33 rfl rfl rfl ?_
      refine v_bipush 36 32 dX12_passes_34 kc_b_32 rfl ?_
      refine v_iadd 37 dX12_passes_36 rfl ?_
      refine v_iload_n 38 2 dX12_passes_37 rfl rfl rfl ?_
      refine v_iadd 39 dX12_passes_38 rfl ?_
      refine v_iald 40 h (rfl : kK 113 = 9) dX12_passes_39 rfl (fun h => ?_)
      refine v_istoreN_n 41 h dX12_passes_40 rfl (by decide) rfl (fun _ => rfl) (fun x3 h => ?_)
      refine v_aload_n 42 1 dX12_passes_41 rfl rfl rfl ?_
      refine vg_8_0 45 (rfl : kK 112 = 8) in_X12_passes_8 (mem_at 1 rfl) dX12_passes_42 rfl ?_
      refine v_iload_n 46 2 dX12_passes_45 rfl rfl rfl ?_
      refine v_bipush 48 18 dX12_passes_46 kc_b_18 rfl ?_
      refine v_iadd 49 dX12_passes_48 rfl ?_
      refine v_iload_n 50 3 dX12_passes_49 rfl rfl rfl ?_
      refine v_iadd 51 dX12_passes_50 rfl ?_
      refine v_aload_n 52 1 dX12_passes_51 rfl rfl rfl ?_
      refine vg_8_0 55 (rfl : kK 112 = 8) in_X12_passes_8 (mem_at 1 rfl) dX12_passes_52 rfl ?_
      refine v_iload_n 56 2 dX12_passes_55 rfl rfl rfl ?_
      refine v_iconst 57 4 dX12_passes_56 kc_i_4 rfl ?_
      refine v_iadd 58 dX12_passes_57 rfl ?_
      refine v_iload_n 59 3 dX12_passes_58 rfl rfl rfl ?_
      refine v_iadd 60 dX12_passes_59 rfl ?_
      refine v_iald 61 h (rfl : kK 113 = 9) dX12_passes_60 rfl (fun h => ?_)
      refine v_aload_n 62 1 dX12_passes_61 rfl rfl rfl ?_
      refine vg_8_0 65 (rfl : kK 112 = 8) in_X12_passes_8 (mem_at 1 rfl) dX12_passes_62 rfl ?_
      refine v_iload_n 66 2 dX12_passes_65 rfl rfl rfl ?_
      refine v_bipush 68 18 dX12_passes_66 kc_b_18 rfl ?_
      refine v_iadd 69 dX12_passes_68 rfl ?_
      refine v_iload_n 70 3 dX12_passes_69 rfl rfl rfl ?_
      refine v_iadd 71 dX12_passes_70 rfl ?_
      refine v_iald 72 h (rfl : kK 113 = 9) dX12_passes_71 rfl (fun h => ?_)
      refine v_aload_n 73 1 dX12_passes_72 rfl rfl rfl ?_
      refine vg_8_0 76 (rfl : kK 112 = 8) in_X12_passes_8 (mem_at 1 rfl) dX12_passes_73 rfl ?_
      refine v_iload_n 77 2 dX12_passes_76 rfl rfl rfl ?_
      refine v_iconst 78 2 dX12_passes_77 kc_i_2 rfl ?_
      refine v_iadd 79 dX12_passes_78 rfl ?_
      refine v_iald 80 h (rfl : kK 113 = 9) dX12_passes_79 rfl (fun h => ?_)
      refine v_cS 83 [.int (rI σ 113 (ix ((l1 + 4) + l2))), .int (rI σ 113 (ix ((l1 + 18) + l2))), .int (rI σ 113 (ix (l1 + 2)))] (c_X12_goes (rI σ 113 (ix ((l1 + 4) + l2))) (rI σ 113 (ix ((l1 + 18) + l2))) (rI σ 113 (ix (l1 + 2)))) cl_X12_goes gX12_passes_X12_goes ⟨Nat.le_of_ble_eq_true rfl, Nat.le_of_ble_eq_true rfl⟩ rfl rfl (Nat.le_of_ble_eq_true rfl) dX12_passes_80 rfl ?_
      refine v_iast 84 h (rfl : kK 113 = 9) dX12_passes_83 rfl (fun s4 h => ?_)
      refine v_aload_n 85 1 dX12_passes_84 rfl rfl rfl ?_
      refine vg_8_0 88 (rfl : kK 112 = 8) in_X12_passes_8 (mem_at 1 rfl) dX12_passes_85 rfl ?_
      refine v_iload_n 89 2 dX12_passes_88 rfl rfl rfl ?_
      refine v_bipush 91 32 dX12_passes_89 kc_b_32 rfl ?_
      refine v_iadd 92 dX12_passes_91 rfl ?_
      refine v_iload_n 93 3 dX12_passes_92 rfl rfl rfl ?_
      refine v_iadd 94 dX12_passes_93 rfl ?_
      refine v_iload_n 95 0 dX12_passes_94 rfl rfl rfl ?_
      refine v_iconst 96 5 dX12_passes_95 kc_i_5 rfl ?_
      refine v_icmp_le 99 105 h dX12_passes_96 rfl (by decide) (fun h => ?_) (fun h => ?_)
      · refine v_iload_n 106 0 dX12_passes_105 rfl rfl rfl ?_
        refine v_iconst 107 5 dX12_passes_106 kc_i_5 rfl ?_
        refine v_icmp_ge 110 116 h dX12_passes_107 rfl (by decide) (fun h => ?_) (fun h => ?_)
        · refine v_iconst 117 5 dX12_passes_116 kc_i_5 rfl ?_
          refine v_sub [1, 2, 3] rfl ?_
          exact q_X12_passes_117 l1 τ (b_X12_passes_17 l1 f) ih s4 l2 5 ((l1 + 32) + l2) h
        · refine v_iload_n 111 0 dX12_passes_110 rfl rfl rfl ?_
          refine v_iconst 112 1 dX12_passes_111 kc_i_1 rfl ?_
          refine v_iadd 113 dX12_passes_112 rfl ?_
          refine v_goto 117 dX12_passes_113 (by decide) ?_
          refine v_sub [1, 2, 3] rfl ?_
          exact q_X12_passes_117 l1 τ (b_X12_passes_17 l1 f) ih s4 l2 (x3 + 1) ((l1 + 32) + l2) h
      · refine v_iload_n 100 0 dX12_passes_99 rfl rfl rfl ?_
        refine v_iconst 101 1 dX12_passes_100 kc_i_1 rfl ?_
        refine v_isub 102 dX12_passes_101 rfl ?_
        refine v_goto 117 dX12_passes_102 (by decide) ?_
        refine v_sub [1, 2, 3] rfl ?_
        exact q_X12_passes_117 l1 τ (b_X12_passes_17 l1 f) ih s4 l2 (x3 - 1) ((l1 + 32) + l2) h
set_option maxRecDepth 100000 in
set_option maxHeartbeats 4000000 in
theorem c_X12_passes {g : Cx} {σ : Sg} (l1 : Int32) (τ : Sg) (h : f_X12_passes σ l1 = some τ) : ∀ l, MetF l yX12_passes wsX12_passes rm_X12_passes g [.ref (g.1 112), .int l1] σ none τ := by
  refine MetF.of (own0 := RX12) (lv0 := [(0, .ref (g.1 112)), (1, .int l1)]) rfl cl_X12_passes (by decide) (Nat.le_of_ble_eq_true rfl) rfl ?_
  unfold f_X12_passes at h
  refine v_aload_n 1 0 dX12_passes_0 rfl rfl rfl ?_
  refine vg_8_0 4 (rfl : kK 112 = 8) in_X12_passes_8 (mem_at 1 rfl) dX12_passes_1 rfl ?_
  refine v_iload_n 5 1 dX12_passes_4 rfl rfl rfl ?_
  refine v_iconst 6 2 dX12_passes_5 kc_i_2 rfl ?_
  refine v_iadd 7 dX12_passes_6 rfl ?_
  refine v_iald 8 h (rfl : kK 113 = 9) dX12_passes_7 rfl (fun h => ?_)
  refine v_sipush 11 9999 dX12_passes_8 kc_s_9999 rfl ?_
  refine v_icmp_ne 14 15 h dX12_passes_11 rfl (by decide) (fun h => ?_) (fun h => ?_)
  · refine v_iconst 16 0 dX12_passes_15 kc_i_0 rfl ?_
    refine v_istore_n 17 dX12_passes_16 rfl (by decide) rfl rfl ?_
    refine v_sub [1, 2, 0] rfl ?_
    exact q_X12_passes_17 l1 τ FU σ 0 h
  · exact v_vretS h rfl dX12_passes_14
-- public int day(int);
abbrev rm_X12_day : Room := { frames := 3, cells := 0, slots := 0, locals := 66 }
theorem cl_X12_day : Cl yX12_day wsX12_day cX12_day 3 (some .int) rm_X12_day 1 := ⟨⟨_, rfl⟩, rfl, rfl, by decide +kernel, by decide +kernel, by decide +kernel⟩
def b_X12_day_25 (l1 : Int32) : Nat → Sg → Int32 → Option (Int32 × Sg)
  | 0, _, _ => none
  | f + 1, σ, l2 => (if l1 ≤ l2 then (f_X12_allStones σ).bind fun x2 => (some (x2, σ)) else (f_X12_passes σ 0).bind fun s3 => nam (l2 + 1) fun x4 => b_X12_day_25 l1 f s3 x4)
def f_X12_day (σ : Sg) (l1 : Int32) : Option (Int32 × Sg) := (if (f_X12_in (Int32.toInt64 l1) 1 99) = 0 then bnd (f_X12_bad σ (-2)) fun x5 s6 => (some (x5, s6)) else (f_X12_minds σ).bind fun s1 => b_X12_day_25 l1 FU s1 0)
set_option maxRecDepth 100000 in
set_option maxHeartbeats 4000000 in
theorem q_X12_day_25 {g : Cx} (l1 : Int32) (r : Int32) (τ : Sg) : ∀ f : Nat, ∀ σ : Sg, ∀ l2 : Int32, b_X12_day_25 l1 f σ l2 = some (r, τ) → V g cX12_day RX12 wsX12_day 3 (some .int) rm_X12_day (some (.int r)) τ σ 25 [(0, .ref (g.1 112)), (1, .int l1), (2, .int l2)] [] := by
  intro f
  induction f with
  | zero =>
    intro σ l2 h
    cases h
  | succ f ih =>
    intro σ l2 h
    rw [b_X12_day_25] at h
    refine v_iload_n 26 2 dX12_day_25 rfl rfl rfl ?_
    refine v_iload_n 27 1 dX12_day_26 rfl rfl rfl ?_
    refine v_icmp_ge 30 41 h dX12_day_27 rfl (by decide) (fun h => ?_) (fun h => ?_)
    · refine v_aload_n 42 0 dX12_day_41 rfl rfl rfl ?_
      obtain ⟨x2, h0, h⟩ := ob h
      refine v_cV 45 8 [] (rfl : kK 112 = 8) rfl (c_X12_allStones _ h0) cl_X12_allStones gX12_day_X12_allStones rfl ⟨Nat.le_of_ble_eq_true rfl, Nat.le_of_ble_eq_true rfl⟩ rfl rfl (Nat.le_of_ble_eq_true rfl) dX12_day_42 rfl ?_
      exact v_iretS h rfl dX12_day_45
    · refine v_aload_n 31 0 dX12_day_30 rfl rfl rfl ?_
      refine v_iconst 32 0 dX12_day_31 kc_i_0 rfl ?_
      obtain ⟨s3, h0, h⟩ := ob h
      refine v_cV 35 8 [.int 0] (rfl : kK 112 = 8) rfl (c_X12_passes 0 _ h0) cl_X12_passes gX12_day_X12_passes rfl ⟨Nat.le_of_ble_eq_true rfl, Nat.le_of_ble_eq_true rfl⟩ rfl rfl (Nat.le_of_ble_eq_true rfl) dX12_day_32 rfl ?_
      refine v_iincN 38 2 h dX12_day_35 rfl kc_i_1 (by decide) rfl (fun _ => rfl) (fun x4 h => ?_)
      refine v_goto 25 dX12_day_38 (by decide) ?_
      refine v_sub [1, 2, 0] rfl ?_
      exact ih s3 x4 h
set_option maxRecDepth 100000 in
set_option maxHeartbeats 4000000 in
theorem c_X12_day {g : Cx} {σ : Sg} (l1 : Int32) (r : Int32) (τ : Sg) (h : f_X12_day σ l1 = some (r, τ)) : ∀ l, MetF l yX12_day wsX12_day rm_X12_day g [.ref (g.1 112), .int l1] σ (some (.int r)) τ := by
  refine MetF.of (own0 := RX12) (lv0 := [(0, .ref (g.1 112)), (1, .int l1)]) rfl cl_X12_day (by decide) (Nat.le_of_ble_eq_true rfl) rfl ?_
  unfold f_X12_day at h
  refine v_iload_n 1 1 dX12_day_0 rfl rfl rfl ?_
  refine v_i2l 2 dX12_day_1 rfl ?_
  refine v_lconst 3 1 dX12_day_2 kc_l_1 rfl ?_
  refine v_ldc2 6 99 dX12_day_3 (mem_at 1 rfl) rfl ?_
  refine v_cS 9 [.long (Int32.toInt64 l1), .long 1, .long 99] (c_X12_in (Int32.toInt64 l1) 1 99) cl_X12_in gX12_day_X12_in ⟨Nat.le_of_ble_eq_true rfl, Nat.le_of_ble_eq_true rfl⟩ rfl rfl (Nat.le_of_ble_eq_true rfl) dX12_day_6 rfl ?_
  refine v_if_ne 12 19 h dX12_day_9 rfl (by decide) (fun h => ?_) (fun h => ?_)
  · refine v_aload_n 20 0 dX12_day_19 rfl rfl rfl ?_
    obtain ⟨s1, h0, h⟩ := ob h
    refine v_cV 23 8 [] (rfl : kK 112 = 8) rfl (c_X12_minds _ h0) cl_X12_minds gX12_day_X12_minds rfl ⟨Nat.le_of_ble_eq_true rfl, Nat.le_of_ble_eq_true rfl⟩ rfl rfl (Nat.le_of_ble_eq_true rfl) dX12_day_20 rfl ?_
    refine v_iconst 24 0 dX12_day_23 kc_i_0 rfl ?_
    refine v_istore_n 25 dX12_day_24 rfl (by decide) rfl rfl ?_
    refine v_sub [1, 2, 0] rfl ?_
    exact q_X12_day_25 l1 r τ FU s1 0 h
  · refine v_aload_n 13 0 dX12_day_12 rfl rfl rfl ?_
    refine v_bipush 15 (-2) dX12_day_13 kc_b_m2 rfl ?_
    obtain ⟨x5, s6, h0, h⟩ := ob2 h
    refine v_cV 18 8 [.int (-2)] (rfl : kK 112 = 8) rfl (c_X12_bad (-2) _ _ h0) cl_X12_bad gX12_day_X12_bad rfl ⟨Nat.le_of_ble_eq_true rfl, Nat.le_of_ble_eq_true rfl⟩ rfl rfl (Nat.le_of_ble_eq_true rfl) dX12_day_15 rfl ?_
    exact v_iretS h rfl dX12_day_18
-- private void mix(long);
abbrev rm_X12_mix : Room := { frames := 0, cells := 0, slots := 0, locals := 0 }
theorem cl_X12_mix : Cl yX12_mix wsX12_mix cX12_mix 3 none rm_X12_mix 1 := ⟨⟨_, rfl⟩, rfl, rfl, by decide +kernel, by decide +kernel, by decide +kernel⟩
theorem in_X12_mix_8 : ∀ w ∈ wsX120, w ∈ wsX12_mix := fun w h => List.mem_cons_of_mem _ (List.mem_append_right _ h)
def f_X12_mix (σ : Sg) (l1 : Int64) : Option Sg := nam (stL σ 112 19 ((31 * (rL σ 112 19)) + l1)) fun s1 => (some s1)
set_option maxRecDepth 100000 in
set_option maxHeartbeats 4000000 in
theorem c_X12_mix {g : Cx} {σ : Sg} (l1 : Int64) (τ : Sg) (h : f_X12_mix σ l1 = some τ) : ∀ l, MetF l yX12_mix wsX12_mix rm_X12_mix g [.ref (g.1 112), .long l1] σ none τ := by
  refine MetF.of (own0 := RX12) (lv0 := [(0, .ref (g.1 112)), (1, .long l1)]) rfl cl_X12_mix (by decide) (Nat.le_of_ble_eq_true rfl) rfl ?_
  unfold f_X12_mix at h
  refine v_aload_n 1 0 dX12_mix_0 rfl rfl rfl ?_
  refine v_ldc2 4 31 dX12_mix_1 (mem_at 1 rfl) rfl ?_
  refine v_aload_n 5 0 dX12_mix_4 rfl rfl rfl ?_
  refine vg_8_19 8 (rfl : kK 112 = 8) in_X12_mix_8 (mem_at 2 rfl) dX12_mix_5 rfl ?_
  refine v_lmul 9 dX12_mix_8 rfl ?_
  refine v_lload_n 10 1 dX12_mix_9 rfl rfl rfl ?_
  refine v_ladd 11 dX12_mix_10 rfl ?_
  refine vp_8_19 14 h (rfl : kK 112 = 8) in_X12_mix_8 (mem_at 2 rfl) dX12_mix_11 rfl (fun s1 h => ?_)
  exact v_vretS h rfl dX12_mix_14
-- private int ofKeeper(int, int);
abbrev rm_X12_ofKeeper : Room := { frames := 0, cells := 0, slots := 0, locals := 0 }
theorem cl_X12_ofKeeper : Cl yX12_ofKeeper wsX12_ofKeeper cX12_ofKeeper 3 (some .int) rm_X12_ofKeeper 2 := ⟨⟨_, rfl⟩, rfl, rfl, by decide +kernel, by decide +kernel, by decide +kernel⟩
theorem in_X12_ofKeeper_8 : ∀ w ∈ wsX120, w ∈ wsX12_ofKeeper := fun w h => List.mem_cons_of_mem _ (List.mem_append_right _ h)
def f_X12_ofKeeper (σ : Sg) (l1 : Int32) (l2 : Int32) : Option Int32 := (if l2 = 0 then (if inb (4 + l1) (kLen 113) = true then (some (rI σ 113 (ix (4 + l1)))) else none) else (if l2 = 1 then (if inb (11 + l1) (kLen 113) = true then (some (rI σ 113 (ix (11 + l1)))) else none) else (if l2 = 2 then (if inb (18 + l1) (kLen 113) = true then (some (rI σ 113 (ix (18 + l1)))) else none) else (if l2 = 3 then (if inb (25 + l1) (kLen 113) = true then (some (rI σ 113 (ix (25 + l1)))) else none) else (if l2 = 4 then (if inb (32 + l1) (kLen 113) = true then (some (rI σ 113 (ix (32 + l1)))) else none) else (if inb 3 (kLen 113) = true then (some (((rI σ 113 (ix 3)) >>> (l1 &&& 31)) &&& 1)) else none))))))
set_option maxRecDepth 100000 in
set_option maxHeartbeats 4000000 in
theorem c_X12_ofKeeper {g : Cx} {σ : Sg} (l1 : Int32) (l2 : Int32) (r : Int32) (h : f_X12_ofKeeper σ l1 l2 = some r) : ∀ l, MetF l yX12_ofKeeper wsX12_ofKeeper rm_X12_ofKeeper g [.ref (g.1 112), .int l1, .int l2] σ (some (.int r)) σ := by
  refine MetF.of (own0 := RX12) (lv0 := [(0, .ref (g.1 112)), (1, .int l1), (2, .int l2)]) rfl cl_X12_ofKeeper (by decide) (Nat.le_of_ble_eq_true rfl) rfl ?_
  unfold f_X12_ofKeeper at h
  refine v_iload_n 1 2 dX12_ofKeeper_0 rfl rfl rfl ?_
  refine v_ite h (fun q h => ?_) (fun q0 h => ?_)
  · refine v_tabInZ 36 0 dX12_ofKeeper_1 (ti_of q kc_ti_0) (by decide) (by decide) rfl (by decide) ?_
    refine v_aload_n 37 0 dX12_ofKeeper_36 rfl rfl rfl ?_
    refine vg_8_0 40 (rfl : kK 112 = 8) in_X12_ofKeeper_8 (mem_at 1 rfl) dX12_ofKeeper_37 rfl ?_
    refine v_iconst 41 4 dX12_ofKeeper_40 kc_i_4 rfl ?_
    refine v_iload_n 42 1 dX12_ofKeeper_41 rfl rfl rfl ?_
    refine v_iadd 43 dX12_ofKeeper_42 rfl ?_
    refine v_iald 44 h (rfl : kK 113 = 9) dX12_ofKeeper_43 rfl (fun h => ?_)
    exact v_iretP h rfl dX12_ofKeeper_44
  refine v_ite h (fun q h => ?_) (fun q1 h => ?_)
  · refine v_tabInZ 45 1 dX12_ofKeeper_1 (ti_of q kc_ti_1) (by decide) (by decide) rfl (by decide) ?_
    refine v_aload_n 46 0 dX12_ofKeeper_45 rfl rfl rfl ?_
    refine vg_8_0 49 (rfl : kK 112 = 8) in_X12_ofKeeper_8 (mem_at 1 rfl) dX12_ofKeeper_46 rfl ?_
    refine v_bipush 51 11 dX12_ofKeeper_49 kc_b_11 rfl ?_
    refine v_iload_n 52 1 dX12_ofKeeper_51 rfl rfl rfl ?_
    refine v_iadd 53 dX12_ofKeeper_52 rfl ?_
    refine v_iald 54 h (rfl : kK 113 = 9) dX12_ofKeeper_53 rfl (fun h => ?_)
    exact v_iretP h rfl dX12_ofKeeper_54
  refine v_ite h (fun q h => ?_) (fun q2 h => ?_)
  · refine v_tabInZ 55 2 dX12_ofKeeper_1 (ti_of q kc_ti_2) (by decide) (by decide) rfl (by decide) ?_
    refine v_aload_n 56 0 dX12_ofKeeper_55 rfl rfl rfl ?_
    refine vg_8_0 59 (rfl : kK 112 = 8) in_X12_ofKeeper_8 (mem_at 1 rfl) dX12_ofKeeper_56 rfl ?_
    refine v_bipush 61 18 dX12_ofKeeper_59 kc_b_18 rfl ?_
    refine v_iload_n 62 1 dX12_ofKeeper_61 rfl rfl rfl ?_
    refine v_iadd 63 dX12_ofKeeper_62 rfl ?_
    refine v_iald 64 h (rfl : kK 113 = 9) dX12_ofKeeper_63 rfl (fun h => ?_)
    exact v_iretP h rfl dX12_ofKeeper_64
  refine v_ite h (fun q h => ?_) (fun q3 h => ?_)
  · refine v_tabInZ 65 3 dX12_ofKeeper_1 (ti_of q kc_ti_3) (by decide) (by decide) rfl (by decide) ?_
    refine v_aload_n 66 0 dX12_ofKeeper_65 rfl rfl rfl ?_
    refine vg_8_0 69 (rfl : kK 112 = 8) in_X12_ofKeeper_8 (mem_at 1 rfl) dX12_ofKeeper_66 rfl ?_
    refine v_bipush 71 25 dX12_ofKeeper_69 kc_b_25 rfl ?_
    refine v_iload_n 72 1 dX12_ofKeeper_71 rfl rfl rfl ?_
    refine v_iadd 73 dX12_ofKeeper_72 rfl ?_
    refine v_iald 74 h (rfl : kK 113 = 9) dX12_ofKeeper_73 rfl (fun h => ?_)
    exact v_iretP h rfl dX12_ofKeeper_74
  refine v_ite h (fun q h => ?_) (fun q4 h => ?_)
  · refine v_tabInZ 75 4 dX12_ofKeeper_1 (ti_of q kc_ti_4) (by decide) (by decide) rfl (by decide) ?_
    refine v_aload_n 76 0 dX12_ofKeeper_75 rfl rfl rfl ?_
    refine vg_8_0 79 (rfl : kK 112 = 8) in_X12_ofKeeper_8 (mem_at 1 rfl) dX12_ofKeeper_76 rfl ?_
    refine v_bipush 81 32 dX12_ofKeeper_79 kc_b_32 rfl ?_
    refine v_iload_n 82 1 dX12_ofKeeper_81 rfl rfl rfl ?_
    refine v_iadd 83 dX12_ofKeeper_82 rfl ?_
    refine v_iald 84 h (rfl : kK 113 = 9) dX12_ofKeeper_83 rfl (fun h => ?_)
    exact v_iretP h rfl dX12_ofKeeper_84
  have a0 := ne_lit q0 kc_ti_0
  have a1 := ne_lit q1 kc_ti_1
  have a2 := ne_lit q2 kc_ti_2
  have a3 := ne_lit q3 kc_ti_3
  have a4 := ne_lit q4 kc_ti_4
  refine v_tabOut 85 dX12_ofKeeper_1 (by omega) (by decide) ?_
  refine v_aload_n 86 0 dX12_ofKeeper_85 rfl rfl rfl ?_
  refine vg_8_0 89 (rfl : kK 112 = 8) in_X12_ofKeeper_8 (mem_at 1 rfl) dX12_ofKeeper_86 rfl ?_
  refine v_iconst 90 3 dX12_ofKeeper_89 kc_i_3 rfl ?_
  refine v_iald 91 h (rfl : kK 113 = 9) dX12_ofKeeper_90 rfl (fun h => ?_)
  refine v_iload_n 92 1 dX12_ofKeeper_91 rfl rfl rfl ?_
  refine v_ishr 93 dX12_ofKeeper_92 rfl ?_
  refine v_iconst 94 1 dX12_ofKeeper_93 kc_i_1 rfl ?_
  refine v_iand 95 dX12_ofKeeper_94 rfl ?_
  exact v_iretP h rfl dX12_ofKeeper_95
-- public long digest();
abbrev rm_X12_digest : Room := { frames := 2, cells := 0, slots := 0, locals := 43 }
theorem cl_X12_digest : Cl yX12_digest wsX12_digest cX12_digest 3 (some .long) rm_X12_digest 0 := ⟨⟨_, rfl⟩, rfl, rfl, by decide +kernel, by decide +kernel, by decide +kernel⟩
theorem in_X12_digest_8 : ∀ w ∈ wsX120, w ∈ wsX12_digest := fun w h => List.mem_cons_of_mem _ (List.mem_append_right _ h)
def b_X12_digest_178 : Nat → Sg → Int32 → Option (Int64 × Sg)
  | 0, _, _ => none
  | f + 1, σ, l1 => (if inb 87 (kLen 113) = true then (if (4 * (rI σ 113 (ix 87))) ≤ l1 then (f_X12_mix σ (rL σ 112 4)).bind fun s2 => (f_X12_mix s2 (rL s2 112 5)).bind fun s3 => (some (rL s3 112 19, s3)) else (if inb (88 + l1) (kLen 113) = true then (f_X12_mix σ (Int32.toInt64 (rI σ 113 (ix (88 + l1))))).bind fun s4 => nam (l1 + 1) fun x5 => b_X12_digest_178 f s4 x5 else none)) else none)
def b_X12_digest_143 : Nat → Sg → Int32 → Option (Int64 × Sg)
  | 0, _, _ => none
  | f + 1, σ, l1 => (if inb 62 (kLen 113) = true then (if (4 * (rI σ 113 (ix 62))) ≤ l1 then b_X12_digest_178 FU σ 0 else (if inb (63 + l1) (kLen 113) = true then (f_X12_mix σ (Int32.toInt64 (rI σ 113 (ix (63 + l1))))).bind fun s6 => nam (l1 + 1) fun x7 => b_X12_digest_143 f s6 x7 else none)) else none)
def b_X12_digest_108 : Nat → Sg → Int32 → Option (Int64 × Sg)
  | 0, _, _ => none
  | f + 1, σ, l1 => (if inb 43 (kLen 113) = true then (if (3 * (rI σ 113 (ix 43))) ≤ l1 then b_X12_digest_143 FU σ 0 else (if inb (44 + l1) (kLen 113) = true then (f_X12_mix σ (Int32.toInt64 (rI σ 113 (ix (44 + l1))))).bind fun s8 => nam (l1 + 1) fun x9 => b_X12_digest_108 f s8 x9 else none)) else none)
def b_X12_digest_76 : Nat → Sg → Int32 → Option (Int64 × Sg)
  | 0, _, _ => none
  | f + 1, σ, l1 => (if inb 1 (kLen 113) = true then (if (rI σ 113 (ix 1)) ≤ l1 then b_X12_digest_108 FU σ 0 else (if inb (39 + l1) (kLen 113) = true then (f_X12_mix σ (Int32.toInt64 (rI σ 113 (ix (39 + l1))))).bind fun s10 => nam (l1 + 1) fun x11 => b_X12_digest_76 f s10 x11 else none)) else none)
def b_X12_digest_45 (c33 : Sg → Int32 → Option (Int64 × Sg)) : Nat → Sg → Int32 → Int32 → Option (Int64 × Sg)
  | 0, _, _, _ => none
  | f + 1, σ, l1, l2 => (if 6 ≤ l2 then nam (l1 + 1) fun x12 => c33 σ x12 else (f_X12_ofKeeper σ l1 l2).bind fun x13 => (f_X12_mix σ (Int32.toInt64 x13)).bind fun s14 => nam (l2 + 1) fun x15 => b_X12_digest_45 c33 f s14 l1 x15)
def b_X12_digest_33 : Nat → Sg → Int32 → Option (Int64 × Sg)
  | 0, _, _ => none
  | f + 1, σ, l1 => (if inb 0 (kLen 113) = true then (if (rI σ 113 (ix 0)) ≤ l1 then b_X12_digest_76 FU σ 0 else b_X12_digest_45 (b_X12_digest_33 f) FU σ l1 0) else none)
def b_X12_digest_9 : Nat → Sg → Int32 → Option (Int64 × Sg)
  | 0, _, _ => none
  | f + 1, σ, l1 => (if 10 ≤ l1 then b_X12_digest_33 FU σ 0 else (f_X12_countOf σ l1).bind fun x16 => (f_X12_mix σ (Int32.toInt64 x16)).bind fun s17 => nam (l1 + 1) fun x18 => b_X12_digest_9 f s17 x18)
def f_X12_digest (σ : Sg) : Option (Int64 × Sg) := nam (stL σ 112 19 1481) fun s1 => b_X12_digest_9 FU s1 0
set_option maxRecDepth 100000 in
set_option maxHeartbeats 4000000 in
theorem q_X12_digest_178 {g : Cx} (r : Int64) (τ : Sg) : ∀ f : Nat, ∀ σ : Sg, ∀ l1 : Int32, b_X12_digest_178 f σ l1 = some (r, τ) → V g cX12_digest RX12 wsX12_digest 3 (some .long) rm_X12_digest (some (.long r)) τ σ 178 [(0, .ref (g.1 112)), (1, .int l1)] [] := by
  intro f
  induction f with
  | zero =>
    intro σ l1 h
    cases h
  | succ f ih =>
    intro σ l1 h
    rw [b_X12_digest_178] at h
    refine v_iload_n 179 1 dX12_digest_178 rfl rfl rfl ?_
    refine v_iconst 180 4 dX12_digest_179 kc_i_4 rfl ?_
    refine v_aload_n 181 0 dX12_digest_180 rfl rfl rfl ?_
    refine vg_8_0 184 (rfl : kK 112 = 8) in_X12_digest_8 (mem_at 3 rfl) dX12_digest_181 rfl ?_
    refine v_bipush 186 87 dX12_digest_184 kc_b_87 rfl ?_
    refine v_iald 187 h (rfl : kK 113 = 9) dX12_digest_186 rfl (fun h => ?_)
    refine v_imul 188 dX12_digest_187 rfl ?_
    refine v_icmp_ge 191 211 h dX12_digest_188 rfl (by decide) (fun h => ?_) (fun h => ?_)
    · refine v_aload_n 212 0 dX12_digest_211 rfl rfl rfl ?_
      refine v_aload_n 213 0 dX12_digest_212 rfl rfl rfl ?_
      refine vg_8_4 216 (rfl : kK 112 = 8) in_X12_digest_8 (mem_at 4 rfl) dX12_digest_213 rfl ?_
      obtain ⟨s2, h0, h⟩ := ob h
      refine v_cV 219 8 [.long (rL σ 112 4)] (rfl : kK 112 = 8) rfl (c_X12_mix (rL σ 112 4) _ h0) cl_X12_mix gX12_digest_X12_mix rfl ⟨Nat.le_of_ble_eq_true rfl, Nat.le_of_ble_eq_true rfl⟩ rfl rfl (Nat.le_of_ble_eq_true rfl) dX12_digest_216 rfl ?_
      refine v_aload_n 220 0 dX12_digest_219 rfl rfl rfl ?_
      refine v_aload_n 221 0 dX12_digest_220 rfl rfl rfl ?_
      refine vg_8_5 224 (rfl : kK 112 = 8) in_X12_digest_8 (mem_at 5 rfl) dX12_digest_221 rfl ?_
      obtain ⟨s3, h0, h⟩ := ob h
      refine v_cV 227 8 [.long (rL s2 112 5)] (rfl : kK 112 = 8) rfl (c_X12_mix (rL s2 112 5) _ h0) cl_X12_mix gX12_digest_X12_mix rfl ⟨Nat.le_of_ble_eq_true rfl, Nat.le_of_ble_eq_true rfl⟩ rfl rfl (Nat.le_of_ble_eq_true rfl) dX12_digest_224 rfl ?_
      refine v_aload_n 228 0 dX12_digest_227 rfl rfl rfl ?_
      refine vg_8_19 231 (rfl : kK 112 = 8) in_X12_digest_8 (mem_at 2 rfl) dX12_digest_228 rfl ?_
      exact v_lretS h rfl dX12_digest_231
    · refine v_aload_n 192 0 dX12_digest_191 rfl rfl rfl ?_
      refine v_aload_n 193 0 dX12_digest_192 rfl rfl rfl ?_
      refine vg_8_0 196 (rfl : kK 112 = 8) in_X12_digest_8 (mem_at 3 rfl) dX12_digest_193 rfl ?_
      refine v_bipush 198 88 dX12_digest_196 kc_b_88 rfl ?_
      refine v_iload_n 199 1 dX12_digest_198 rfl rfl rfl ?_
      refine v_iadd 200 dX12_digest_199 rfl ?_
      refine v_iald 201 h (rfl : kK 113 = 9) dX12_digest_200 rfl (fun h => ?_)
      refine v_i2l 202 dX12_digest_201 rfl ?_
      obtain ⟨s4, h0, h⟩ := ob h
      refine v_cV 205 8 [.long (Int32.toInt64 (rI σ 113 (ix (88 + l1))))] (rfl : kK 112 = 8) rfl (c_X12_mix (Int32.toInt64 (rI σ 113 (ix (88 + l1)))) _ h0) cl_X12_mix gX12_digest_X12_mix rfl ⟨Nat.le_of_ble_eq_true rfl, Nat.le_of_ble_eq_true rfl⟩ rfl rfl (Nat.le_of_ble_eq_true rfl) dX12_digest_202 rfl ?_
      refine v_iincN 208 1 h dX12_digest_205 rfl kc_i_1 (by decide) rfl (fun _ => rfl) (fun x5 h => ?_)
      refine v_goto 178 dX12_digest_208 (by decide) ?_
      refine v_sub [1, 0] rfl ?_
      exact ih s4 x5 h
set_option maxRecDepth 100000 in
set_option maxHeartbeats 4000000 in
theorem q_X12_digest_143 {g : Cx} (r : Int64) (τ : Sg) : ∀ f : Nat, ∀ σ : Sg, ∀ l1 : Int32, b_X12_digest_143 f σ l1 = some (r, τ) → V g cX12_digest RX12 wsX12_digest 3 (some .long) rm_X12_digest (some (.long r)) τ σ 143 [(0, .ref (g.1 112)), (1, .int l1)] [] := by
  intro f
  induction f with
  | zero =>
    intro σ l1 h
    cases h
  | succ f ih =>
    intro σ l1 h
    rw [b_X12_digest_143] at h
    refine v_iload_n 144 1 dX12_digest_143 rfl rfl rfl ?_
    refine v_iconst 145 4 dX12_digest_144 kc_i_4 rfl ?_
    refine v_aload_n 146 0 dX12_digest_145 rfl rfl rfl ?_
    refine vg_8_0 149 (rfl : kK 112 = 8) in_X12_digest_8 (mem_at 3 rfl) dX12_digest_146 rfl ?_
    refine v_bipush 151 62 dX12_digest_149 kc_b_62 rfl ?_
    refine v_iald 152 h (rfl : kK 113 = 9) dX12_digest_151 rfl (fun h => ?_)
    refine v_imul 153 dX12_digest_152 rfl ?_
    refine v_icmp_ge 156 176 h dX12_digest_153 rfl (by decide) (fun h => ?_) (fun h => ?_)
    · refine v_iconst 177 0 dX12_digest_176 kc_i_0 rfl ?_
      refine v_istore_n 178 dX12_digest_177 rfl (by decide) rfl rfl ?_
      refine v_sub [1, 0] rfl ?_
      exact q_X12_digest_178 r τ FU σ 0 h
    · refine v_aload_n 157 0 dX12_digest_156 rfl rfl rfl ?_
      refine v_aload_n 158 0 dX12_digest_157 rfl rfl rfl ?_
      refine vg_8_0 161 (rfl : kK 112 = 8) in_X12_digest_8 (mem_at 3 rfl) dX12_digest_158 rfl ?_
      refine v_bipush 163 63 dX12_digest_161 kc_b_63 rfl ?_
      refine v_iload_n 164 1 dX12_digest_163 rfl rfl rfl ?_
      refine v_iadd 165 dX12_digest_164 rfl ?_
      refine v_iald 166 h (rfl : kK 113 = 9) dX12_digest_165 rfl (fun h => ?_)
      refine v_i2l 167 dX12_digest_166 rfl ?_
      obtain ⟨s6, h0, h⟩ := ob h
      refine v_cV 170 8 [.long (Int32.toInt64 (rI σ 113 (ix (63 + l1))))] (rfl : kK 112 = 8) rfl (c_X12_mix (Int32.toInt64 (rI σ 113 (ix (63 + l1)))) _ h0) cl_X12_mix gX12_digest_X12_mix rfl ⟨Nat.le_of_ble_eq_true rfl, Nat.le_of_ble_eq_true rfl⟩ rfl rfl (Nat.le_of_ble_eq_true rfl) dX12_digest_167 rfl ?_
      refine v_iincN 173 1 h dX12_digest_170 rfl kc_i_1 (by decide) rfl (fun _ => rfl) (fun x7 h => ?_)
      refine v_goto 143 dX12_digest_173 (by decide) ?_
      refine v_sub [1, 0] rfl ?_
      exact ih s6 x7 h
set_option maxRecDepth 100000 in
set_option maxHeartbeats 4000000 in
theorem q_X12_digest_108 {g : Cx} (r : Int64) (τ : Sg) : ∀ f : Nat, ∀ σ : Sg, ∀ l1 : Int32, b_X12_digest_108 f σ l1 = some (r, τ) → V g cX12_digest RX12 wsX12_digest 3 (some .long) rm_X12_digest (some (.long r)) τ σ 108 [(0, .ref (g.1 112)), (1, .int l1)] [] := by
  intro f
  induction f with
  | zero =>
    intro σ l1 h
    cases h
  | succ f ih =>
    intro σ l1 h
    rw [b_X12_digest_108] at h
    refine v_iload_n 109 1 dX12_digest_108 rfl rfl rfl ?_
    refine v_iconst 110 3 dX12_digest_109 kc_i_3 rfl ?_
    refine v_aload_n 111 0 dX12_digest_110 rfl rfl rfl ?_
    refine vg_8_0 114 (rfl : kK 112 = 8) in_X12_digest_8 (mem_at 3 rfl) dX12_digest_111 rfl ?_
    refine v_bipush 116 43 dX12_digest_114 kc_b_43 rfl ?_
    refine v_iald 117 h (rfl : kK 113 = 9) dX12_digest_116 rfl (fun h => ?_)
    refine v_imul 118 dX12_digest_117 rfl ?_
    refine v_icmp_ge 121 141 h dX12_digest_118 rfl (by decide) (fun h => ?_) (fun h => ?_)
    · refine v_iconst 142 0 dX12_digest_141 kc_i_0 rfl ?_
      refine v_istore_n 143 dX12_digest_142 rfl (by decide) rfl rfl ?_
      refine v_sub [1, 0] rfl ?_
      exact q_X12_digest_143 r τ FU σ 0 h
    · refine v_aload_n 122 0 dX12_digest_121 rfl rfl rfl ?_
      refine v_aload_n 123 0 dX12_digest_122 rfl rfl rfl ?_
      refine vg_8_0 126 (rfl : kK 112 = 8) in_X12_digest_8 (mem_at 3 rfl) dX12_digest_123 rfl ?_
      refine v_bipush 128 44 dX12_digest_126 kc_b_44 rfl ?_
      refine v_iload_n 129 1 dX12_digest_128 rfl rfl rfl ?_
      refine v_iadd 130 dX12_digest_129 rfl ?_
      refine v_iald 131 h (rfl : kK 113 = 9) dX12_digest_130 rfl (fun h => ?_)
      refine v_i2l 132 dX12_digest_131 rfl ?_
      obtain ⟨s8, h0, h⟩ := ob h
      refine v_cV 135 8 [.long (Int32.toInt64 (rI σ 113 (ix (44 + l1))))] (rfl : kK 112 = 8) rfl (c_X12_mix (Int32.toInt64 (rI σ 113 (ix (44 + l1)))) _ h0) cl_X12_mix gX12_digest_X12_mix rfl ⟨Nat.le_of_ble_eq_true rfl, Nat.le_of_ble_eq_true rfl⟩ rfl rfl (Nat.le_of_ble_eq_true rfl) dX12_digest_132 rfl ?_
      refine v_iincN 138 1 h dX12_digest_135 rfl kc_i_1 (by decide) rfl (fun _ => rfl) (fun x9 h => ?_)
      refine v_goto 108 dX12_digest_138 (by decide) ?_
      refine v_sub [1, 0] rfl ?_
      exact ih s8 x9 h
set_option maxRecDepth 100000 in
set_option maxHeartbeats 4000000 in
theorem q_X12_digest_76 {g : Cx} (r : Int64) (τ : Sg) : ∀ f : Nat, ∀ σ : Sg, ∀ l1 : Int32, b_X12_digest_76 f σ l1 = some (r, τ) → V g cX12_digest RX12 wsX12_digest 3 (some .long) rm_X12_digest (some (.long r)) τ σ 76 [(0, .ref (g.1 112)), (1, .int l1)] [] := by
  intro f
  induction f with
  | zero =>
    intro σ l1 h
    cases h
  | succ f ih =>
    intro σ l1 h
    rw [b_X12_digest_76] at h
    refine v_iload_n 77 1 dX12_digest_76 rfl rfl rfl ?_
    refine v_aload_n 78 0 dX12_digest_77 rfl rfl rfl ?_
    refine vg_8_0 81 (rfl : kK 112 = 8) in_X12_digest_8 (mem_at 3 rfl) dX12_digest_78 rfl ?_
    refine v_iconst 82 1 dX12_digest_81 kc_i_1 rfl ?_
    refine v_iald 83 h (rfl : kK 113 = 9) dX12_digest_82 rfl (fun h => ?_)
    refine v_icmp_ge 86 106 h dX12_digest_83 rfl (by decide) (fun h => ?_) (fun h => ?_)
    · refine v_iconst 107 0 dX12_digest_106 kc_i_0 rfl ?_
      refine v_istore_n 108 dX12_digest_107 rfl (by decide) rfl rfl ?_
      refine v_sub [1, 0] rfl ?_
      exact q_X12_digest_108 r τ FU σ 0 h
    · refine v_aload_n 87 0 dX12_digest_86 rfl rfl rfl ?_
      refine v_aload_n 88 0 dX12_digest_87 rfl rfl rfl ?_
      refine vg_8_0 91 (rfl : kK 112 = 8) in_X12_digest_8 (mem_at 3 rfl) dX12_digest_88 rfl ?_
      refine v_bipush 93 39 dX12_digest_91 kc_b_39 rfl ?_
      refine v_iload_n 94 1 dX12_digest_93 rfl rfl rfl ?_
      refine v_iadd 95 dX12_digest_94 rfl ?_
      refine v_iald 96 h (rfl : kK 113 = 9) dX12_digest_95 rfl (fun h => ?_)
      refine v_i2l 97 dX12_digest_96 rfl ?_
      obtain ⟨s10, h0, h⟩ := ob h
      refine v_cV 100 8 [.long (Int32.toInt64 (rI σ 113 (ix (39 + l1))))] (rfl : kK 112 = 8) rfl (c_X12_mix (Int32.toInt64 (rI σ 113 (ix (39 + l1)))) _ h0) cl_X12_mix gX12_digest_X12_mix rfl ⟨Nat.le_of_ble_eq_true rfl, Nat.le_of_ble_eq_true rfl⟩ rfl rfl (Nat.le_of_ble_eq_true rfl) dX12_digest_97 rfl ?_
      refine v_iincN 103 1 h dX12_digest_100 rfl kc_i_1 (by decide) rfl (fun _ => rfl) (fun x11 h => ?_)
      refine v_goto 76 dX12_digest_103 (by decide) ?_
      refine v_sub [1, 0] rfl ?_
      exact ih s10 x11 h
set_option maxRecDepth 100000 in
set_option maxHeartbeats 4000000 in
theorem q_X12_digest_45 {g : Cx} (r : Int64) (τ : Sg) (c33 : Sg → Int32 → Option (Int64 × Sg)) (hc33 : ∀ σ : Sg, ∀ l1 : Int32, c33 σ l1 = some (r, τ) → V g cX12_digest RX12 wsX12_digest 3 (some .long) rm_X12_digest (some (.long r)) τ σ 33 [(0, .ref (g.1 112)), (1, .int l1)] []) : ∀ f : Nat, ∀ σ : Sg, ∀ l1 : Int32, ∀ l2 : Int32, b_X12_digest_45 c33 f σ l1 l2 = some (r, τ) → V g cX12_digest RX12 wsX12_digest 3 (some .long) rm_X12_digest (some (.long r)) τ σ 45 [(0, .ref (g.1 112)), (1, .int l1), (2, .int l2)] [] := by
  intro f
  induction f with
  | zero =>
    intro σ l1 l2 h
    cases h
  | succ f ih =>
    intro σ l1 l2 h
    rw [b_X12_digest_45] at h
    refine v_iload_n 46 2 dX12_digest_45 rfl rfl rfl ?_
    refine v_bipush 48 6 dX12_digest_46 kc_b_6 rfl ?_
    refine v_icmp_ge 51 68 h dX12_digest_48 rfl (by decide) (fun h => ?_) (fun h => ?_)
    · refine v_iincN 71 1 h dX12_digest_68 rfl kc_i_1 (by decide) rfl (fun _ => rfl) (fun x12 h => ?_)
      refine v_goto 33 dX12_digest_71 (by decide) ?_
      refine v_sub [1, 0] rfl ?_
      exact hc33 σ x12 h
    · refine v_aload_n 52 0 dX12_digest_51 rfl rfl rfl ?_
      refine v_aload_n 53 0 dX12_digest_52 rfl rfl rfl ?_
      refine v_iload_n 54 1 dX12_digest_53 rfl rfl rfl ?_
      refine v_iload_n 55 2 dX12_digest_54 rfl rfl rfl ?_
      obtain ⟨x13, h0, h⟩ := ob h
      refine v_cV 58 8 [.int l1, .int l2] (rfl : kK 112 = 8) rfl (c_X12_ofKeeper l1 l2 _ h0) cl_X12_ofKeeper gX12_digest_X12_ofKeeper rfl ⟨Nat.le_of_ble_eq_true rfl, Nat.le_of_ble_eq_true rfl⟩ rfl rfl (Nat.le_of_ble_eq_true rfl) dX12_digest_55 rfl ?_
      refine v_i2l 59 dX12_digest_58 rfl ?_
      obtain ⟨s14, h0, h⟩ := ob h
      refine v_cV 62 8 [.long (Int32.toInt64 x13)] (rfl : kK 112 = 8) rfl (c_X12_mix (Int32.toInt64 x13) _ h0) cl_X12_mix gX12_digest_X12_mix rfl ⟨Nat.le_of_ble_eq_true rfl, Nat.le_of_ble_eq_true rfl⟩ rfl rfl (Nat.le_of_ble_eq_true rfl) dX12_digest_59 rfl ?_
      refine v_iincN 65 2 h dX12_digest_62 rfl kc_i_1 (by decide) rfl (fun _ => rfl) (fun x15 h => ?_)
      refine v_goto 45 dX12_digest_65 (by decide) ?_
      refine v_sub [1, 2, 0] rfl ?_
      exact ih s14 l1 x15 h
set_option maxRecDepth 100000 in
set_option maxHeartbeats 4000000 in
theorem q_X12_digest_33 {g : Cx} (r : Int64) (τ : Sg) : ∀ f : Nat, ∀ σ : Sg, ∀ l1 : Int32, b_X12_digest_33 f σ l1 = some (r, τ) → V g cX12_digest RX12 wsX12_digest 3 (some .long) rm_X12_digest (some (.long r)) τ σ 33 [(0, .ref (g.1 112)), (1, .int l1)] [] := by
  intro f
  induction f with
  | zero =>
    intro σ l1 h
    cases h
  | succ f ih =>
    intro σ l1 h
    rw [b_X12_digest_33] at h
    refine v_iload_n 34 1 dX12_digest_33 rfl rfl rfl ?_
    refine v_aload_n 35 0 dX12_digest_34 rfl rfl rfl ?_
    refine vg_8_0 38 (rfl : kK 112 = 8) in_X12_digest_8 (mem_at 3 rfl) dX12_digest_35 rfl ?_
    refine v_iconst 39 0 dX12_digest_38 kc_i_0 rfl ?_
    refine v_iald 40 h (rfl : kK 113 = 9) dX12_digest_39 rfl (fun h => ?_)
    refine v_icmp_ge 43 74 h dX12_digest_40 rfl (by decide) (fun h => ?_) (fun h => ?_)
    · refine v_iconst 75 0 dX12_digest_74 kc_i_0 rfl ?_
      refine v_istore_n 76 dX12_digest_75 rfl (by decide) rfl rfl ?_
      refine v_sub [1, 0] rfl ?_
      exact q_X12_digest_76 r τ FU σ 0 h
    · refine v_iconst 44 0 dX12_digest_43 kc_i_0 rfl ?_
      refine v_istore_n 45 dX12_digest_44 rfl (by decide) rfl rfl ?_
      refine v_sub [1, 2, 0] rfl ?_
      exact q_X12_digest_45 r τ (b_X12_digest_33 f) ih FU σ l1 0 h
set_option maxRecDepth 100000 in
set_option maxHeartbeats 4000000 in
theorem q_X12_digest_9 {g : Cx} (r : Int64) (τ : Sg) : ∀ f : Nat, ∀ σ : Sg, ∀ l1 : Int32, b_X12_digest_9 f σ l1 = some (r, τ) → V g cX12_digest RX12 wsX12_digest 3 (some .long) rm_X12_digest (some (.long r)) τ σ 9 [(0, .ref (g.1 112)), (1, .int l1)] [] := by
  intro f
  induction f with
  | zero =>
    intro σ l1 h
    cases h
  | succ f ih =>
    intro σ l1 h
    rw [b_X12_digest_9] at h
    refine v_iload_n 10 1 dX12_digest_9 rfl rfl rfl ?_
    refine v_bipush 12 10 dX12_digest_10 kc_b_10 rfl ?_
    refine v_icmp_ge 15 31 h dX12_digest_12 rfl (by decide) (fun h => ?_) (fun h => ?_)
    · refine v_iconst 32 0 dX12_digest_31 kc_i_0 rfl ?_
      refine v_istore_n 33 dX12_digest_32 rfl (by decide) rfl rfl ?_
      refine v_sub [1, 0] rfl ?_
      exact q_X12_digest_33 r τ FU σ 0 h
    · refine v_aload_n 16 0 dX12_digest_15 rfl rfl rfl ?_
      refine v_aload_n 17 0 dX12_digest_16 rfl rfl rfl ?_
      refine v_iload_n 18 1 dX12_digest_17 rfl rfl rfl ?_
      obtain ⟨x16, h0, h⟩ := ob h
      refine v_cV 21 8 [.int l1] (rfl : kK 112 = 8) rfl (c_X12_countOf l1 _ h0) cl_X12_countOf gX12_digest_X12_countOf rfl ⟨Nat.le_of_ble_eq_true rfl, Nat.le_of_ble_eq_true rfl⟩ rfl rfl (Nat.le_of_ble_eq_true rfl) dX12_digest_18 rfl ?_
      refine v_i2l 22 dX12_digest_21 rfl ?_
      obtain ⟨s17, h0, h⟩ := ob h
      refine v_cV 25 8 [.long (Int32.toInt64 x16)] (rfl : kK 112 = 8) rfl (c_X12_mix (Int32.toInt64 x16) _ h0) cl_X12_mix gX12_digest_X12_mix rfl ⟨Nat.le_of_ble_eq_true rfl, Nat.le_of_ble_eq_true rfl⟩ rfl rfl (Nat.le_of_ble_eq_true rfl) dX12_digest_22 rfl ?_
      refine v_iincN 28 1 h dX12_digest_25 rfl kc_i_1 (by decide) rfl (fun _ => rfl) (fun x18 h => ?_)
      refine v_goto 9 dX12_digest_28 (by decide) ?_
      refine v_sub [1, 0] rfl ?_
      exact ih s17 x18 h
set_option maxRecDepth 100000 in
set_option maxHeartbeats 4000000 in
theorem c_X12_digest {g : Cx} {σ : Sg} (r : Int64) (τ : Sg) (h : f_X12_digest σ = some (r, τ)) : ∀ l, MetF l yX12_digest wsX12_digest rm_X12_digest g [.ref (g.1 112)] σ (some (.long r)) τ := by
  refine MetF.of (own0 := RX12) (lv0 := [(0, .ref (g.1 112))]) rfl cl_X12_digest (by decide) (Nat.le_of_ble_eq_true rfl) rfl ?_
  unfold f_X12_digest at h
  refine v_aload_n 1 0 dX12_digest_0 rfl rfl rfl ?_
  refine v_ldc2 4 1481 dX12_digest_1 (mem_at 1 rfl) rfl ?_
  refine vp_8_19 7 h (rfl : kK 112 = 8) in_X12_digest_8 (mem_at 2 rfl) dX12_digest_4 rfl (fun s1 h => ?_)
  refine v_iconst 8 0 dX12_digest_7 kc_i_0 rfl ?_
  refine v_istore_n 9 dX12_digest_8 rfl (by decide) rfl rfl ?_
  refine v_sub [1, 0] rfl ?_
  exact q_X12_digest_9 r τ FU s1 0 h
-- private void empties(int);
abbrev rm_X12_empties : Room := { frames := 0, cells := 0, slots := 0, locals := 0 }
theorem cl_X12_empties : Cl yX12_empties wsX12_empties cX12_empties 3 none rm_X12_empties 1 := ⟨⟨_, rfl⟩, rfl, rfl, by decide +kernel, by decide +kernel, by decide +kernel⟩
theorem in_X12_empties_8 : ∀ w ∈ wsX120, w ∈ wsX12_empties := fun w h => List.mem_cons_of_mem _ (List.mem_append_right _ h)
def b_X12_empties_2 (l1 : Int32) : Nat → Sg → Int32 → Option Sg
  | 0, _, _ => none
  | f + 1, σ, l2 => (if 241 ≤ l2 then (some σ) else (if inb (l1 + l2) (kLen 113) = true then nam (stI σ 113 (ix (l1 + l2)) 0) (fun s1 => nam (l2 + 1) fun x2 => b_X12_empties_2 l1 f s1 x2) else none))
def f_X12_empties (σ : Sg) (l1 : Int32) : Option Sg := b_X12_empties_2 l1 FU σ 0
set_option maxRecDepth 100000 in
set_option maxHeartbeats 4000000 in
theorem q_X12_empties_2 {g : Cx} (l1 : Int32) (τ : Sg) : ∀ f : Nat, ∀ σ : Sg, ∀ l2 : Int32, b_X12_empties_2 l1 f σ l2 = some τ → V g cX12_empties RX12 wsX12_empties 3 none rm_X12_empties none τ σ 2 [(0, .ref (g.1 112)), (1, .int l1), (2, .int l2)] [] := by
  intro f
  induction f with
  | zero =>
    intro σ l2 h
    cases h
  | succ f ih =>
    intro σ l2 h
    rw [b_X12_empties_2] at h
    refine v_iload_n 3 2 dX12_empties_2 rfl rfl rfl ?_
    refine v_sipush 6 241 dX12_empties_3 kc_s_241 rfl ?_
    refine v_icmp_ge 9 24 h dX12_empties_6 rfl (by decide) (fun h => ?_) (fun h => ?_)
    · exact v_vretS h rfl dX12_empties_24
    · refine v_aload_n 10 0 dX12_empties_9 rfl rfl rfl ?_
      refine vg_8_0 13 (rfl : kK 112 = 8) in_X12_empties_8 (mem_at 1 rfl) dX12_empties_10 rfl ?_
      refine v_iload_n 14 1 dX12_empties_13 rfl rfl rfl ?_
      refine v_iload_n 15 2 dX12_empties_14 rfl rfl rfl ?_
      refine v_iadd 16 dX12_empties_15 rfl ?_
      refine v_iconst 17 0 dX12_empties_16 kc_i_0 rfl ?_
      refine v_iast 18 h (rfl : kK 113 = 9) dX12_empties_17 rfl (fun s1 h => ?_)
      refine v_iincN 21 2 h dX12_empties_18 rfl kc_i_1 (by decide) rfl (fun _ => rfl) (fun x2 h => ?_)
      refine v_goto 2 dX12_empties_21 (by decide) ?_
      refine v_sub [1, 2, 0] rfl ?_
      exact ih s1 x2 h
set_option maxRecDepth 100000 in
set_option maxHeartbeats 4000000 in
theorem c_X12_empties {g : Cx} {σ : Sg} (l1 : Int32) (τ : Sg) (h : f_X12_empties σ l1 = some τ) : ∀ l, MetF l yX12_empties wsX12_empties rm_X12_empties g [.ref (g.1 112), .int l1] σ none τ := by
  refine MetF.of (own0 := RX12) (lv0 := [(0, .ref (g.1 112)), (1, .int l1)]) rfl cl_X12_empties (by decide) (Nat.le_of_ble_eq_true rfl) rfl ?_
  unfold f_X12_empties at h
  refine v_iconst 1 0 dX12_empties_0 kc_i_0 rfl ?_
  refine v_istore_n 2 dX12_empties_1 rfl (by decide) rfl rfl ?_
  refine v_sub [1, 2, 0] rfl ?_
  exact q_X12_empties_2 l1 τ FU σ 0 h
-- private void emptiesParts();
abbrev rm_X12_emptiesParts : Room := { frames := 0, cells := 0, slots := 0, locals := 0 }
theorem cl_X12_emptiesParts : Cl yX12_emptiesParts wsX12_emptiesParts cX12_emptiesParts 2 none rm_X12_emptiesParts 0 := ⟨⟨_, rfl⟩, rfl, rfl, by decide +kernel, by decide +kernel, by decide +kernel⟩
theorem in_X12_emptiesParts_8 : ∀ w ∈ wsX120, w ∈ wsX12_emptiesParts := fun w h => List.mem_cons_of_mem _ (List.mem_append_right _ h)
def b_X12_emptiesParts_2 : Nat → Sg → Int32 → Option Sg
  | 0, _, _ => none
  | f + 1, σ, l1 => (if 300 ≤ l1 then (some σ) else (if inb l1 (kLen 120) = true then nam (stI σ 120 (ix l1) 0) (fun s1 => nam (l1 + 1) fun x2 => b_X12_emptiesParts_2 f s1 x2) else none))
def f_X12_emptiesParts (σ : Sg) : Option Sg := b_X12_emptiesParts_2 FU σ 0
set_option maxRecDepth 100000 in
set_option maxHeartbeats 4000000 in
theorem q_X12_emptiesParts_2 {g : Cx} (τ : Sg) : ∀ f : Nat, ∀ σ : Sg, ∀ l1 : Int32, b_X12_emptiesParts_2 f σ l1 = some τ → V g cX12_emptiesParts RX12 wsX12_emptiesParts 2 none rm_X12_emptiesParts none τ σ 2 [(0, .ref (g.1 112)), (1, .int l1)] [] := by
  intro f
  induction f with
  | zero =>
    intro σ l1 h
    cases h
  | succ f ih =>
    intro σ l1 h
    rw [b_X12_emptiesParts_2] at h
    refine v_iload_n 3 1 dX12_emptiesParts_2 rfl rfl rfl ?_
    refine v_sipush 6 300 dX12_emptiesParts_3 kc_s_300 rfl ?_
    refine v_icmp_ge 9 22 h dX12_emptiesParts_6 rfl (by decide) (fun h => ?_) (fun h => ?_)
    · exact v_vretS h rfl dX12_emptiesParts_22
    · refine v_aload_n 10 0 dX12_emptiesParts_9 rfl rfl rfl ?_
      refine vg_8_17 13 (rfl : kK 112 = 8) in_X12_emptiesParts_8 (mem_at 1 rfl) dX12_emptiesParts_10 rfl ?_
      refine v_iload_n 14 1 dX12_emptiesParts_13 rfl rfl rfl ?_
      refine v_iconst 15 0 dX12_emptiesParts_14 kc_i_0 rfl ?_
      refine v_iast 16 h (rfl : kK 120 = 9) dX12_emptiesParts_15 rfl (fun s1 h => ?_)
      refine v_iincN 19 1 h dX12_emptiesParts_16 rfl kc_i_1 (by decide) rfl (fun _ => rfl) (fun x2 h => ?_)
      refine v_goto 2 dX12_emptiesParts_19 (by decide) ?_
      refine v_sub [1, 0] rfl ?_
      exact ih s1 x2 h
set_option maxRecDepth 100000 in
set_option maxHeartbeats 4000000 in
theorem c_X12_emptiesParts {g : Cx} {σ : Sg} (τ : Sg) (h : f_X12_emptiesParts σ = some τ) : ∀ l, MetF l yX12_emptiesParts wsX12_emptiesParts rm_X12_emptiesParts g [.ref (g.1 112)] σ none τ := by
  refine MetF.of (own0 := RX12) (lv0 := [(0, .ref (g.1 112))]) rfl cl_X12_emptiesParts (by decide) (Nat.le_of_ble_eq_true rfl) rfl ?_
  unfold f_X12_emptiesParts at h
  refine v_iconst 1 0 dX12_emptiesParts_0 kc_i_0 rfl ?_
  refine v_istore_n 2 dX12_emptiesParts_1 rfl (by decide) rfl rfl ?_
  refine v_sub [1, 0] rfl ?_
  exact q_X12_emptiesParts_2 τ FU σ 0 h
-- public int forget(int);
abbrev rm_X12_forget : Room := { frames := 1, cells := 0, slots := 0, locals := 25 }
theorem cl_X12_forget : Cl yX12_forget wsX12_forget cX12_forget 4 (some .int) rm_X12_forget 1 := ⟨⟨_, rfl⟩, rfl, rfl, by decide +kernel, by decide +kernel, by decide +kernel⟩
theorem in_X12_forget_8 : ∀ w ∈ wsX120, w ∈ wsX12_forget := fun w h => List.mem_cons_of_mem _ (List.mem_append_right _ h)
def b_X12_forget_40 (l1 : Int32) (σ : Sg) (t0 : Int32) : Option (Int32 × Sg) := (if inb t0 (kLen 113) = true then nam (rI σ 113 (ix t0)) fun x1 => (if inb t0 (kLen 113) = true then nam (stI σ 113 (ix t0) 0) (fun s2 => (some (x1, s2))) else none) else none)
def f_X12_forget (σ : Sg) (l1 : Int32) : Option (Int32 × Sg) := (if (f_X12_in (Int32.toInt64 l1) 0 2) = 0 then bnd (f_X12_bad σ (-2)) fun x3 s4 => (some (x3, s4)) else (if l1 = 0 then b_X12_forget_40 l1 σ 43 else (if l1 = 1 then b_X12_forget_40 l1 σ 62 else b_X12_forget_40 l1 σ 87)))
set_option maxRecDepth 100000 in
set_option maxHeartbeats 4000000 in
theorem q_X12_forget_40 {g : Cx} (l1 : Int32) (r : Int32) (τ : Sg) : ∀ σ : Sg, ∀ t0 : Int32, b_X12_forget_40 l1 σ t0 = some (r, τ) → V g cX12_forget RX12 wsX12_forget 4 (some .int) rm_X12_forget (some (.int r)) τ σ 40 [(0, .ref (g.1 112))] [.int t0] := by
  intro σ t0 h
  unfold b_X12_forget_40 at h
  refine v_istore_n 41 dX12_forget_40 rfl (by decide) rfl rfl ?_
  refine v_aload_n 42 1 dX12_forget_41 rfl rfl rfl ?_
  refine vg_8_0 45 (rfl : kK 112 = 8) in_X12_forget_8 (mem_at 2 rfl) dX12_forget_42 rfl ?_
  refine v_iload_n 46 0 dX12_forget_45 rfl rfl rfl ?_
  refine v_iald 47 h (rfl : kK 113 = 9) dX12_forget_46 rfl (fun h => ?_)
  refine v_istoreN_n 48 h dX12_forget_47 rfl (by decide) rfl (fun _ => rfl) (fun x1 h => ?_)
  refine v_aload_n 49 2 dX12_forget_48 rfl rfl rfl ?_
  refine vg_8_0 52 (rfl : kK 112 = 8) in_X12_forget_8 (mem_at 2 rfl) dX12_forget_49 rfl ?_
  refine v_iload_n 53 1 dX12_forget_52 rfl rfl rfl ?_
  refine v_iconst 54 0 dX12_forget_53 kc_i_0 rfl ?_
  refine v_iast 55 h (rfl : kK 113 = 9) dX12_forget_54 rfl (fun s2 h => ?_)
  refine v_iload_n 56 0 dX12_forget_55 rfl rfl rfl ?_
  exact v_iretS h rfl dX12_forget_56
set_option maxRecDepth 100000 in
set_option maxHeartbeats 4000000 in
theorem c_X12_forget {g : Cx} {σ : Sg} (l1 : Int32) (r : Int32) (τ : Sg) (h : f_X12_forget σ l1 = some (r, τ)) : ∀ l, MetF l yX12_forget wsX12_forget rm_X12_forget g [.ref (g.1 112), .int l1] σ (some (.int r)) τ := by
  refine MetF.of (own0 := RX12) (lv0 := [(0, .ref (g.1 112)), (1, .int l1)]) rfl cl_X12_forget (by decide) (Nat.le_of_ble_eq_true rfl) rfl ?_
  unfold f_X12_forget at h
  refine v_iload_n 1 1 dX12_forget_0 rfl rfl rfl ?_
  refine v_i2l 2 dX12_forget_1 rfl ?_
  refine v_lconst 3 0 dX12_forget_2 kc_l_0 rfl ?_
  refine v_ldc2 6 2 dX12_forget_3 (mem_at 1 rfl) rfl ?_
  refine v_cS 9 [.long (Int32.toInt64 l1), .long 0, .long 2] (c_X12_in (Int32.toInt64 l1) 0 2) cl_X12_in gX12_forget_X12_in ⟨Nat.le_of_ble_eq_true rfl, Nat.le_of_ble_eq_true rfl⟩ rfl rfl (Nat.le_of_ble_eq_true rfl) dX12_forget_6 rfl ?_
  refine v_if_ne 12 19 h dX12_forget_9 rfl (by decide) (fun h => ?_) (fun h => ?_)
  · refine v_iload_n 20 1 dX12_forget_19 rfl rfl rfl ?_
    refine v_if_ne 23 28 h dX12_forget_20 rfl (by decide) (fun h => ?_) (fun h => ?_)
    · refine v_iload_n 29 1 dX12_forget_28 rfl rfl rfl ?_
      refine v_iconst 30 1 dX12_forget_29 kc_i_1 rfl ?_
      refine v_icmp_ne 33 38 h dX12_forget_30 rfl (by decide) (fun h => ?_) (fun h => ?_)
      · refine v_bipush 40 87 dX12_forget_38 kc_b_87 rfl ?_
        refine v_sub [0] rfl ?_
        exact q_X12_forget_40 l1 r τ σ 87 h
      · refine v_bipush 35 62 dX12_forget_33 kc_b_62 rfl ?_
        refine v_goto 40 dX12_forget_35 (by decide) ?_
        refine v_sub [0] rfl ?_
        exact q_X12_forget_40 l1 r τ σ 62 h
    · refine v_bipush 25 43 dX12_forget_23 kc_b_43 rfl ?_
      refine v_goto 40 dX12_forget_25 (by decide) ?_
      refine v_sub [0] rfl ?_
      exact q_X12_forget_40 l1 r τ σ 43 h
  · refine v_aload_n 13 0 dX12_forget_12 rfl rfl rfl ?_
    refine v_bipush 15 (-2) dX12_forget_13 kc_b_m2 rfl ?_
    obtain ⟨x3, s4, h0, h⟩ := ob2 h
    refine v_cV 18 8 [.int (-2)] (rfl : kK 112 = 8) rfl (c_X12_bad (-2) _ _ h0) cl_X12_bad gX12_forget_X12_bad rfl ⟨Nat.le_of_ble_eq_true rfl, Nat.le_of_ble_eq_true rfl⟩ rfl rfl (Nat.le_of_ble_eq_true rfl) dX12_forget_15 rfl ?_
    exact v_iretS h rfl dX12_forget_18
-- public int from(int);
abbrev rm_X12_from : Room := { frames := 1, cells := 0, slots := 0, locals := 25 }
theorem cl_X12_from : Cl yX12_from wsX12_from cX12_from 2 (some .int) rm_X12_from 1 := ⟨⟨_, rfl⟩, rfl, rfl, by decide +kernel, by decide +kernel, by decide +kernel⟩
theorem in_X12_from_8 : ∀ w ∈ wsX120, w ∈ wsX12_from := fun w h => List.mem_cons_of_mem _ (List.mem_append_right _ h)
def f_X12_from (σ : Sg) (l1 : Int32) : Option (Int32 × Sg) := (if (f_X12_in (Int32.toInt64 l1) 0 1) = 0 then bnd (f_X12_bad σ (-2)) fun x4 s5 => (some (x4, s5)) else (if inb l1 (kLen 114) = true then (if (rI σ 114 (ix l1)) = 0 then bnd (f_X12_no σ) fun x2 s3 => (some (x2, s3)) else (f_X12_copy σ (241 + (241 * l1)) 0).bind fun s1 => (some (1, s1))) else none))
set_option maxRecDepth 100000 in
set_option maxHeartbeats 4000000 in
theorem c_X12_from {g : Cx} {σ : Sg} (l1 : Int32) (r : Int32) (τ : Sg) (h : f_X12_from σ l1 = some (r, τ)) : ∀ l, MetF l yX12_from wsX12_from rm_X12_from g [.ref (g.1 112), .int l1] σ (some (.int r)) τ := by
  refine MetF.of (own0 := RX12) (lv0 := [(0, .ref (g.1 112)), (1, .int l1)]) rfl cl_X12_from (by decide) (Nat.le_of_ble_eq_true rfl) rfl ?_
  unfold f_X12_from at h
  refine v_iload_n 1 1 dX12_from_0 rfl rfl rfl ?_
  refine v_i2l 2 dX12_from_1 rfl ?_
  refine v_lconst 3 0 dX12_from_2 kc_l_0 rfl ?_
  refine v_lconst 4 1 dX12_from_3 kc_l_1 rfl ?_
  refine v_cS 7 [.long (Int32.toInt64 l1), .long 0, .long 1] (c_X12_in (Int32.toInt64 l1) 0 1) cl_X12_in gX12_from_X12_in ⟨Nat.le_of_ble_eq_true rfl, Nat.le_of_ble_eq_true rfl⟩ rfl rfl (Nat.le_of_ble_eq_true rfl) dX12_from_4 rfl ?_
  refine v_if_ne 10 17 h dX12_from_7 rfl (by decide) (fun h => ?_) (fun h => ?_)
  · refine v_aload_n 18 0 dX12_from_17 rfl rfl rfl ?_
    refine vg_8_1 21 (rfl : kK 112 = 8) in_X12_from_8 (mem_at 1 rfl) dX12_from_18 rfl ?_
    refine v_iload_n 22 1 dX12_from_21 rfl rfl rfl ?_
    refine v_zald 23 h (rfl : kK 114 = 10) dX12_from_22 rfl (fun h => ?_)
    refine v_if_ne 26 31 h dX12_from_23 rfl (by decide) (fun h => ?_) (fun h => ?_)
    · refine v_aload_n 32 0 dX12_from_31 rfl rfl rfl ?_
      refine v_sipush 35 241 dX12_from_32 kc_s_241 rfl ?_
      refine v_sipush 38 241 dX12_from_35 kc_s_241 rfl ?_
      refine v_iload_n 39 1 dX12_from_38 rfl rfl rfl ?_
      refine v_imul 40 dX12_from_39 rfl ?_
      refine v_iadd 41 dX12_from_40 rfl ?_
      refine v_iconst 42 0 dX12_from_41 kc_i_0 rfl ?_
      obtain ⟨s1, h0, h⟩ := ob h
      refine v_cV 45 8 [.int (241 + (241 * l1)), .int 0] (rfl : kK 112 = 8) rfl (c_X12_copy (241 + (241 * l1)) 0 _ h0) cl_X12_copy gX12_from_X12_copy rfl ⟨Nat.le_of_ble_eq_true rfl, Nat.le_of_ble_eq_true rfl⟩ rfl rfl (Nat.le_of_ble_eq_true rfl) dX12_from_42 rfl ?_
      refine v_iconst 46 1 dX12_from_45 kc_i_1 rfl ?_
      exact v_iretS h rfl dX12_from_46
    · refine v_aload_n 27 0 dX12_from_26 rfl rfl rfl ?_
      obtain ⟨x2, s3, h0, h⟩ := ob2 h
      refine v_cV 30 8 [] (rfl : kK 112 = 8) rfl (c_X12_no _ _ h0) cl_X12_no gX12_from_X12_no rfl ⟨Nat.le_of_ble_eq_true rfl, Nat.le_of_ble_eq_true rfl⟩ rfl rfl (Nat.le_of_ble_eq_true rfl) dX12_from_27 rfl ?_
      exact v_iretS h rfl dX12_from_30
  · refine v_aload_n 11 0 dX12_from_10 rfl rfl rfl ?_
    refine v_bipush 13 (-2) dX12_from_11 kc_b_m2 rfl ?_
    obtain ⟨x4, s5, h0, h⟩ := ob2 h
    refine v_cV 16 8 [.int (-2)] (rfl : kK 112 = 8) rfl (c_X12_bad (-2) _ _ h0) cl_X12_bad gX12_from_X12_bad rfl ⟨Nat.le_of_ble_eq_true rfl, Nat.le_of_ble_eq_true rfl⟩ rfl rfl (Nat.le_of_ble_eq_true rfl) dX12_from_13 rfl ?_
    exact v_iretS h rfl dX12_from_16
-- private void lays(int, boolean);
abbrev rm_X12_lays : Room := { frames := 1, cells := 0, slots := 0, locals := 21 }
theorem cl_X12_lays : Cl yX12_lays wsX12_lays cX12_lays 7 none rm_X12_lays 2 := ⟨⟨_, rfl⟩, rfl, rfl, by decide +kernel, by decide +kernel, by decide +kernel⟩
theorem in_X12_lays_8 : ∀ w ∈ wsX120, w ∈ wsX12_lays := fun w h => List.mem_cons_of_mem _ (List.mem_append_right _ h)
def b_X12_lays_123 (l1 : Int32) (l2 : Int32) (c25 : Sg → Int32 → Int32 → Option Sg) (σ : Sg) (l3 : Int32) (l4 : Int32) (l6 : Int32) (t0 : Int32) : Option Sg := nam (stI σ 112 11 t0) fun s8 => (if inb (25 + l4) (kLen 113) = true then nam (stI s8 112 12 ((rI s8 112 12) + (l6 * (rI s8 113 (ix (25 + l4)))))) fun s9 => (if inb (18 + l4) (kLen 113) = true then nam (stI s9 112 13 ((rI s9 112 13) + (l6 * (rI s9 113 (ix (18 + l4)))))) fun s10 => nam (l4 + 1) fun x11 => c25 s10 l3 x11 else none) else none)
def b_X12_lays_122 (l1 : Int32) (l2 : Int32) (c25 : Sg → Int32 → Int32 → Option Sg) (σ : Sg) (l3 : Int32) (l4 : Int32) (l6 : Int32) : Option Sg := b_X12_lays_123 l1 l2 c25 σ l3 l4 l6 0
def b_X12_lays_118 (l1 : Int32) (l2 : Int32) (c25 : Sg → Int32 → Int32 → Option Sg) (σ : Sg) (l3 : Int32) (l4 : Int32) (l6 : Int32) : Option Sg := b_X12_lays_123 l1 l2 c25 σ l3 l4 l6 1
def b_X12_lays_83 (l1 : Int32) (l2 : Int32) (c25 : Sg → Int32 → Int32 → Option Sg) (σ : Sg) (l3 : Int32) (l4 : Int32) (l5 : Int32) (l6 : Int32) (t0 : Int32) (t1 : Int32) : Option Sg := nam (stI σ 112 10 (t1 + t0)) fun s7 => (if (rI s7 112 11) = 0 then b_X12_lays_122 l1 l2 c25 s7 l3 l4 l6 else (if l5 = 0 then b_X12_lays_118 l1 l2 c25 s7 l3 l4 l6 else (if l2 = 0 then b_X12_lays_118 l1 l2 c25 s7 l3 l4 l6 else (if inb 3 (kLen 113) = true then (if (f_X12_has (rI s7 113 (ix 3)) l4) = 0 then b_X12_lays_122 l1 l2 c25 s7 l3 l4 l6 else b_X12_lays_118 l1 l2 c25 s7 l3 l4 l6) else none))))
def b_X12_lays_66 (l1 : Int32) (l2 : Int32) (c25 : Sg → Int32 → Int32 → Option Sg) (σ : Sg) (l3 : Int32) (l4 : Int32) (l5 : Int32) (t0 : Int32) : Option Sg := (if l5 = 0 then b_X12_lays_83 l1 l2 c25 σ l3 l4 l5 t0 0 (rI σ 112 10) else b_X12_lays_83 l1 l2 c25 σ l3 l4 l5 t0 1 (rI σ 112 10))
def b_X12_lays_25 (l1 : Int32) (l2 : Int32) : Nat → Sg → Int32 → Int32 → Option Sg
  | 0, _, _, _ => none
  | f + 1, σ, l3, l4 => (if inb 0 (kLen 113) = true then (if (rI σ 113 (ix 0)) ≤ l4 then (some σ) else nam (l3 - l3 / 3 * 3) fun x5 => nam (l3 / 3) fun x6 => (if x5 = 1 then b_X12_lays_66 l1 l2 (b_X12_lays_25 l1 l2 f) σ x6 l4 x5 (-1) else (if x5 = 2 then b_X12_lays_66 l1 l2 (b_X12_lays_25 l1 l2 f) σ x6 l4 x5 1 else b_X12_lays_66 l1 l2 (b_X12_lays_25 l1 l2 f) σ x6 l4 x5 0))) else none)
def f_X12_lays (σ : Sg) (l1 : Int32) (l2 : Int32) : Option Sg := nam (stI σ 112 10 0) fun s1 => nam (stI s1 112 11 1) fun s2 => nam (stI s2 112 12 0) fun s3 => nam (stI s3 112 13 0) fun s4 => b_X12_lays_25 l1 l2 FU s4 l1 0
set_option maxRecDepth 100000 in
set_option maxHeartbeats 4000000 in
theorem q_X12_lays_123 {g : Cx} (l1 : Int32) (l2 : Int32) (τ : Sg) (c25 : Sg → Int32 → Int32 → Option Sg) (hc25 : ∀ σ : Sg, ∀ l3 : Int32, ∀ l4 : Int32, c25 σ l3 l4 = some τ → V g cX12_lays RX12 wsX12_lays 7 none rm_X12_lays none τ σ 25 [(0, .ref (g.1 112)), (2, .int l2), (3, .int l3), (4, .int l4)] []) : ∀ σ : Sg, ∀ l3 : Int32, ∀ l4 : Int32, ∀ l6 : Int32, ∀ t0 : Int32, (t0 = 0 ∨ t0 = 1) → b_X12_lays_123 l1 l2 c25 σ l3 l4 l6 t0 = some τ → V g cX12_lays RX12 wsX12_lays 7 none rm_X12_lays none τ σ 123 [(0, .ref (g.1 112)), (2, .int l2), (3, .int l3), (4, .int l4), (6, .int l6)] [.int t0, .ref (g.1 112)] := by
  intro σ l3 l4 l6 t0 hz0 h
  unfold b_X12_lays_123 at h
  refine vp_8_11 126 h (rfl : kK 112 = 8) in_X12_lays_8 (mem_at 2 rfl) hz0 dX12_lays_123 rfl (fun s8 h => ?_)
  refine v_aload_n 127 0 dX12_lays_126 rfl rfl rfl ?_
  refine v_dup 128 dX12_lays_127 rfl rfl ?_
  refine vg_8_12 131 (rfl : kK 112 = 8) in_X12_lays_8 (mem_at 3 rfl) dX12_lays_128 rfl ?_
  refine v_iload 133 4 dX12_lays_131 rfl rfl ?_
  refine v_aload_n 134 0 dX12_lays_133 rfl rfl rfl ?_
  refine vg_8_0 137 (rfl : kK 112 = 8) in_X12_lays_8 (mem_at 5 rfl) dX12_lays_134 rfl ?_
  refine v_bipush 139 25 dX12_lays_137 kc_b_25 rfl ?_
  refine v_iload 141 3 dX12_lays_139 rfl rfl ?_
  refine v_iadd 142 dX12_lays_141 rfl ?_
  refine v_iald 143 h (rfl : kK 113 = 9) dX12_lays_142 rfl (fun h => ?_)
  refine v_imul 144 dX12_lays_143 rfl ?_
  refine v_iadd 145 dX12_lays_144 rfl ?_
  refine vp_8_12 148 h (rfl : kK 112 = 8) in_X12_lays_8 (mem_at 3 rfl) dX12_lays_145 rfl (fun s9 h => ?_)
  refine v_aload_n 149 0 dX12_lays_148 rfl rfl rfl ?_
  refine v_dup 150 dX12_lays_149 rfl rfl ?_
  refine vg_8_13 153 (rfl : kK 112 = 8) in_X12_lays_8 (mem_at 4 rfl) dX12_lays_150 rfl ?_
  refine v_iload 155 4 dX12_lays_153 rfl rfl ?_
  refine v_aload_n 156 0 dX12_lays_155 rfl rfl rfl ?_
  refine vg_8_0 159 (rfl : kK 112 = 8) in_X12_lays_8 (mem_at 5 rfl) dX12_lays_156 rfl ?_
  refine v_bipush 161 18 dX12_lays_159 kc_b_18 rfl ?_
  refine v_iload 163 3 dX12_lays_161 rfl rfl ?_
  refine v_iadd 164 dX12_lays_163 rfl ?_
  refine v_iald 165 h (rfl : kK 113 = 9) dX12_lays_164 rfl (fun h => ?_)
  refine v_imul 166 dX12_lays_165 rfl ?_
  refine v_iadd 167 dX12_lays_166 rfl ?_
  refine vp_8_13 170 h (rfl : kK 112 = 8) in_X12_lays_8 (mem_at 4 rfl) dX12_lays_167 rfl (fun s10 h => ?_)
  refine v_iincN 173 3 h dX12_lays_170 rfl kc_i_1 (by decide) rfl (fun _ => rfl) (fun x11 h => ?_)
  refine v_goto 25 dX12_lays_173 (by decide) ?_
  refine v_sub [1, 2, 3, 0] rfl ?_
  exact hc25 s10 l3 x11 h
set_option maxRecDepth 100000 in
set_option maxHeartbeats 4000000 in
theorem q_X12_lays_122 {g : Cx} (l1 : Int32) (l2 : Int32) (τ : Sg) (c25 : Sg → Int32 → Int32 → Option Sg) (hc25 : ∀ σ : Sg, ∀ l3 : Int32, ∀ l4 : Int32, c25 σ l3 l4 = some τ → V g cX12_lays RX12 wsX12_lays 7 none rm_X12_lays none τ σ 25 [(0, .ref (g.1 112)), (2, .int l2), (3, .int l3), (4, .int l4)] []) : ∀ σ : Sg, ∀ l3 : Int32, ∀ l4 : Int32, ∀ l6 : Int32, b_X12_lays_122 l1 l2 c25 σ l3 l4 l6 = some τ → V g cX12_lays RX12 wsX12_lays 7 none rm_X12_lays none τ σ 122 [(0, .ref (g.1 112)), (2, .int l2), (3, .int l3), (4, .int l4), (6, .int l6)] [.ref (g.1 112)] := by
  intro σ l3 l4 l6 h
  unfold b_X12_lays_122 at h
  refine v_iconst 123 0 dX12_lays_122 kc_i_0 rfl ?_
  refine v_sub [0, 1, 2, 3, 4] rfl ?_
  exact q_X12_lays_123 l1 l2 τ c25 hc25 σ l3 l4 l6 0 (Or.inl rfl) h
set_option maxRecDepth 100000 in
set_option maxHeartbeats 4000000 in
theorem q_X12_lays_118 {g : Cx} (l1 : Int32) (l2 : Int32) (τ : Sg) (c25 : Sg → Int32 → Int32 → Option Sg) (hc25 : ∀ σ : Sg, ∀ l3 : Int32, ∀ l4 : Int32, c25 σ l3 l4 = some τ → V g cX12_lays RX12 wsX12_lays 7 none rm_X12_lays none τ σ 25 [(0, .ref (g.1 112)), (2, .int l2), (3, .int l3), (4, .int l4)] []) : ∀ σ : Sg, ∀ l3 : Int32, ∀ l4 : Int32, ∀ l6 : Int32, b_X12_lays_118 l1 l2 c25 σ l3 l4 l6 = some τ → V g cX12_lays RX12 wsX12_lays 7 none rm_X12_lays none τ σ 118 [(0, .ref (g.1 112)), (2, .int l2), (3, .int l3), (4, .int l4), (6, .int l6)] [.ref (g.1 112)] := by
  intro σ l3 l4 l6 h
  unfold b_X12_lays_118 at h
  refine v_iconst 119 1 dX12_lays_118 kc_i_1 rfl ?_
  refine v_goto 123 dX12_lays_119 (by decide) ?_
  refine v_sub [0, 1, 2, 3, 4] rfl ?_
  exact q_X12_lays_123 l1 l2 τ c25 hc25 σ l3 l4 l6 1 (Or.inr rfl) h
set_option maxRecDepth 100000 in
set_option maxHeartbeats 4000000 in
theorem q_X12_lays_83 {g : Cx} (l1 : Int32) (l2 : Int32) (τ : Sg) (c25 : Sg → Int32 → Int32 → Option Sg) (hc25 : ∀ σ : Sg, ∀ l3 : Int32, ∀ l4 : Int32, c25 σ l3 l4 = some τ → V g cX12_lays RX12 wsX12_lays 7 none rm_X12_lays none τ σ 25 [(0, .ref (g.1 112)), (2, .int l2), (3, .int l3), (4, .int l4)] []) : ∀ σ : Sg, ∀ l3 : Int32, ∀ l4 : Int32, ∀ l5 : Int32, ∀ l6 : Int32, ∀ t0 : Int32, ∀ t1 : Int32, (t0 = 0 ∨ t0 = 1) → b_X12_lays_83 l1 l2 c25 σ l3 l4 l5 l6 t0 t1 = some τ → V g cX12_lays RX12 wsX12_lays 7 none rm_X12_lays none τ σ 83 [(0, .ref (g.1 112)), (2, .int l2), (3, .int l3), (4, .int l4), (5, .int l5), (6, .int l6)] [.int t0, .int t1, .ref (g.1 112)] := by
  intro σ l3 l4 l5 l6 t0 t1 hz0 h
  unfold b_X12_lays_83 at h
  refine v_iadd 84 dX12_lays_83 rfl ?_
  refine vp_8_10 87 h (rfl : kK 112 = 8) in_X12_lays_8 (mem_at 1 rfl) dX12_lays_84 rfl (fun s7 h => ?_)
  refine v_aload_n 88 0 dX12_lays_87 rfl rfl rfl ?_
  refine v_aload_n 89 0 dX12_lays_88 rfl rfl rfl ?_
  refine vg_8_11 92 (rfl : kK 112 = 8) in_X12_lays_8 (mem_at 2 rfl) dX12_lays_89 rfl ?_
  refine v_if_eq 95 122 h dX12_lays_92 rfl (by decide) (fun h => ?_) (fun h => ?_)
  · refine v_sub [0, 1, 2, 3, 5] rfl ?_
    exact q_X12_lays_122 l1 l2 τ c25 hc25 s7 l3 l4 l6 h
  · refine v_iload 97 4 dX12_lays_95 rfl rfl ?_
    refine v_if_eq 100 118 h dX12_lays_97 rfl (by decide) (fun h => ?_) (fun h => ?_)
    · refine v_sub [0, 1, 2, 3, 5] rfl ?_
      exact q_X12_lays_118 l1 l2 τ c25 hc25 s7 l3 l4 l6 h
    · refine v_iload_n 101 1 dX12_lays_100 rfl rfl rfl ?_
      refine v_if_eq 104 118 h dX12_lays_101 rfl (by decide) (fun h => ?_) (fun h => ?_)
      · refine v_sub [0, 1, 2, 3, 5] rfl ?_
        exact q_X12_lays_118 l1 l2 τ c25 hc25 s7 l3 l4 l6 h
      · refine v_aload_n 105 0 dX12_lays_104 rfl rfl rfl ?_
        refine vg_8_0 108 (rfl : kK 112 = 8) in_X12_lays_8 (mem_at 5 rfl) dX12_lays_105 rfl ?_
        refine v_iconst 109 3 dX12_lays_108 kc_i_3 rfl ?_
        refine v_iald 110 h (rfl : kK 113 = 9) dX12_lays_109 rfl (fun h => ?_)
        refine v_iload 112 3 dX12_lays_110 rfl rfl ?_
        refine v_cS 115 [.int (rI s7 113 (ix 3)), .int l4] (c_X12_has (rI s7 113 (ix 3)) l4) cl_X12_has gX12_lays_X12_has ⟨Nat.le_of_ble_eq_true rfl, Nat.le_of_ble_eq_true rfl⟩ rfl rfl (Nat.le_of_ble_eq_true rfl) dX12_lays_112 rfl ?_
        refine v_if_eq 118 122 h dX12_lays_115 rfl (by decide) (fun h => ?_) (fun h => ?_)
        · refine v_sub [0, 1, 2, 3, 5] rfl ?_
          exact q_X12_lays_122 l1 l2 τ c25 hc25 s7 l3 l4 l6 h
        · refine v_sub [0, 1, 2, 3, 5] rfl ?_
          exact q_X12_lays_118 l1 l2 τ c25 hc25 s7 l3 l4 l6 h
set_option maxRecDepth 100000 in
set_option maxHeartbeats 4000000 in
theorem q_X12_lays_66 {g : Cx} (l1 : Int32) (l2 : Int32) (τ : Sg) (c25 : Sg → Int32 → Int32 → Option Sg) (hc25 : ∀ σ : Sg, ∀ l3 : Int32, ∀ l4 : Int32, c25 σ l3 l4 = some τ → V g cX12_lays RX12 wsX12_lays 7 none rm_X12_lays none τ σ 25 [(0, .ref (g.1 112)), (2, .int l2), (3, .int l3), (4, .int l4)] []) : ∀ σ : Sg, ∀ l3 : Int32, ∀ l4 : Int32, ∀ l5 : Int32, ∀ t0 : Int32, b_X12_lays_66 l1 l2 c25 σ l3 l4 l5 t0 = some τ → V g cX12_lays RX12 wsX12_lays 7 none rm_X12_lays none τ σ 66 [(0, .ref (g.1 112)), (2, .int l2), (3, .int l3), (4, .int l4), (5, .int l5)] [.int t0] := by
  intro σ l3 l4 l5 t0 h
  unfold b_X12_lays_66 at h
  refine v_istore 68 dX12_lays_66 (by decide) rfl rfl ?_
  refine v_aload_n 69 1 dX12_lays_68 rfl rfl rfl ?_
  refine v_dup 70 dX12_lays_69 rfl rfl ?_
  refine vg_8_10 73 (rfl : kK 112 = 8) in_X12_lays_8 (mem_at 1 rfl) dX12_lays_70 rfl ?_
  refine v_iload 75 5 dX12_lays_73 rfl rfl ?_
  refine v_if_ne 78 82 h dX12_lays_75 rfl (by decide) (fun h => ?_) (fun h => ?_)
  · refine v_iconst 83 1 dX12_lays_82 kc_i_1 rfl ?_
    refine v_sub [1, 2, 3, 4, 5, 0] rfl ?_
    exact q_X12_lays_83 l1 l2 τ c25 hc25 σ l3 l4 l5 t0 1 (rI σ 112 10) (Or.inr rfl) h
  · refine v_iconst 79 0 dX12_lays_78 kc_i_0 rfl ?_
    refine v_goto 83 dX12_lays_79 (by decide) ?_
    refine v_sub [1, 2, 3, 4, 5, 0] rfl ?_
    exact q_X12_lays_83 l1 l2 τ c25 hc25 σ l3 l4 l5 t0 0 (rI σ 112 10) (Or.inl rfl) h
set_option maxRecDepth 100000 in
set_option maxHeartbeats 4000000 in
theorem q_X12_lays_25 {g : Cx} (l1 : Int32) (l2 : Int32) (τ : Sg) : ∀ f : Nat, ∀ σ : Sg, ∀ l3 : Int32, ∀ l4 : Int32, b_X12_lays_25 l1 l2 f σ l3 l4 = some τ → V g cX12_lays RX12 wsX12_lays 7 none rm_X12_lays none τ σ 25 [(0, .ref (g.1 112)), (2, .int l2), (3, .int l3), (4, .int l4)] [] := by
  intro f
  induction f with
  | zero =>
    intro σ l3 l4 h
    cases h
  | succ f ih =>
    intro σ l3 l4 h
    rw [b_X12_lays_25] at h
    refine v_iload 27 3 dX12_lays_25 rfl rfl ?_
    refine v_aload_n 28 0 dX12_lays_27 rfl rfl rfl ?_
    refine vg_8_0 31 (rfl : kK 112 = 8) in_X12_lays_8 (mem_at 5 rfl) dX12_lays_28 rfl ?_
    refine v_iconst 32 0 dX12_lays_31 kc_i_0 rfl ?_
    refine v_iald 33 h (rfl : kK 113 = 9) dX12_lays_32 rfl (fun h => ?_)
    refine v_icmp_ge 36 176 h dX12_lays_33 rfl (by decide) (fun h => ?_) (fun h => ?_)
    · exact v_vretS h rfl dX12_lays_176
    · refine v_iload_n 37 2 dX12_lays_36 rfl rfl rfl ?_
      refine v_iconst 38 3 dX12_lays_37 kc_i_3 rfl ?_
      refine v_irem 39 kc_ne_3 dX12_lays_38 rfl ?_
      refine v_istoreN 41 h dX12_lays_39 (by decide) rfl (fun _ => rfl) (fun x5 h => ?_)
      refine v_iload_n 42 3 dX12_lays_41 rfl rfl rfl ?_
      refine v_iconst 43 3 dX12_lays_42 kc_i_3 rfl ?_
      refine v_idiv 44 kc_ne_3 dX12_lays_43 rfl ?_
      refine v_istoreN_n 45 h dX12_lays_44 rfl (by decide) rfl (fun _ => rfl) (fun x6 h => ?_)
      refine v_iload 47 1 dX12_lays_45 rfl rfl ?_
      refine v_iconst 48 1 dX12_lays_47 kc_i_1 rfl ?_
      refine v_icmp_ne 51 55 h dX12_lays_48 rfl (by decide) (fun h => ?_) (fun h => ?_)
      · refine v_iload 57 1 dX12_lays_55 rfl rfl ?_
        refine v_iconst 58 2 dX12_lays_57 kc_i_2 rfl ?_
        refine v_icmp_ne 61 65 h dX12_lays_58 rfl (by decide) (fun h => ?_) (fun h => ?_)
        · refine v_iconst 66 0 dX12_lays_65 kc_i_0 rfl ?_
          refine v_sub [2, 3, 0, 4, 1] rfl ?_
          exact q_X12_lays_66 l1 l2 τ (b_X12_lays_25 l1 l2 f) ih σ x6 l4 x5 0 h
        · refine v_iconst 62 1 dX12_lays_61 kc_i_1 rfl ?_
          refine v_goto 66 dX12_lays_62 (by decide) ?_
          refine v_sub [2, 3, 0, 4, 1] rfl ?_
          exact q_X12_lays_66 l1 l2 τ (b_X12_lays_25 l1 l2 f) ih σ x6 l4 x5 1 h
      · refine v_iconst 52 (-1) dX12_lays_51 kc_i_m1 rfl ?_
        refine v_goto 66 dX12_lays_52 (by decide) ?_
        refine v_sub [2, 3, 0, 4, 1] rfl ?_
        exact q_X12_lays_66 l1 l2 τ (b_X12_lays_25 l1 l2 f) ih σ x6 l4 x5 (-1) h
set_option maxRecDepth 100000 in
set_option maxHeartbeats 4000000 in
theorem c_X12_lays {g : Cx} {σ : Sg} (l1 : Int32) (l2 : Int32) (τ : Sg) (h : f_X12_lays σ l1 l2 = some τ) : ∀ l, MetF l yX12_lays wsX12_lays rm_X12_lays g [.ref (g.1 112), .int l1, .int l2] σ none τ := by
  refine MetF.of (own0 := RX12) (lv0 := [(0, .ref (g.1 112)), (1, .int l1), (2, .int l2)]) rfl cl_X12_lays (by decide) (Nat.le_of_ble_eq_true rfl) rfl ?_
  unfold f_X12_lays at h
  refine v_aload_n 1 0 dX12_lays_0 rfl rfl rfl ?_
  refine v_iconst 2 0 dX12_lays_1 kc_i_0 rfl ?_
  refine vp_8_10 5 h (rfl : kK 112 = 8) in_X12_lays_8 (mem_at 1 rfl) dX12_lays_2 rfl (fun s1 h => ?_)
  refine v_aload_n 6 0 dX12_lays_5 rfl rfl rfl ?_
  refine v_iconst 7 1 dX12_lays_6 kc_i_1 rfl ?_
  refine vp_8_11 10 h (rfl : kK 112 = 8) in_X12_lays_8 (mem_at 2 rfl) (Or.inr rfl) dX12_lays_7 rfl (fun s2 h => ?_)
  refine v_aload_n 11 0 dX12_lays_10 rfl rfl rfl ?_
  refine v_iconst 12 0 dX12_lays_11 kc_i_0 rfl ?_
  refine vp_8_12 15 h (rfl : kK 112 = 8) in_X12_lays_8 (mem_at 3 rfl) dX12_lays_12 rfl (fun s3 h => ?_)
  refine v_aload_n 16 0 dX12_lays_15 rfl rfl rfl ?_
  refine v_iconst 17 0 dX12_lays_16 kc_i_0 rfl ?_
  refine vp_8_13 20 h (rfl : kK 112 = 8) in_X12_lays_8 (mem_at 4 rfl) dX12_lays_17 rfl (fun s4 h => ?_)
  refine v_iload_n 21 1 dX12_lays_20 rfl rfl rfl ?_
  refine v_istore_n 22 dX12_lays_21 rfl (by decide) rfl rfl ?_
  refine v_iconst 23 0 dX12_lays_22 kc_i_0 rfl ?_
  refine v_istore 25 dX12_lays_23 (by decide) rfl rfl ?_
  refine v_sub [2, 4, 1, 0] rfl ?_
  exact q_X12_lays_25 l1 l2 τ FU s4 l1 0 h
-- public int gain(int, int);
abbrev rm_X12_gain : Room := { frames := 2, cells := 0, slots := 0, locals := 47 }
theorem cl_X12_gain : Cl yX12_gain wsX12_gain cX12_gain 5 (some .int) rm_X12_gain 2 := ⟨⟨_, rfl⟩, rfl, rfl, by decide +kernel, by decide +kernel, by decide +kernel⟩
theorem in_X12_gain_8 : ∀ w ∈ wsX120, w ∈ wsX12_gain := fun w h => List.mem_cons_of_mem _ (List.mem_append_right _ h)
def b_X12_gain_22 (l1 : Int32) (l2 : Int32) (σ : Sg) : Option (Int32 × Sg) := bnd (f_X12_bad σ (-20000)) fun x1 s2 => (some (x1, s2))
def b_X12_gain_92 (l1 : Int32) (l2 : Int32) (c36 : Sg → Int32 → Int32 → Option (Int32 × Sg)) (σ : Sg) (l4 : Int32) (t0 : Int32) : Option (Int32 × Sg) := nam (l4 + 1) fun x5 => c36 σ t0 x5
def b_X12_gain_91 (l1 : Int32) (l2 : Int32) (c36 : Sg → Int32 → Int32 → Option (Int32 × Sg)) (σ : Sg) (l3 : Int32) (l4 : Int32) : Option (Int32 × Sg) := b_X12_gain_92 l1 l2 c36 σ l4 l3
def b_X12_gain_58 (l1 : Int32) (l2 : Int32) (c36 : Sg → Int32 → Int32 → Option (Int32 × Sg)) (σ : Sg) (l3 : Int32) (l4 : Int32) (t0 : Int32) (t1 : Int32) : Option (Int32 × Sg) := (f_X12_lays σ t1 t0).bind fun s4 => (if (rI s4 112 11) = 0 then b_X12_gain_91 l1 l2 c36 s4 l3 l4 else (if (rI s4 112 12) = l1 then (if l3 ≤ (rI s4 112 13) then b_X12_gain_91 l1 l2 c36 s4 l3 l4 else b_X12_gain_92 l1 l2 c36 s4 l4 (rI s4 112 13)) else b_X12_gain_91 l1 l2 c36 s4 l3 l4))
def b_X12_gain_36 (l1 : Int32) (l2 : Int32) : Nat → Sg → Int32 → Int32 → Option (Int32 × Sg)
  | 0, _, _, _ => none
  | f + 1, σ, l3, l4 => (f_X12_codes σ).bind fun x3 => (if x3 ≤ l4 then (if l3 = 1000000 then (some ((-10000), σ)) else (some (l3, σ))) else (if l2 = 1 then b_X12_gain_58 l1 l2 (b_X12_gain_36 l1 l2 f) σ l3 l4 1 l4 else b_X12_gain_58 l1 l2 (b_X12_gain_36 l1 l2 f) σ l3 l4 0 l4))
def f_X12_gain (σ : Sg) (l1 : Int32) (l2 : Int32) : Option (Int32 × Sg) := (if (f_X12_in (Int32.toInt64 l1) 1 999) = 0 then b_X12_gain_22 l1 l2 σ else (if (f_X12_in (Int32.toInt64 l2) 0 1) = 0 then b_X12_gain_22 l1 l2 σ else b_X12_gain_36 l1 l2 FU σ 1000000 0))
set_option maxRecDepth 100000 in
set_option maxHeartbeats 4000000 in
theorem q_X12_gain_22 {g : Cx} (l1 : Int32) (l2 : Int32) (r : Int32) (τ : Sg) : ∀ σ : Sg, b_X12_gain_22 l1 l2 σ = some (r, τ) → V g cX12_gain RX12 wsX12_gain 5 (some .int) rm_X12_gain (some (.int r)) τ σ 22 [(0, .ref (g.1 112))] [] := by
  intro σ h
  unfold b_X12_gain_22 at h
  refine v_aload_n 23 0 dX12_gain_22 rfl rfl rfl ?_
  refine v_sipush 26 (-20000) dX12_gain_23 kc_s_m20000 rfl ?_
  obtain ⟨x1, s2, h0, h⟩ := ob2 h
  refine v_cV 29 8 [.int (-20000)] (rfl : kK 112 = 8) rfl (c_X12_bad (-20000) _ _ h0) cl_X12_bad gX12_gain_X12_bad rfl ⟨Nat.le_of_ble_eq_true rfl, Nat.le_of_ble_eq_true rfl⟩ rfl rfl (Nat.le_of_ble_eq_true rfl) dX12_gain_26 rfl ?_
  exact v_iretS h rfl dX12_gain_29
set_option maxRecDepth 100000 in
set_option maxHeartbeats 4000000 in
theorem q_X12_gain_92 {g : Cx} (l1 : Int32) (l2 : Int32) (r : Int32) (τ : Sg) (c36 : Sg → Int32 → Int32 → Option (Int32 × Sg)) (hc36 : ∀ σ : Sg, ∀ l3 : Int32, ∀ l4 : Int32, c36 σ l3 l4 = some (r, τ) → V g cX12_gain RX12 wsX12_gain 5 (some .int) rm_X12_gain (some (.int r)) τ σ 36 [(0, .ref (g.1 112)), (1, .int l1), (2, .int l2), (3, .int l3), (4, .int l4)] []) : ∀ σ : Sg, ∀ l4 : Int32, ∀ t0 : Int32, b_X12_gain_92 l1 l2 c36 σ l4 t0 = some (r, τ) → V g cX12_gain RX12 wsX12_gain 5 (some .int) rm_X12_gain (some (.int r)) τ σ 92 [(0, .ref (g.1 112)), (1, .int l1), (2, .int l2), (4, .int l4)] [.int t0] := by
  intro σ l4 t0 h
  unfold b_X12_gain_92 at h
  refine v_istore_n 93 dX12_gain_92 rfl (by decide) rfl rfl ?_
  refine v_iincN 96 4 h dX12_gain_93 rfl kc_i_1 (by decide) rfl (fun _ => rfl) (fun x5 h => ?_)
  refine v_goto 36 dX12_gain_96 (by decide) ?_
  refine v_sub [2, 3, 4, 1, 0] rfl ?_
  exact hc36 σ t0 x5 h
set_option maxRecDepth 100000 in
set_option maxHeartbeats 4000000 in
theorem q_X12_gain_91 {g : Cx} (l1 : Int32) (l2 : Int32) (r : Int32) (τ : Sg) (c36 : Sg → Int32 → Int32 → Option (Int32 × Sg)) (hc36 : ∀ σ : Sg, ∀ l3 : Int32, ∀ l4 : Int32, c36 σ l3 l4 = some (r, τ) → V g cX12_gain RX12 wsX12_gain 5 (some .int) rm_X12_gain (some (.int r)) τ σ 36 [(0, .ref (g.1 112)), (1, .int l1), (2, .int l2), (3, .int l3), (4, .int l4)] []) : ∀ σ : Sg, ∀ l3 : Int32, ∀ l4 : Int32, b_X12_gain_91 l1 l2 c36 σ l3 l4 = some (r, τ) → V g cX12_gain RX12 wsX12_gain 5 (some .int) rm_X12_gain (some (.int r)) τ σ 91 [(0, .ref (g.1 112)), (1, .int l1), (2, .int l2), (3, .int l3), (4, .int l4)] [] := by
  intro σ l3 l4 h
  unfold b_X12_gain_91 at h
  refine v_iload_n 92 3 dX12_gain_91 rfl rfl rfl ?_
  refine v_sub [0, 1, 2, 4] rfl ?_
  exact q_X12_gain_92 l1 l2 r τ c36 hc36 σ l4 l3 h
set_option maxRecDepth 100000 in
set_option maxHeartbeats 4000000 in
theorem q_X12_gain_58 {g : Cx} (l1 : Int32) (l2 : Int32) (r : Int32) (τ : Sg) (c36 : Sg → Int32 → Int32 → Option (Int32 × Sg)) (hc36 : ∀ σ : Sg, ∀ l3 : Int32, ∀ l4 : Int32, c36 σ l3 l4 = some (r, τ) → V g cX12_gain RX12 wsX12_gain 5 (some .int) rm_X12_gain (some (.int r)) τ σ 36 [(0, .ref (g.1 112)), (1, .int l1), (2, .int l2), (3, .int l3), (4, .int l4)] []) : ∀ σ : Sg, ∀ l3 : Int32, ∀ l4 : Int32, ∀ t0 : Int32, ∀ t1 : Int32, (t0 = 0 ∨ t0 = 1) → b_X12_gain_58 l1 l2 c36 σ l3 l4 t0 t1 = some (r, τ) → V g cX12_gain RX12 wsX12_gain 5 (some .int) rm_X12_gain (some (.int r)) τ σ 58 [(0, .ref (g.1 112)), (1, .int l1), (2, .int l2), (3, .int l3), (4, .int l4)] [.int t0, .int t1, .ref (g.1 112)] := by
  intro σ l3 l4 t0 t1 hz0 h
  unfold b_X12_gain_58 at h
  obtain ⟨s4, h0, h⟩ := ob h
  refine v_cV 61 8 [.int t1, .int t0] (rfl : kK 112 = 8) rfl (c_X12_lays t1 t0 _ h0) cl_X12_lays gX12_gain_X12_lays rfl ⟨Nat.le_of_ble_eq_true rfl, Nat.le_of_ble_eq_true rfl⟩ rfl rfl (Nat.le_of_ble_eq_true rfl) dX12_gain_58 rfl ?_
  refine v_aload_n 62 0 dX12_gain_61 rfl rfl rfl ?_
  refine vg_8_11 65 (rfl : kK 112 = 8) in_X12_gain_8 (mem_at 3 rfl) dX12_gain_62 rfl ?_
  refine v_if_eq 68 91 h dX12_gain_65 rfl (by decide) (fun h => ?_) (fun h => ?_)
  · refine v_sub [0, 1, 2, 3, 4] rfl ?_
    exact q_X12_gain_91 l1 l2 r τ c36 hc36 s4 l3 l4 h
  · refine v_aload_n 69 0 dX12_gain_68 rfl rfl rfl ?_
    refine vg_8_12 72 (rfl : kK 112 = 8) in_X12_gain_8 (mem_at 4 rfl) dX12_gain_69 rfl ?_
    refine v_iload_n 73 1 dX12_gain_72 rfl rfl rfl ?_
    refine v_icmp_ne 76 91 h dX12_gain_73 rfl (by decide) (fun h => ?_) (fun h => ?_)
    · refine v_sub [0, 1, 2, 3, 4] rfl ?_
      exact q_X12_gain_91 l1 l2 r τ c36 hc36 s4 l3 l4 h
    · refine v_aload_n 77 0 dX12_gain_76 rfl rfl rfl ?_
      refine vg_8_13 80 (rfl : kK 112 = 8) in_X12_gain_8 (mem_at 5 rfl) dX12_gain_77 rfl ?_
      refine v_iload_n 81 3 dX12_gain_80 rfl rfl rfl ?_
      refine v_icmp_ge 84 91 h dX12_gain_81 rfl (by decide) (fun h => ?_) (fun h => ?_)
      · refine v_sub [0, 1, 2, 3, 4] rfl ?_
        exact q_X12_gain_91 l1 l2 r τ c36 hc36 s4 l3 l4 h
      · refine v_aload_n 85 0 dX12_gain_84 rfl rfl rfl ?_
        refine vg_8_13 88 (rfl : kK 112 = 8) in_X12_gain_8 (mem_at 5 rfl) dX12_gain_85 rfl ?_
        refine v_goto 92 dX12_gain_88 (by decide) ?_
        refine v_sub [0, 1, 2, 4] rfl ?_
        exact q_X12_gain_92 l1 l2 r τ c36 hc36 s4 l4 (rI s4 112 13) h
set_option maxRecDepth 100000 in
set_option maxHeartbeats 4000000 in
theorem q_X12_gain_36 {g : Cx} (l1 : Int32) (l2 : Int32) (r : Int32) (τ : Sg) : ∀ f : Nat, ∀ σ : Sg, ∀ l3 : Int32, ∀ l4 : Int32, b_X12_gain_36 l1 l2 f σ l3 l4 = some (r, τ) → V g cX12_gain RX12 wsX12_gain 5 (some .int) rm_X12_gain (some (.int r)) τ σ 36 [(0, .ref (g.1 112)), (1, .int l1), (2, .int l2), (3, .int l3), (4, .int l4)] [] := by
  intro f
  induction f with
  | zero =>
    intro σ l3 l4 h
    cases h
  | succ f ih =>
    intro σ l3 l4 h
    rw [b_X12_gain_36] at h
    refine v_iload 38 4 dX12_gain_36 rfl rfl ?_
    refine v_aload_n 39 0 dX12_gain_38 rfl rfl rfl ?_
    obtain ⟨x3, h0, h⟩ := ob h
    refine v_cV 42 8 [] (rfl : kK 112 = 8) rfl (c_X12_codes _ h0) cl_X12_codes gX12_gain_X12_codes rfl ⟨Nat.le_of_ble_eq_true rfl, Nat.le_of_ble_eq_true rfl⟩ rfl rfl (Nat.le_of_ble_eq_true rfl) dX12_gain_39 rfl ?_
    refine v_icmp_ge 45 99 h dX12_gain_42 rfl (by decide) (fun h => ?_) (fun h => ?_)
    · refine v_iload_n 100 3 dX12_gain_99 rfl rfl rfl ?_
      refine v_ldc 102 1000000 dX12_gain_100 (mem_at 2 rfl) rfl ?_
      refine v_icmp_ne 105 111 h dX12_gain_102 rfl (by decide) (fun h => ?_) (fun h => ?_)
      · refine v_iload_n 112 3 dX12_gain_111 rfl rfl rfl ?_
        exact v_iretS h rfl dX12_gain_112
      · refine v_sipush 108 (-10000) dX12_gain_105 kc_s_m10000 rfl ?_
        refine v_goto 112 dX12_gain_108 (by decide) ?_
        exact v_iretS h rfl dX12_gain_112
    · refine v_aload_n 46 0 dX12_gain_45 rfl rfl rfl ?_
      refine v_iload 48 4 dX12_gain_46 rfl rfl ?_
      refine v_iload_n 49 2 dX12_gain_48 rfl rfl rfl ?_
      refine v_iconst 50 1 dX12_gain_49 kc_i_1 rfl ?_
      refine v_icmp_ne 53 57 h dX12_gain_50 rfl (by decide) (fun h => ?_) (fun h => ?_)
      · refine v_iconst 58 0 dX12_gain_57 kc_i_0 rfl ?_
        refine v_sub [0, 1, 2, 3, 4] rfl ?_
        exact q_X12_gain_58 l1 l2 r τ (b_X12_gain_36 l1 l2 f) ih σ l3 l4 0 l4 (Or.inl rfl) h
      · refine v_iconst 54 1 dX12_gain_53 kc_i_1 rfl ?_
        refine v_goto 58 dX12_gain_54 (by decide) ?_
        refine v_sub [0, 1, 2, 3, 4] rfl ?_
        exact q_X12_gain_58 l1 l2 r τ (b_X12_gain_36 l1 l2 f) ih σ l3 l4 1 l4 (Or.inr rfl) h
set_option maxRecDepth 100000 in
set_option maxHeartbeats 4000000 in
theorem c_X12_gain {g : Cx} {σ : Sg} (l1 : Int32) (l2 : Int32) (r : Int32) (τ : Sg) (h : f_X12_gain σ l1 l2 = some (r, τ)) : ∀ l, MetF l yX12_gain wsX12_gain rm_X12_gain g [.ref (g.1 112), .int l1, .int l2] σ (some (.int r)) τ := by
  refine MetF.of (own0 := RX12) (lv0 := [(0, .ref (g.1 112)), (1, .int l1), (2, .int l2)]) rfl cl_X12_gain (by decide) (Nat.le_of_ble_eq_true rfl) rfl ?_
  unfold f_X12_gain at h
  refine v_iload_n 1 1 dX12_gain_0 rfl rfl rfl ?_
  refine v_i2l 2 dX12_gain_1 rfl ?_
  refine v_lconst 3 1 dX12_gain_2 kc_l_1 rfl ?_
  refine v_ldc2 6 999 dX12_gain_3 (mem_at 1 rfl) rfl ?_
  refine v_cS 9 [.long (Int32.toInt64 l1), .long 1, .long 999] (c_X12_in (Int32.toInt64 l1) 1 999) cl_X12_in gX12_gain_X12_in ⟨Nat.le_of_ble_eq_true rfl, Nat.le_of_ble_eq_true rfl⟩ rfl rfl (Nat.le_of_ble_eq_true rfl) dX12_gain_6 rfl ?_
  refine v_if_eq 12 22 h dX12_gain_9 rfl (by decide) (fun h => ?_) (fun h => ?_)
  · refine v_sub [0] rfl ?_
    exact q_X12_gain_22 l1 l2 r τ σ h
  · refine v_iload_n 13 2 dX12_gain_12 rfl rfl rfl ?_
    refine v_i2l 14 dX12_gain_13 rfl ?_
    refine v_lconst 15 0 dX12_gain_14 kc_l_0 rfl ?_
    refine v_lconst 16 1 dX12_gain_15 kc_l_1 rfl ?_
    refine v_cS 19 [.long (Int32.toInt64 l2), .long 0, .long 1] (c_X12_in (Int32.toInt64 l2) 0 1) cl_X12_in gX12_gain_X12_in ⟨Nat.le_of_ble_eq_true rfl, Nat.le_of_ble_eq_true rfl⟩ rfl rfl (Nat.le_of_ble_eq_true rfl) dX12_gain_16 rfl ?_
    refine v_if_ne 22 30 h dX12_gain_19 rfl (by decide) (fun h => ?_) (fun h => ?_)
    · refine v_ldc 32 1000000 dX12_gain_30 (mem_at 2 rfl) rfl ?_
      refine v_istore_n 33 dX12_gain_32 rfl (by decide) rfl rfl ?_
      refine v_iconst 34 0 dX12_gain_33 kc_i_0 rfl ?_
      refine v_istore 36 dX12_gain_34 (by decide) rfl rfl ?_
      refine v_sub [2, 3, 4, 1, 0] rfl ?_
      exact q_X12_gain_36 l1 l2 r τ FU σ 1000000 0 h
    · refine v_sub [0] rfl ?_
      exact q_X12_gain_22 l1 l2 r τ σ h
-- public int gifts(int);
abbrev rm_X12_gifts : Room := { frames := 2, cells := 0, slots := 0, locals := 46 }
theorem cl_X12_gifts : Cl yX12_gifts wsX12_gifts cX12_gifts 5 (some .int) rm_X12_gifts 1 := ⟨⟨_, rfl⟩, rfl, rfl, by decide +kernel, by decide +kernel, by decide +kernel⟩
theorem in_X12_gifts_8 : ∀ w ∈ wsX120, w ∈ wsX12_gifts := fun w h => List.mem_cons_of_mem _ (List.mem_append_right _ h)
def b_X12_gifts_90 (l1 : Int32) (c19 : Sg → Int32 → Int32 → Option (Int32 × Sg)) (σ : Sg) (l2 : Int32) (l3 : Int32) : Option (Int32 × Sg) := nam (l3 + 1) fun x2 => c19 σ l2 x2
def b_X12_gifts_76 (l1 : Int32) (c19 : Sg → Int32 → Int32 → Option (Int32 × Sg)) (σ : Sg) (l2 : Int32) (l3 : Int32) (l4 : Int32) : Option (Int32 × Sg) := (if l4 = 10 then (some ((-1), σ)) else nam (l2 + l4) fun x3 => b_X12_gifts_90 l1 c19 σ x3 l3)
def b_X12_gifts_53 (l1 : Int32) (c19 : Sg → Int32 → Int32 → Option (Int32 × Sg)) : Nat → Sg → Int32 → Int32 → Int32 → Option (Int32 × Sg)
  | 0, _, _, _, _ => none
  | f + 1, σ, l2, l3, l4 => (if 10 ≤ l4 then b_X12_gifts_76 l1 c19 σ l2 l3 l4 else (f_X12_wouldLend σ l3 l4).bind fun x4 => (if x4 = 0 then nam (l4 + 1) fun x5 => b_X12_gifts_53 l1 c19 f σ l2 l3 x5 else b_X12_gifts_76 l1 c19 σ l2 l3 l4))
def b_X12_gifts_19 (l1 : Int32) : Nat → Sg → Int32 → Int32 → Option (Int32 × Sg)
  | 0, _, _, _ => none
  | f + 1, σ, l2, l3 => (if inb 0 (kLen 113) = true then (if (rI σ 113 (ix 0)) ≤ l3 then (some (l2, σ)) else (if (f_X12_has l1 l3) = 0 then b_X12_gifts_90 l1 (b_X12_gifts_19 l1 f) σ l2 l3 else (if inb 3 (kLen 113) = true then (if (f_X12_has (rI σ 113 (ix 3)) l3) = 0 then b_X12_gifts_53 l1 (b_X12_gifts_19 l1 f) FU σ l2 l3 0 else b_X12_gifts_90 l1 (b_X12_gifts_19 l1 f) σ l2 l3) else none))) else none)
def f_X12_gifts (σ : Sg) (l1 : Int32) : Option (Int32 × Sg) := (f_X12_areKeepers σ l1).bind fun x1 => (if x1 = 0 then bnd (f_X12_bad σ (-2)) fun x6 s7 => (some (x6, s7)) else b_X12_gifts_19 l1 FU σ 0 0)
set_option maxRecDepth 100000 in
set_option maxHeartbeats 4000000 in
theorem q_X12_gifts_90 {g : Cx} (l1 : Int32) (r : Int32) (τ : Sg) (c19 : Sg → Int32 → Int32 → Option (Int32 × Sg)) (hc19 : ∀ σ : Sg, ∀ l2 : Int32, ∀ l3 : Int32, c19 σ l2 l3 = some (r, τ) → V g cX12_gifts RX12 wsX12_gifts 5 (some .int) rm_X12_gifts (some (.int r)) τ σ 19 [(0, .ref (g.1 112)), (1, .int l1), (2, .int l2), (3, .int l3)] []) : ∀ σ : Sg, ∀ l2 : Int32, ∀ l3 : Int32, b_X12_gifts_90 l1 c19 σ l2 l3 = some (r, τ) → V g cX12_gifts RX12 wsX12_gifts 5 (some .int) rm_X12_gifts (some (.int r)) τ σ 90 [(0, .ref (g.1 112)), (1, .int l1), (2, .int l2), (3, .int l3)] [] := by
  intro σ l2 l3 h
  unfold b_X12_gifts_90 at h
  refine v_iincN 93 3 h dX12_gifts_90 rfl kc_i_1 (by decide) rfl (fun _ => rfl) (fun x2 h => ?_)
  refine v_goto 19 dX12_gifts_93 (by decide) ?_
  refine v_sub [1, 2, 3, 0] rfl ?_
  exact hc19 σ l2 x2 h
set_option maxRecDepth 100000 in
set_option maxHeartbeats 4000000 in
theorem q_X12_gifts_76 {g : Cx} (l1 : Int32) (r : Int32) (τ : Sg) (c19 : Sg → Int32 → Int32 → Option (Int32 × Sg)) (hc19 : ∀ σ : Sg, ∀ l2 : Int32, ∀ l3 : Int32, c19 σ l2 l3 = some (r, τ) → V g cX12_gifts RX12 wsX12_gifts 5 (some .int) rm_X12_gifts (some (.int r)) τ σ 19 [(0, .ref (g.1 112)), (1, .int l1), (2, .int l2), (3, .int l3)] []) : ∀ σ : Sg, ∀ l2 : Int32, ∀ l3 : Int32, ∀ l4 : Int32, b_X12_gifts_76 l1 c19 σ l2 l3 l4 = some (r, τ) → V g cX12_gifts RX12 wsX12_gifts 5 (some .int) rm_X12_gifts (some (.int r)) τ σ 76 [(0, .ref (g.1 112)), (1, .int l1), (2, .int l2), (3, .int l3), (4, .int l4)] [] := by
  intro σ l2 l3 l4 h
  unfold b_X12_gifts_76 at h
  refine v_iload 78 4 dX12_gifts_76 rfl rfl ?_
  refine v_bipush 80 10 dX12_gifts_78 kc_b_10 rfl ?_
  refine v_icmp_ne 83 85 h dX12_gifts_80 rfl (by decide) (fun h => ?_) (fun h => ?_)
  · refine v_iload_n 86 2 dX12_gifts_85 rfl rfl rfl ?_
    refine v_iload 88 4 dX12_gifts_86 rfl rfl ?_
    refine v_iadd 89 dX12_gifts_88 rfl ?_
    refine v_istoreN_n 90 h dX12_gifts_89 rfl (by decide) rfl (fun _ => rfl) (fun x3 h => ?_)
    refine v_sub [1, 2, 0, 3] rfl ?_
    exact q_X12_gifts_90 l1 r τ c19 hc19 σ x3 l3 h
  · refine v_iconst 84 (-1) dX12_gifts_83 kc_i_m1 rfl ?_
    exact v_iretS h rfl dX12_gifts_84
set_option maxRecDepth 100000 in
set_option maxHeartbeats 4000000 in
theorem q_X12_gifts_53 {g : Cx} (l1 : Int32) (r : Int32) (τ : Sg) (c19 : Sg → Int32 → Int32 → Option (Int32 × Sg)) (hc19 : ∀ σ : Sg, ∀ l2 : Int32, ∀ l3 : Int32, c19 σ l2 l3 = some (r, τ) → V g cX12_gifts RX12 wsX12_gifts 5 (some .int) rm_X12_gifts (some (.int r)) τ σ 19 [(0, .ref (g.1 112)), (1, .int l1), (2, .int l2), (3, .int l3)] []) : ∀ f : Nat, ∀ σ : Sg, ∀ l2 : Int32, ∀ l3 : Int32, ∀ l4 : Int32, b_X12_gifts_53 l1 c19 f σ l2 l3 l4 = some (r, τ) → V g cX12_gifts RX12 wsX12_gifts 5 (some .int) rm_X12_gifts (some (.int r)) τ σ 53 [(0, .ref (g.1 112)), (1, .int l1), (2, .int l2), (3, .int l3), (4, .int l4)] [] := by
  intro f
  induction f with
  | zero =>
    intro σ l2 l3 l4 h
    cases h
  | succ f ih =>
    intro σ l2 l3 l4 h
    rw [b_X12_gifts_53] at h
    refine v_iload 55 4 dX12_gifts_53 rfl rfl ?_
    refine v_bipush 57 10 dX12_gifts_55 kc_b_10 rfl ?_
    refine v_icmp_ge 60 76 h dX12_gifts_57 rfl (by decide) (fun h => ?_) (fun h => ?_)
    · refine v_sub [0, 1, 2, 3, 4] rfl ?_
      exact q_X12_gifts_76 l1 r τ c19 hc19 σ l2 l3 l4 h
    · refine v_aload_n 61 0 dX12_gifts_60 rfl rfl rfl ?_
      refine v_iload_n 62 3 dX12_gifts_61 rfl rfl rfl ?_
      refine v_iload 64 4 dX12_gifts_62 rfl rfl ?_
      obtain ⟨x4, h0, h⟩ := ob h
      refine v_cV 67 8 [.int l3, .int l4] (rfl : kK 112 = 8) rfl (c_X12_wouldLend l3 l4 _ h0) cl_X12_wouldLend gX12_gifts_X12_wouldLend rfl ⟨Nat.le_of_ble_eq_true rfl, Nat.le_of_ble_eq_true rfl⟩ rfl rfl (Nat.le_of_ble_eq_true rfl) dX12_gifts_64 rfl ?_
      refine v_if_ne 70 76 h dX12_gifts_67 rfl (by decide) (fun h => ?_) (fun h => ?_)
      · refine v_sub [0, 1, 2, 3, 4] rfl ?_
        exact q_X12_gifts_76 l1 r τ c19 hc19 σ l2 l3 l4 h
      · refine v_iincN 73 4 h dX12_gifts_70 rfl kc_i_1 (by decide) rfl (fun _ => rfl) (fun x5 h => ?_)
        refine v_goto 53 dX12_gifts_73 (by decide) ?_
        refine v_sub [1, 2, 3, 4, 0] rfl ?_
        exact ih σ l2 l3 x5 h
set_option maxRecDepth 100000 in
set_option maxHeartbeats 4000000 in
theorem q_X12_gifts_19 {g : Cx} (l1 : Int32) (r : Int32) (τ : Sg) : ∀ f : Nat, ∀ σ : Sg, ∀ l2 : Int32, ∀ l3 : Int32, b_X12_gifts_19 l1 f σ l2 l3 = some (r, τ) → V g cX12_gifts RX12 wsX12_gifts 5 (some .int) rm_X12_gifts (some (.int r)) τ σ 19 [(0, .ref (g.1 112)), (1, .int l1), (2, .int l2), (3, .int l3)] [] := by
  intro f
  induction f with
  | zero =>
    intro σ l2 l3 h
    cases h
  | succ f ih =>
    intro σ l2 l3 h
    rw [b_X12_gifts_19] at h
    refine v_iload_n 20 3 dX12_gifts_19 rfl rfl rfl ?_
    refine v_aload_n 21 0 dX12_gifts_20 rfl rfl rfl ?_
    refine vg_8_0 24 (rfl : kK 112 = 8) in_X12_gifts_8 (mem_at 1 rfl) dX12_gifts_21 rfl ?_
    refine v_iconst 25 0 dX12_gifts_24 kc_i_0 rfl ?_
    refine v_iald 26 h (rfl : kK 113 = 9) dX12_gifts_25 rfl (fun h => ?_)
    refine v_icmp_ge 29 96 h dX12_gifts_26 rfl (by decide) (fun h => ?_) (fun h => ?_)
    · refine v_iload_n 97 2 dX12_gifts_96 rfl rfl rfl ?_
      exact v_iretS h rfl dX12_gifts_97
    · refine v_iload_n 30 1 dX12_gifts_29 rfl rfl rfl ?_
      refine v_iload_n 31 3 dX12_gifts_30 rfl rfl rfl ?_
      refine v_cS 34 [.int l1, .int l3] (c_X12_has l1 l3) cl_X12_has gX12_gifts_X12_has ⟨Nat.le_of_ble_eq_true rfl, Nat.le_of_ble_eq_true rfl⟩ rfl rfl (Nat.le_of_ble_eq_true rfl) dX12_gifts_31 rfl ?_
      refine v_if_eq 37 90 h dX12_gifts_34 rfl (by decide) (fun h => ?_) (fun h => ?_)
      · refine v_sub [0, 1, 2, 3] rfl ?_
        exact q_X12_gifts_90 l1 r τ (b_X12_gifts_19 l1 f) ih σ l2 l3 h
      · refine v_aload_n 38 0 dX12_gifts_37 rfl rfl rfl ?_
        refine vg_8_0 41 (rfl : kK 112 = 8) in_X12_gifts_8 (mem_at 1 rfl) dX12_gifts_38 rfl ?_
        refine v_iconst 42 3 dX12_gifts_41 kc_i_3 rfl ?_
        refine v_iald 43 h (rfl : kK 113 = 9) dX12_gifts_42 rfl (fun h => ?_)
        refine v_iload_n 44 3 dX12_gifts_43 rfl rfl rfl ?_
        refine v_cS 47 [.int (rI σ 113 (ix 3)), .int l3] (c_X12_has (rI σ 113 (ix 3)) l3) cl_X12_has gX12_gifts_X12_has ⟨Nat.le_of_ble_eq_true rfl, Nat.le_of_ble_eq_true rfl⟩ rfl rfl (Nat.le_of_ble_eq_true rfl) dX12_gifts_44 rfl ?_
        refine v_if_ne 50 90 h dX12_gifts_47 rfl (by decide) (fun h => ?_) (fun h => ?_)
        · refine v_sub [0, 1, 2, 3] rfl ?_
          exact q_X12_gifts_90 l1 r τ (b_X12_gifts_19 l1 f) ih σ l2 l3 h
        · refine v_iconst 51 0 dX12_gifts_50 kc_i_0 rfl ?_
          refine v_istore 53 dX12_gifts_51 (by decide) rfl rfl ?_
          refine v_sub [1, 2, 3, 4, 0] rfl ?_
          exact q_X12_gifts_53 l1 r τ (b_X12_gifts_19 l1 f) ih FU σ l2 l3 0 h
set_option maxRecDepth 100000 in
set_option maxHeartbeats 4000000 in
theorem c_X12_gifts {g : Cx} {σ : Sg} (l1 : Int32) (r : Int32) (τ : Sg) (h : f_X12_gifts σ l1 = some (r, τ)) : ∀ l, MetF l yX12_gifts wsX12_gifts rm_X12_gifts g [.ref (g.1 112), .int l1] σ (some (.int r)) τ := by
  refine MetF.of (own0 := RX12) (lv0 := [(0, .ref (g.1 112)), (1, .int l1)]) rfl cl_X12_gifts (by decide) (Nat.le_of_ble_eq_true rfl) rfl ?_
  unfold f_X12_gifts at h
  refine v_aload_n 1 0 dX12_gifts_0 rfl rfl rfl ?_
  refine v_iload_n 2 1 dX12_gifts_1 rfl rfl rfl ?_
  obtain ⟨x1, h0, h⟩ := ob h
  refine v_cV 5 8 [.int l1] (rfl : kK 112 = 8) rfl (c_X12_areKeepers l1 _ h0) cl_X12_areKeepers gX12_gifts_X12_areKeepers rfl ⟨Nat.le_of_ble_eq_true rfl, Nat.le_of_ble_eq_true rfl⟩ rfl rfl (Nat.le_of_ble_eq_true rfl) dX12_gifts_2 rfl ?_
  refine v_if_ne 8 15 h dX12_gifts_5 rfl (by decide) (fun h => ?_) (fun h => ?_)
  · refine v_iconst 16 0 dX12_gifts_15 kc_i_0 rfl ?_
    refine v_istore_n 17 dX12_gifts_16 rfl (by decide) rfl rfl ?_
    refine v_iconst 18 0 dX12_gifts_17 kc_i_0 rfl ?_
    refine v_istore_n 19 dX12_gifts_18 rfl (by decide) rfl rfl ?_
    refine v_sub [2, 3, 1, 0] rfl ?_
    exact q_X12_gifts_19 l1 r τ FU σ 0 0 h
  · refine v_aload_n 9 0 dX12_gifts_8 rfl rfl rfl ?_
    refine v_bipush 11 (-2) dX12_gifts_9 kc_b_m2 rfl ?_
    obtain ⟨x6, s7, h0, h⟩ := ob2 h
    refine v_cV 14 8 [.int (-2)] (rfl : kK 112 = 8) rfl (c_X12_bad (-2) _ _ h0) cl_X12_bad gX12_gifts_X12_bad rfl ⟨Nat.le_of_ble_eq_true rfl, Nat.le_of_ble_eq_true rfl⟩ rfl rfl (Nat.le_of_ble_eq_true rfl) dX12_gifts_11 rfl ?_
    exact v_iretS h rfl dX12_gifts_14
-- private static int goesRound(int, int);
abbrev rm_X12_goesRound : Room := { frames := 0, cells := 0, slots := 0, locals := 0 }
theorem cl_X12_goesRound : Cl yX12_goesRound wsX12_goesRound cX12_goesRound 3 (some .int) rm_X12_goesRound 2 := ⟨⟨_, rfl⟩, rfl, rfl, by decide +kernel, by decide +kernel, by decide +kernel⟩
def b_X12_goesRound_14 (l0 : Int32) (l1 : Int32) (t0 : Int32) : Int32 := (if t0 ≤ 6 then t0 else 12 - t0)
def f_X12_goesRound (l0 : Int32) (l1 : Int32) : Int32 := (if l1 ≤ l0 then b_X12_goesRound_14 l0 l1 (l0 - l1) else b_X12_goesRound_14 l0 l1 (l1 - l0))
set_option maxRecDepth 100000 in
set_option maxHeartbeats 4000000 in
theorem q_X12_goesRound_14 {g : Cx} {σ : Sg} (l0 : Int32) (l1 : Int32) (r : Int32) : ∀ t0 : Int32, b_X12_goesRound_14 l0 l1 t0 = r → V g cX12_goesRound RX12 wsX12_goesRound 3 (some .int) rm_X12_goesRound (some (.int r)) σ σ 14 [] [.int t0] := by
  intro t0 h
  unfold b_X12_goesRound_14 at h
  refine v_istore_n 15 dX12_goesRound_14 rfl (by decide) rfl rfl ?_
  refine v_iload_n 16 0 dX12_goesRound_15 rfl rfl rfl ?_
  refine v_bipush 18 6 dX12_goesRound_16 kc_b_6 rfl ?_
  refine v_icmp_le 21 28 h dX12_goesRound_18 rfl (by decide) (fun h => ?_) (fun h => ?_)
  · refine v_iload_n 29 0 dX12_goesRound_28 rfl rfl rfl ?_
    exact v_iretT h rfl dX12_goesRound_29
  · refine v_bipush 23 12 dX12_goesRound_21 kc_b_12 rfl ?_
    refine v_iload_n 24 0 dX12_goesRound_23 rfl rfl rfl ?_
    refine v_isub 25 dX12_goesRound_24 rfl ?_
    refine v_goto 29 dX12_goesRound_25 (by decide) ?_
    exact v_iretT h rfl dX12_goesRound_29
set_option maxRecDepth 100000 in
set_option maxHeartbeats 4000000 in
theorem c_X12_goesRound {g : Cx} {σ : Sg} (l0 : Int32) (l1 : Int32) : ∀ l, MetF l yX12_goesRound wsX12_goesRound rm_X12_goesRound g [.int l0, .int l1] σ (some (.int (f_X12_goesRound l0 l1))) σ := by
  have main : ∀ r : Int32, f_X12_goesRound l0 l1 = r → ∀ l, MetF l yX12_goesRound wsX12_goesRound rm_X12_goesRound g [.int l0, .int l1] σ (some (.int r)) σ := by
    intro r h
    refine MetF.of (own0 := RX12) (lv0 := [(0, .int l0), (1, .int l1)]) rfl cl_X12_goesRound (by decide) (Nat.le_of_ble_eq_true rfl) rfl ?_
    unfold f_X12_goesRound at h
    refine v_iload_n 1 0 dX12_goesRound_0 rfl rfl rfl ?_
    refine v_iload_n 2 1 dX12_goesRound_1 rfl rfl rfl ?_
    refine v_icmp_ge 5 11 h dX12_goesRound_2 rfl (by decide) (fun h => ?_) (fun h => ?_)
    · refine v_iload_n 12 0 dX12_goesRound_11 rfl rfl rfl ?_
      refine v_iload_n 13 1 dX12_goesRound_12 rfl rfl rfl ?_
      refine v_isub 14 dX12_goesRound_13 rfl ?_
      refine v_sub [] rfl ?_
      exact q_X12_goesRound_14 l0 l1 r (l0 - l1) h
    · refine v_iload_n 6 1 dX12_goesRound_5 rfl rfl rfl ?_
      refine v_iload_n 7 0 dX12_goesRound_6 rfl rfl rfl ?_
      refine v_isub 8 dX12_goesRound_7 rfl ?_
      refine v_goto 14 dX12_goesRound_8 (by decide) ?_
      refine v_sub [] rfl ?_
      exact q_X12_goesRound_14 l0 l1 r (l1 - l0) h
  exact main _ rfl
-- private int greatestPart();
abbrev rm_X12_greatestPart : Room := { frames := 0, cells := 0, slots := 0, locals := 0 }
theorem cl_X12_greatestPart : Cl yX12_greatestPart wsX12_greatestPart cX12_greatestPart 3 (some .int) rm_X12_greatestPart 0 := ⟨⟨_, rfl⟩, rfl, rfl, by decide +kernel, by decide +kernel, by decide +kernel⟩
theorem in_X12_greatestPart_8 : ∀ w ∈ wsX120, w ∈ wsX12_greatestPart := fun w h => List.mem_cons_of_mem _ (List.mem_append_right _ h)
def b_X12_greatestPart_31 (σ : Sg) (c4 : Int32 → Int32 → Option Int32) (l2 : Int32) (t0 : Int32) : Option Int32 := nam (l2 + 1) fun x1 => c4 t0 x1
def b_X12_greatestPart_4 (σ : Sg) : Nat → Int32 → Int32 → Option Int32
  | 0, _, _ => none
  | f + 1, l1, l2 => (if 300 ≤ l2 then (some (l1)) else (if inb l2 (kLen 120) = true then (if (rI σ 120 (ix l2)) ≤ l1 then b_X12_greatestPart_31 σ (b_X12_greatestPart_4 σ f) l2 l1 else (if inb l2 (kLen 120) = true then b_X12_greatestPart_31 σ (b_X12_greatestPart_4 σ f) l2 (rI σ 120 (ix l2)) else none)) else none))
def f_X12_greatestPart (σ : Sg) : Option Int32 := b_X12_greatestPart_4 σ FU 0 0
set_option maxRecDepth 100000 in
set_option maxHeartbeats 4000000 in
theorem q_X12_greatestPart_31 {g : Cx} (σ : Sg) (r : Int32) (c4 : Int32 → Int32 → Option Int32) (hc4 : ∀ l1 : Int32, ∀ l2 : Int32, c4 l1 l2 = some r → V g cX12_greatestPart RX12 wsX12_greatestPart 3 (some .int) rm_X12_greatestPart (some (.int r)) σ σ 4 [(0, .ref (g.1 112)), (1, .int l1), (2, .int l2)] []) : ∀ l2 : Int32, ∀ t0 : Int32, b_X12_greatestPart_31 σ c4 l2 t0 = some r → V g cX12_greatestPart RX12 wsX12_greatestPart 3 (some .int) rm_X12_greatestPart (some (.int r)) σ σ 31 [(0, .ref (g.1 112)), (2, .int l2)] [.int t0] := by
  intro l2 t0 h
  unfold b_X12_greatestPart_31 at h
  refine v_istore_n 32 dX12_greatestPart_31 rfl (by decide) rfl rfl ?_
  refine v_iincN 35 2 h dX12_greatestPart_32 rfl kc_i_1 (by decide) rfl (fun _ => rfl) (fun x1 h => ?_)
  refine v_goto 4 dX12_greatestPart_35 (by decide) ?_
  refine v_sub [2, 1, 0] rfl ?_
  exact hc4 t0 x1 h
set_option maxRecDepth 100000 in
set_option maxHeartbeats 4000000 in
theorem q_X12_greatestPart_4 {g : Cx} (σ : Sg) (r : Int32) : ∀ f : Nat, ∀ l1 : Int32, ∀ l2 : Int32, b_X12_greatestPart_4 σ f l1 l2 = some r → V g cX12_greatestPart RX12 wsX12_greatestPart 3 (some .int) rm_X12_greatestPart (some (.int r)) σ σ 4 [(0, .ref (g.1 112)), (1, .int l1), (2, .int l2)] [] := by
  intro f
  induction f with
  | zero =>
    intro l1 l2 h
    cases h
  | succ f ih =>
    intro l1 l2 h
    rw [b_X12_greatestPart_4] at h
    refine v_iload_n 5 2 dX12_greatestPart_4 rfl rfl rfl ?_
    refine v_sipush 8 300 dX12_greatestPart_5 kc_s_300 rfl ?_
    refine v_icmp_ge 11 38 h dX12_greatestPart_8 rfl (by decide) (fun h => ?_) (fun h => ?_)
    · refine v_iload_n 39 1 dX12_greatestPart_38 rfl rfl rfl ?_
      exact v_iretP h rfl dX12_greatestPart_39
    · refine v_aload_n 12 0 dX12_greatestPart_11 rfl rfl rfl ?_
      refine vg_8_17 15 (rfl : kK 112 = 8) in_X12_greatestPart_8 (mem_at 1 rfl) dX12_greatestPart_12 rfl ?_
      refine v_iload_n 16 2 dX12_greatestPart_15 rfl rfl rfl ?_
      refine v_iald 17 h (rfl : kK 120 = 9) dX12_greatestPart_16 rfl (fun h => ?_)
      refine v_iload_n 18 1 dX12_greatestPart_17 rfl rfl rfl ?_
      refine v_icmp_le 21 30 h dX12_greatestPart_18 rfl (by decide) (fun h => ?_) (fun h => ?_)
      · refine v_iload_n 31 1 dX12_greatestPart_30 rfl rfl rfl ?_
        refine v_sub [0, 2] rfl ?_
        exact q_X12_greatestPart_31 σ r (b_X12_greatestPart_4 σ f) ih l2 l1 h
      · refine v_aload_n 22 0 dX12_greatestPart_21 rfl rfl rfl ?_
        refine vg_8_17 25 (rfl : kK 112 = 8) in_X12_greatestPart_8 (mem_at 1 rfl) dX12_greatestPart_22 rfl ?_
        refine v_iload_n 26 2 dX12_greatestPart_25 rfl rfl rfl ?_
        refine v_iald 27 h (rfl : kK 120 = 9) dX12_greatestPart_26 rfl (fun h => ?_)
        refine v_goto 31 dX12_greatestPart_27 (by decide) ?_
        refine v_sub [0, 2] rfl ?_
        exact q_X12_greatestPart_31 σ r (b_X12_greatestPart_4 σ f) ih l2 (rI σ 120 (ix l2)) h
set_option maxRecDepth 100000 in
set_option maxHeartbeats 4000000 in
theorem c_X12_greatestPart {g : Cx} {σ : Sg} (r : Int32) (h : f_X12_greatestPart σ = some r) : ∀ l, MetF l yX12_greatestPart wsX12_greatestPart rm_X12_greatestPart g [.ref (g.1 112)] σ (some (.int r)) σ := by
  refine MetF.of (own0 := RX12) (lv0 := [(0, .ref (g.1 112))]) rfl cl_X12_greatestPart (by decide) (Nat.le_of_ble_eq_true rfl) rfl ?_
  unfold f_X12_greatestPart at h
  refine v_iconst 1 0 dX12_greatestPart_0 kc_i_0 rfl ?_
  refine v_istore_n 2 dX12_greatestPart_1 rfl (by decide) rfl rfl ?_
  refine v_iconst 3 0 dX12_greatestPart_2 kc_i_0 rfl ?_
  refine v_istore_n 4 dX12_greatestPart_3 rfl (by decide) rfl rfl ?_
  refine v_sub [2, 1, 0] rfl ?_
  exact q_X12_greatestPart_4 σ r FU 0 0 h
-- public int held(int, int);
abbrev rm_X12_held : Room := { frames := 2, cells := 0, slots := 0, locals := 46 }
theorem cl_X12_held : Cl yX12_held wsX12_held cX12_held 4 (some .int) rm_X12_held 2 := ⟨⟨_, rfl⟩, rfl, rfl, by decide +kernel, by decide +kernel, by decide +kernel⟩
theorem in_X12_held_8 : ∀ w ∈ wsX120, w ∈ wsX12_held := fun w h => List.mem_cons_of_mem _ (List.mem_append_right _ h)
def b_X12_held_20 (l1 : Int32) (l2 : Int32) (σ : Sg) : Option (Int32 × Sg) := bnd (f_X12_bad σ (-2)) fun x2 s3 => (some (x2, s3))
def f_X12_held (σ : Sg) (l1 : Int32) (l2 : Int32) : Option (Int32 × Sg) := (f_X12_isKeeper σ l1).bind fun x1 => (if x1 = 0 then b_X12_held_20 l1 l2 σ else (if (f_X12_in (Int32.toInt64 l2) 1 250) = 0 then b_X12_held_20 l1 l2 σ else (if inb (25 + l1) (kLen 113) = true then nam (rI σ 113 (ix (25 + l1))) fun x4 => (if inb (25 + l1) (kLen 113) = true then nam (stI σ 113 (ix (25 + l1)) l2) (fun s5 => (if inb 112 (kLen 113) = true then nam (stI s5 113 (ix 112) 0) (fun s6 => (some (x4, s6))) else none)) else none) else none)))
set_option maxRecDepth 100000 in
set_option maxHeartbeats 4000000 in
theorem q_X12_held_20 {g : Cx} (l1 : Int32) (l2 : Int32) (r : Int32) (τ : Sg) : ∀ σ : Sg, b_X12_held_20 l1 l2 σ = some (r, τ) → V g cX12_held RX12 wsX12_held 4 (some .int) rm_X12_held (some (.int r)) τ σ 20 [(0, .ref (g.1 112))] [] := by
  intro σ h
  unfold b_X12_held_20 at h
  refine v_aload_n 21 0 dX12_held_20 rfl rfl rfl ?_
  refine v_bipush 23 (-2) dX12_held_21 kc_b_m2 rfl ?_
  obtain ⟨x2, s3, h0, h⟩ := ob2 h
  refine v_cV 26 8 [.int (-2)] (rfl : kK 112 = 8) rfl (c_X12_bad (-2) _ _ h0) cl_X12_bad gX12_held_X12_bad rfl ⟨Nat.le_of_ble_eq_true rfl, Nat.le_of_ble_eq_true rfl⟩ rfl rfl (Nat.le_of_ble_eq_true rfl) dX12_held_23 rfl ?_
  exact v_iretS h rfl dX12_held_26
set_option maxRecDepth 100000 in
set_option maxHeartbeats 4000000 in
theorem c_X12_held {g : Cx} {σ : Sg} (l1 : Int32) (l2 : Int32) (r : Int32) (τ : Sg) (h : f_X12_held σ l1 l2 = some (r, τ)) : ∀ l, MetF l yX12_held wsX12_held rm_X12_held g [.ref (g.1 112), .int l1, .int l2] σ (some (.int r)) τ := by
  refine MetF.of (own0 := RX12) (lv0 := [(0, .ref (g.1 112)), (1, .int l1), (2, .int l2)]) rfl cl_X12_held (by decide) (Nat.le_of_ble_eq_true rfl) rfl ?_
  unfold f_X12_held at h
  refine v_aload_n 1 0 dX12_held_0 rfl rfl rfl ?_
  refine v_iload_n 2 1 dX12_held_1 rfl rfl rfl ?_
  obtain ⟨x1, h0, h⟩ := ob h
  refine v_cV 5 8 [.int l1] (rfl : kK 112 = 8) rfl (c_X12_isKeeper l1 _ h0) cl_X12_isKeeper gX12_held_X12_isKeeper rfl ⟨Nat.le_of_ble_eq_true rfl, Nat.le_of_ble_eq_true rfl⟩ rfl rfl (Nat.le_of_ble_eq_true rfl) dX12_held_2 rfl ?_
  refine v_if_eq 8 20 h dX12_held_5 rfl (by decide) (fun h => ?_) (fun h => ?_)
  · refine v_sub [0] rfl ?_
    exact q_X12_held_20 l1 l2 r τ σ h
  · refine v_iload_n 9 2 dX12_held_8 rfl rfl rfl ?_
    refine v_i2l 10 dX12_held_9 rfl ?_
    refine v_lconst 11 1 dX12_held_10 kc_l_1 rfl ?_
    refine v_ldc2 14 250 dX12_held_11 (mem_at 1 rfl) rfl ?_
    refine v_cS 17 [.long (Int32.toInt64 l2), .long 1, .long 250] (c_X12_in (Int32.toInt64 l2) 1 250) cl_X12_in gX12_held_X12_in ⟨Nat.le_of_ble_eq_true rfl, Nat.le_of_ble_eq_true rfl⟩ rfl rfl (Nat.le_of_ble_eq_true rfl) dX12_held_14 rfl ?_
    refine v_if_ne 20 27 h dX12_held_17 rfl (by decide) (fun h => ?_) (fun h => ?_)
    · refine v_aload_n 28 0 dX12_held_27 rfl rfl rfl ?_
      refine vg_8_0 31 (rfl : kK 112 = 8) in_X12_held_8 (mem_at 2 rfl) dX12_held_28 rfl ?_
      refine v_bipush 33 25 dX12_held_31 kc_b_25 rfl ?_
      refine v_iload_n 34 1 dX12_held_33 rfl rfl rfl ?_
      refine v_iadd 35 dX12_held_34 rfl ?_
      refine v_iald 36 h (rfl : kK 113 = 9) dX12_held_35 rfl (fun h => ?_)
      refine v_istoreN_n 37 h dX12_held_36 rfl (by decide) rfl (fun _ => rfl) (fun x4 h => ?_)
      refine v_aload_n 38 1 dX12_held_37 rfl rfl rfl ?_
      refine vg_8_0 41 (rfl : kK 112 = 8) in_X12_held_8 (mem_at 2 rfl) dX12_held_38 rfl ?_
      refine v_bipush 43 25 dX12_held_41 kc_b_25 rfl ?_
      refine v_iload_n 44 2 dX12_held_43 rfl rfl rfl ?_
      refine v_iadd 45 dX12_held_44 rfl ?_
      refine v_iload_n 46 3 dX12_held_45 rfl rfl rfl ?_
      refine v_iast 47 h (rfl : kK 113 = 9) dX12_held_46 rfl (fun s5 h => ?_)
      refine v_aload_n 48 1 dX12_held_47 rfl rfl rfl ?_
      refine vg_8_0 51 (rfl : kK 112 = 8) in_X12_held_8 (mem_at 2 rfl) dX12_held_48 rfl ?_
      refine v_bipush 53 112 dX12_held_51 kc_b_112 rfl ?_
      refine v_iconst 54 0 dX12_held_53 kc_i_0 rfl ?_
      refine v_iast 55 h (rfl : kK 113 = 9) dX12_held_54 rfl (fun s6 h => ?_)
      refine v_iload_n 56 0 dX12_held_55 rfl rfl rfl ?_
      exact v_iretS h rfl dX12_held_56
    · refine v_sub [0] rfl ?_
      exact q_X12_held_20 l1 l2 r τ σ h
-- public int image(int);
abbrev rm_X12_image : Room := { frames := 1, cells := 0, slots := 0, locals := 25 }
theorem cl_X12_image : Cl yX12_image wsX12_image cX12_image 2 (some .int) rm_X12_image 1 := ⟨⟨_, rfl⟩, rfl, rfl, by decide +kernel, by decide +kernel, by decide +kernel⟩
theorem in_X12_image_8 : ∀ w ∈ wsX120, w ∈ wsX12_image := fun w h => List.mem_cons_of_mem _ (List.mem_append_right _ h)
def f_X12_image (σ : Sg) (l1 : Int32) : Option (Int32 × Sg) := (if (f_X12_in (Int32.toInt64 l1) 0 1) = 0 then bnd (f_X12_bad σ (-2)) fun x3 s4 => (some (x3, s4)) else (f_X12_copy σ 0 (241 + (241 * l1))).bind fun s1 => (if inb l1 (kLen 114) = true then nam (stI s1 114 (ix l1) (vp_nar .boolean 1)) (fun s2 => (some (1, s2))) else none))
set_option maxRecDepth 100000 in
set_option maxHeartbeats 4000000 in
theorem c_X12_image {g : Cx} {σ : Sg} (l1 : Int32) (r : Int32) (τ : Sg) (h : f_X12_image σ l1 = some (r, τ)) : ∀ l, MetF l yX12_image wsX12_image rm_X12_image g [.ref (g.1 112), .int l1] σ (some (.int r)) τ := by
  refine MetF.of (own0 := RX12) (lv0 := [(0, .ref (g.1 112)), (1, .int l1)]) rfl cl_X12_image (by decide) (Nat.le_of_ble_eq_true rfl) rfl ?_
  unfold f_X12_image at h
  refine v_iload_n 1 1 dX12_image_0 rfl rfl rfl ?_
  refine v_i2l 2 dX12_image_1 rfl ?_
  refine v_lconst 3 0 dX12_image_2 kc_l_0 rfl ?_
  refine v_lconst 4 1 dX12_image_3 kc_l_1 rfl ?_
  refine v_cS 7 [.long (Int32.toInt64 l1), .long 0, .long 1] (c_X12_in (Int32.toInt64 l1) 0 1) cl_X12_in gX12_image_X12_in ⟨Nat.le_of_ble_eq_true rfl, Nat.le_of_ble_eq_true rfl⟩ rfl rfl (Nat.le_of_ble_eq_true rfl) dX12_image_4 rfl ?_
  refine v_if_ne 10 17 h dX12_image_7 rfl (by decide) (fun h => ?_) (fun h => ?_)
  · refine v_aload_n 18 0 dX12_image_17 rfl rfl rfl ?_
    refine v_iconst 19 0 dX12_image_18 kc_i_0 rfl ?_
    refine v_sipush 22 241 dX12_image_19 kc_s_241 rfl ?_
    refine v_sipush 25 241 dX12_image_22 kc_s_241 rfl ?_
    refine v_iload_n 26 1 dX12_image_25 rfl rfl rfl ?_
    refine v_imul 27 dX12_image_26 rfl ?_
    refine v_iadd 28 dX12_image_27 rfl ?_
    obtain ⟨s1, h0, h⟩ := ob h
    refine v_cV 31 8 [.int 0, .int (241 + (241 * l1))] (rfl : kK 112 = 8) rfl (c_X12_copy 0 (241 + (241 * l1)) _ h0) cl_X12_copy gX12_image_X12_copy rfl ⟨Nat.le_of_ble_eq_true rfl, Nat.le_of_ble_eq_true rfl⟩ rfl rfl (Nat.le_of_ble_eq_true rfl) dX12_image_28 rfl ?_
    refine v_aload_n 32 0 dX12_image_31 rfl rfl rfl ?_
    refine vg_8_1 35 (rfl : kK 112 = 8) in_X12_image_8 (mem_at 1 rfl) dX12_image_32 rfl ?_
    refine v_iload_n 36 1 dX12_image_35 rfl rfl rfl ?_
    refine v_iconst 37 1 dX12_image_36 kc_i_1 rfl ?_
    refine v_zast 38 h (rfl : kK 114 = 10) dX12_image_37 rfl (fun s2 h => ?_)
    refine v_iconst 39 1 dX12_image_38 kc_i_1 rfl ?_
    exact v_iretS h rfl dX12_image_39
  · refine v_aload_n 11 0 dX12_image_10 rfl rfl rfl ?_
    refine v_bipush 13 (-2) dX12_image_11 kc_b_m2 rfl ?_
    obtain ⟨x3, s4, h0, h⟩ := ob2 h
    refine v_cV 16 8 [.int (-2)] (rfl : kK 112 = 8) rfl (c_X12_bad (-2) _ _ h0) cl_X12_bad gX12_image_X12_bad rfl ⟨Nat.le_of_ble_eq_true rfl, Nat.le_of_ble_eq_true rfl⟩ rfl rfl (Nat.le_of_ble_eq_true rfl) dX12_image_13 rfl ?_
    exact v_iretS h rfl dX12_image_16
-- private int kindsOf(int);
abbrev rm_X12_kindsOf : Room := { frames := 2, cells := 0, slots := 0, locals := 43 }
theorem cl_X12_kindsOf : Cl yX12_kindsOf wsX12_kindsOf cX12_kindsOf 7 (some .int) rm_X12_kindsOf 1 := ⟨⟨_, rfl⟩, rfl, rfl, by decide +kernel, by decide +kernel, by decide +kernel⟩
theorem in_X12_kindsOf_8 : ∀ w ∈ wsX120, w ∈ wsX12_kindsOf := fun w h => List.mem_cons_of_mem _ (List.mem_append_right _ h)
def b_X12_kindsOf_113 (σ : Sg) (l1 : Int32) (c4 : Int32 → Int32 → Option Int32) (l3 : Int32) (t0 : Int32) (t1 : Int32) : Option Int32 := nam (t1 ||| t0) fun x1 => nam (l3 + 1) fun x2 => c4 x1 x2
def b_X12_kindsOf_92 (σ : Sg) (l1 : Int32) (c4 : Int32 → Int32 → Option Int32) (c16 : Int32 → Int32 → Int32 → Int32 → Option Int32) (l2 : Int32) (l3 : Int32) (l5 : Int32) (t0 : Int32) : Option Int32 := nam (l5 + 1) fun x4 => c16 l2 l3 t0 x4
def b_X12_kindsOf_91 (σ : Sg) (l1 : Int32) (c4 : Int32 → Int32 → Option Int32) (c16 : Int32 → Int32 → Int32 → Int32 → Option Int32) (l2 : Int32) (l3 : Int32) (l5 : Int32) : Option Int32 := b_X12_kindsOf_92 σ l1 c4 c16 l2 l3 l5 0
def b_X12_kindsOf_87 (σ : Sg) (l1 : Int32) (c4 : Int32 → Int32 → Option Int32) (c16 : Int32 → Int32 → Int32 → Int32 → Option Int32) (l2 : Int32) (l3 : Int32) (l5 : Int32) : Option Int32 := b_X12_kindsOf_92 σ l1 c4 c16 l2 l3 l5 1
def b_X12_kindsOf_16 (σ : Sg) (l1 : Int32) (c4 : Int32 → Int32 → Option Int32) : Nat → Int32 → Int32 → Int32 → Int32 → Option Int32
  | 0, _, _, _, _ => none
  | f + 1, l2, l3, l4, l5 => (if inb 62 (kLen 113) = true then (if (rI σ 113 (ix 62)) ≤ l5 then (if l4 = 0 then b_X12_kindsOf_113 σ l1 c4 l3 0 l2 else b_X12_kindsOf_113 σ l1 c4 l3 (1 <<< (l3 &&& 31)) l2) else nam (63 + (4 * l5)) fun x3 => (if l4 = 0 then b_X12_kindsOf_91 σ l1 c4 (b_X12_kindsOf_16 σ l1 c4 f) l2 l3 l5 else (if inb x3 (kLen 113) = true then (if (rI σ 113 (ix x3)) = l1 then (if inb (x3 + 1) (kLen 113) = true then (if inb (x3 + 2) (kLen 113) = true then (if inb (x3 + 3) (kLen 113) = true then (if (f_X12_goes l3 (rI σ 113 (ix (x3 + 1))) (rI σ 113 (ix (x3 + 2)))) = (rI σ 113 (ix (x3 + 3))) then b_X12_kindsOf_87 σ l1 c4 (b_X12_kindsOf_16 σ l1 c4 f) l2 l3 l5 else b_X12_kindsOf_91 σ l1 c4 (b_X12_kindsOf_16 σ l1 c4 f) l2 l3 l5) else none) else none) else none) else b_X12_kindsOf_87 σ l1 c4 (b_X12_kindsOf_16 σ l1 c4 f) l2 l3 l5) else none))) else none)
def b_X12_kindsOf_4 (σ : Sg) (l1 : Int32) : Nat → Int32 → Int32 → Option Int32
  | 0, _, _ => none
  | f + 1, l2, l3 => (if 6 ≤ l3 then (some (l2)) else b_X12_kindsOf_16 σ l1 (b_X12_kindsOf_4 σ l1 f) FU l2 l3 1 0)
def f_X12_kindsOf (σ : Sg) (l1 : Int32) : Option Int32 := b_X12_kindsOf_4 σ l1 FU 0 0
set_option maxRecDepth 100000 in
set_option maxHeartbeats 4000000 in
theorem q_X12_kindsOf_113 {g : Cx} (σ : Sg) (l1 : Int32) (r : Int32) (c4 : Int32 → Int32 → Option Int32) (hc4 : ∀ l2 : Int32, ∀ l3 : Int32, c4 l2 l3 = some r → V g cX12_kindsOf RX12 wsX12_kindsOf 7 (some .int) rm_X12_kindsOf (some (.int r)) σ σ 4 [(0, .ref (g.1 112)), (1, .int l1), (2, .int l2), (3, .int l3)] []) : ∀ l3 : Int32, ∀ t0 : Int32, ∀ t1 : Int32, b_X12_kindsOf_113 σ l1 c4 l3 t0 t1 = some r → V g cX12_kindsOf RX12 wsX12_kindsOf 7 (some .int) rm_X12_kindsOf (some (.int r)) σ σ 113 [(0, .ref (g.1 112)), (1, .int l1), (3, .int l3)] [.int t0, .int t1] := by
  intro l3 t0 t1 h
  unfold b_X12_kindsOf_113 at h
  refine v_ior 114 dX12_kindsOf_113 rfl ?_
  refine v_istoreN_n 115 h dX12_kindsOf_114 rfl (by decide) rfl (fun _ => rfl) (fun x1 h => ?_)
  refine v_iincN 118 3 h dX12_kindsOf_115 rfl kc_i_1 (by decide) rfl (fun _ => rfl) (fun x2 h => ?_)
  refine v_goto 4 dX12_kindsOf_118 (by decide) ?_
  refine v_sub [2, 3, 1, 0] rfl ?_
  exact hc4 x1 x2 h
set_option maxRecDepth 100000 in
set_option maxHeartbeats 4000000 in
theorem q_X12_kindsOf_92 {g : Cx} (σ : Sg) (l1 : Int32) (r : Int32) (c4 : Int32 → Int32 → Option Int32) (c16 : Int32 → Int32 → Int32 → Int32 → Option Int32) (hc4 : ∀ l2 : Int32, ∀ l3 : Int32, c4 l2 l3 = some r → V g cX12_kindsOf RX12 wsX12_kindsOf 7 (some .int) rm_X12_kindsOf (some (.int r)) σ σ 4 [(0, .ref (g.1 112)), (1, .int l1), (2, .int l2), (3, .int l3)] []) (hc16 : ∀ l2 : Int32, ∀ l3 : Int32, ∀ l4 : Int32, ∀ l5 : Int32, (l4 = 0 ∨ l4 = 1) → c16 l2 l3 l4 l5 = some r → V g cX12_kindsOf RX12 wsX12_kindsOf 7 (some .int) rm_X12_kindsOf (some (.int r)) σ σ 16 [(0, .ref (g.1 112)), (1, .int l1), (2, .int l2), (3, .int l3), (4, .int l4), (5, .int l5)] []) : ∀ l2 : Int32, ∀ l3 : Int32, ∀ l5 : Int32, ∀ t0 : Int32, (t0 = 0 ∨ t0 = 1) → b_X12_kindsOf_92 σ l1 c4 c16 l2 l3 l5 t0 = some r → V g cX12_kindsOf RX12 wsX12_kindsOf 7 (some .int) rm_X12_kindsOf (some (.int r)) σ σ 92 [(0, .ref (g.1 112)), (1, .int l1), (2, .int l2), (3, .int l3), (5, .int l5)] [.int t0] := by
  intro l2 l3 l5 t0 hz0 h
  unfold b_X12_kindsOf_92 at h
  refine v_istore 94 dX12_kindsOf_92 (by decide) rfl rfl ?_
  refine v_iincN 97 5 h dX12_kindsOf_94 rfl kc_i_1 (by decide) rfl (fun _ => rfl) (fun x4 h => ?_)
  refine v_goto 16 dX12_kindsOf_97 (by decide) ?_
  refine v_sub [2, 3, 4, 5, 1, 0] rfl ?_
  exact hc16 l2 l3 t0 x4 hz0 h
set_option maxRecDepth 100000 in
set_option maxHeartbeats 4000000 in
theorem q_X12_kindsOf_91 {g : Cx} (σ : Sg) (l1 : Int32) (r : Int32) (c4 : Int32 → Int32 → Option Int32) (c16 : Int32 → Int32 → Int32 → Int32 → Option Int32) (hc4 : ∀ l2 : Int32, ∀ l3 : Int32, c4 l2 l3 = some r → V g cX12_kindsOf RX12 wsX12_kindsOf 7 (some .int) rm_X12_kindsOf (some (.int r)) σ σ 4 [(0, .ref (g.1 112)), (1, .int l1), (2, .int l2), (3, .int l3)] []) (hc16 : ∀ l2 : Int32, ∀ l3 : Int32, ∀ l4 : Int32, ∀ l5 : Int32, (l4 = 0 ∨ l4 = 1) → c16 l2 l3 l4 l5 = some r → V g cX12_kindsOf RX12 wsX12_kindsOf 7 (some .int) rm_X12_kindsOf (some (.int r)) σ σ 16 [(0, .ref (g.1 112)), (1, .int l1), (2, .int l2), (3, .int l3), (4, .int l4), (5, .int l5)] []) : ∀ l2 : Int32, ∀ l3 : Int32, ∀ l5 : Int32, b_X12_kindsOf_91 σ l1 c4 c16 l2 l3 l5 = some r → V g cX12_kindsOf RX12 wsX12_kindsOf 7 (some .int) rm_X12_kindsOf (some (.int r)) σ σ 91 [(0, .ref (g.1 112)), (1, .int l1), (2, .int l2), (3, .int l3), (5, .int l5)] [] := by
  intro l2 l3 l5 h
  unfold b_X12_kindsOf_91 at h
  refine v_iconst 92 0 dX12_kindsOf_91 kc_i_0 rfl ?_
  refine v_sub [0, 1, 2, 3, 4] rfl ?_
  exact q_X12_kindsOf_92 σ l1 r c4 c16 hc4 hc16 l2 l3 l5 0 (Or.inl rfl) h
set_option maxRecDepth 100000 in
set_option maxHeartbeats 4000000 in
theorem q_X12_kindsOf_87 {g : Cx} (σ : Sg) (l1 : Int32) (r : Int32) (c4 : Int32 → Int32 → Option Int32) (c16 : Int32 → Int32 → Int32 → Int32 → Option Int32) (hc4 : ∀ l2 : Int32, ∀ l3 : Int32, c4 l2 l3 = some r → V g cX12_kindsOf RX12 wsX12_kindsOf 7 (some .int) rm_X12_kindsOf (some (.int r)) σ σ 4 [(0, .ref (g.1 112)), (1, .int l1), (2, .int l2), (3, .int l3)] []) (hc16 : ∀ l2 : Int32, ∀ l3 : Int32, ∀ l4 : Int32, ∀ l5 : Int32, (l4 = 0 ∨ l4 = 1) → c16 l2 l3 l4 l5 = some r → V g cX12_kindsOf RX12 wsX12_kindsOf 7 (some .int) rm_X12_kindsOf (some (.int r)) σ σ 16 [(0, .ref (g.1 112)), (1, .int l1), (2, .int l2), (3, .int l3), (4, .int l4), (5, .int l5)] []) : ∀ l2 : Int32, ∀ l3 : Int32, ∀ l5 : Int32, b_X12_kindsOf_87 σ l1 c4 c16 l2 l3 l5 = some r → V g cX12_kindsOf RX12 wsX12_kindsOf 7 (some .int) rm_X12_kindsOf (some (.int r)) σ σ 87 [(0, .ref (g.1 112)), (1, .int l1), (2, .int l2), (3, .int l3), (5, .int l5)] [] := by
  intro l2 l3 l5 h
  unfold b_X12_kindsOf_87 at h
  refine v_iconst 88 1 dX12_kindsOf_87 kc_i_1 rfl ?_
  refine v_goto 92 dX12_kindsOf_88 (by decide) ?_
  refine v_sub [0, 1, 2, 3, 4] rfl ?_
  exact q_X12_kindsOf_92 σ l1 r c4 c16 hc4 hc16 l2 l3 l5 1 (Or.inr rfl) h
set_option maxRecDepth 100000 in
set_option maxHeartbeats 4000000 in
theorem q_X12_kindsOf_16 {g : Cx} (σ : Sg) (l1 : Int32) (r : Int32) (c4 : Int32 → Int32 → Option Int32) (hc4 : ∀ l2 : Int32, ∀ l3 : Int32, c4 l2 l3 = some r → V g cX12_kindsOf RX12 wsX12_kindsOf 7 (some .int) rm_X12_kindsOf (some (.int r)) σ σ 4 [(0, .ref (g.1 112)), (1, .int l1), (2, .int l2), (3, .int l3)] []) : ∀ f : Nat, ∀ l2 : Int32, ∀ l3 : Int32, ∀ l4 : Int32, ∀ l5 : Int32, (l4 = 0 ∨ l4 = 1) → b_X12_kindsOf_16 σ l1 c4 f l2 l3 l4 l5 = some r → V g cX12_kindsOf RX12 wsX12_kindsOf 7 (some .int) rm_X12_kindsOf (some (.int r)) σ σ 16 [(0, .ref (g.1 112)), (1, .int l1), (2, .int l2), (3, .int l3), (4, .int l4), (5, .int l5)] [] := by
  intro f
  induction f with
  | zero =>
    intro l2 l3 l4 l5 hl4 h
    cases h
  | succ f ih =>
    intro l2 l3 l4 l5 hl4 h
    rw [b_X12_kindsOf_16] at h
    refine v_iload 18 5 dX12_kindsOf_16 rfl rfl ?_
    refine v_aload_n 19 0 dX12_kindsOf_18 rfl rfl rfl ?_
    refine vg_8_0 22 (rfl : kK 112 = 8) in_X12_kindsOf_8 (mem_at 1 rfl) dX12_kindsOf_19 rfl ?_
    refine v_bipush 24 62 dX12_kindsOf_22 kc_b_62 rfl ?_
    refine v_iald 25 h (rfl : kK 113 = 9) dX12_kindsOf_24 rfl (fun h => ?_)
    refine v_icmp_ge 28 100 h dX12_kindsOf_25 rfl (by decide) (fun h => ?_) (fun h => ?_)
    · refine v_iload_n 101 2 dX12_kindsOf_100 rfl rfl rfl ?_
      refine v_iload 103 4 dX12_kindsOf_101 rfl rfl ?_
      refine v_if_eq 106 112 h dX12_kindsOf_103 rfl (by decide) (fun h => ?_) (fun h => ?_)
      · refine v_iconst 113 0 dX12_kindsOf_112 kc_i_0 rfl ?_
        refine v_sub [0, 1, 3] rfl ?_
        exact q_X12_kindsOf_113 σ l1 r c4 hc4 l3 0 l2 h
      · refine v_iconst 107 1 dX12_kindsOf_106 kc_i_1 rfl ?_
        refine v_iload_n 108 3 dX12_kindsOf_107 rfl rfl rfl ?_
        refine v_ishl 109 dX12_kindsOf_108 rfl ?_
        refine v_goto 113 dX12_kindsOf_109 (by decide) ?_
        refine v_sub [0, 1, 3] rfl ?_
        exact q_X12_kindsOf_113 σ l1 r c4 hc4 l3 (1 <<< (l3 &&& 31)) l2 h
    · refine v_bipush 30 63 dX12_kindsOf_28 kc_b_63 rfl ?_
      refine v_iconst 31 4 dX12_kindsOf_30 kc_i_4 rfl ?_
      refine v_iload 33 5 dX12_kindsOf_31 rfl rfl ?_
      refine v_imul 34 dX12_kindsOf_33 rfl ?_
      refine v_iadd 35 dX12_kindsOf_34 rfl ?_
      refine v_istoreN 37 h dX12_kindsOf_35 (by decide) rfl (fun _ => rfl) (fun x3 h => ?_)
      refine v_iload 39 5 dX12_kindsOf_37 rfl rfl ?_
      refine v_if_eq 42 91 h dX12_kindsOf_39 rfl (by decide) (fun h => ?_) (fun h => ?_)
      · refine v_sub [1, 2, 3, 4, 6] rfl ?_
        exact q_X12_kindsOf_91 σ l1 r c4 (b_X12_kindsOf_16 σ l1 c4 f) hc4 ih l2 l3 l5 h
      · refine v_aload_n 43 1 dX12_kindsOf_42 rfl rfl rfl ?_
        refine vg_8_0 46 (rfl : kK 112 = 8) in_X12_kindsOf_8 (mem_at 1 rfl) dX12_kindsOf_43 rfl ?_
        refine v_iload 48 0 dX12_kindsOf_46 rfl rfl ?_
        refine v_iald 49 h (rfl : kK 113 = 9) dX12_kindsOf_48 rfl (fun h => ?_)
        refine v_iload_n 50 2 dX12_kindsOf_49 rfl rfl rfl ?_
        refine v_icmp_ne 53 87 h dX12_kindsOf_50 rfl (by decide) (fun h => ?_) (fun h => ?_)
        · refine v_sub [1, 2, 3, 4, 6] rfl ?_
          exact q_X12_kindsOf_87 σ l1 r c4 (b_X12_kindsOf_16 σ l1 c4 f) hc4 ih l2 l3 l5 h
        · refine v_iload_n 54 4 dX12_kindsOf_53 rfl rfl rfl ?_
          refine v_aload_n 55 1 dX12_kindsOf_54 rfl rfl rfl ?_
          refine vg_8_0 58 (rfl : kK 112 = 8) in_X12_kindsOf_8 (mem_at 1 rfl) dX12_kindsOf_55 rfl ?_
          refine v_iload 60 0 dX12_kindsOf_58 rfl rfl ?_
          refine v_iconst 61 1 dX12_kindsOf_60 kc_i_1 rfl ?_
          refine v_iadd 62 dX12_kindsOf_61 rfl ?_
          refine v_iald 63 h (rfl : kK 113 = 9) dX12_kindsOf_62 rfl (fun h => ?_)
          refine v_aload_n 64 1 dX12_kindsOf_63 rfl rfl rfl ?_
          refine vg_8_0 67 (rfl : kK 112 = 8) in_X12_kindsOf_8 (mem_at 1 rfl) dX12_kindsOf_64 rfl ?_
          refine v_iload 69 0 dX12_kindsOf_67 rfl rfl ?_
          refine v_iconst 70 2 dX12_kindsOf_69 kc_i_2 rfl ?_
          refine v_iadd 71 dX12_kindsOf_70 rfl ?_
          refine v_iald 72 h (rfl : kK 113 = 9) dX12_kindsOf_71 rfl (fun h => ?_)
          refine v_cS 75 [.int l3, .int (rI σ 113 (ix (x3 + 1))), .int (rI σ 113 (ix (x3 + 2)))] (c_X12_goes l3 (rI σ 113 (ix (x3 + 1))) (rI σ 113 (ix (x3 + 2)))) cl_X12_goes gX12_kindsOf_X12_goes ⟨Nat.le_of_ble_eq_true rfl, Nat.le_of_ble_eq_true rfl⟩ rfl rfl (Nat.le_of_ble_eq_true rfl) dX12_kindsOf_72 rfl ?_
          refine v_aload_n 76 1 dX12_kindsOf_75 rfl rfl rfl ?_
          refine vg_8_0 79 (rfl : kK 112 = 8) in_X12_kindsOf_8 (mem_at 1 rfl) dX12_kindsOf_76 rfl ?_
          refine v_iload 81 0 dX12_kindsOf_79 rfl rfl ?_
          refine v_iconst 82 3 dX12_kindsOf_81 kc_i_3 rfl ?_
          refine v_iadd 83 dX12_kindsOf_82 rfl ?_
          refine v_iald 84 h (rfl : kK 113 = 9) dX12_kindsOf_83 rfl (fun h => ?_)
          refine v_icmp_ne 87 91 h dX12_kindsOf_84 rfl (by decide) (fun h => ?_) (fun h => ?_)
          · refine v_sub [1, 2, 3, 4, 6] rfl ?_
            exact q_X12_kindsOf_91 σ l1 r c4 (b_X12_kindsOf_16 σ l1 c4 f) hc4 ih l2 l3 l5 h
          · refine v_sub [1, 2, 3, 4, 6] rfl ?_
            exact q_X12_kindsOf_87 σ l1 r c4 (b_X12_kindsOf_16 σ l1 c4 f) hc4 ih l2 l3 l5 h
set_option maxRecDepth 100000 in
set_option maxHeartbeats 4000000 in
theorem q_X12_kindsOf_4 {g : Cx} (σ : Sg) (l1 : Int32) (r : Int32) : ∀ f : Nat, ∀ l2 : Int32, ∀ l3 : Int32, b_X12_kindsOf_4 σ l1 f l2 l3 = some r → V g cX12_kindsOf RX12 wsX12_kindsOf 7 (some .int) rm_X12_kindsOf (some (.int r)) σ σ 4 [(0, .ref (g.1 112)), (1, .int l1), (2, .int l2), (3, .int l3)] [] := by
  intro f
  induction f with
  | zero =>
    intro l2 l3 h
    cases h
  | succ f ih =>
    intro l2 l3 h
    rw [b_X12_kindsOf_4] at h
    refine v_iload_n 5 3 dX12_kindsOf_4 rfl rfl rfl ?_
    refine v_bipush 7 6 dX12_kindsOf_5 kc_b_6 rfl ?_
    refine v_icmp_ge 10 121 h dX12_kindsOf_7 rfl (by decide) (fun h => ?_) (fun h => ?_)
    · refine v_iload_n 122 2 dX12_kindsOf_121 rfl rfl rfl ?_
      exact v_iretP h rfl dX12_kindsOf_122
    · refine v_iconst 11 1 dX12_kindsOf_10 kc_i_1 rfl ?_
      refine v_istore 13 dX12_kindsOf_11 (by decide) rfl rfl ?_
      refine v_iconst 14 0 dX12_kindsOf_13 kc_i_0 rfl ?_
      refine v_istore 16 dX12_kindsOf_14 (by decide) rfl rfl ?_
      refine v_sub [2, 3, 4, 5, 1, 0] rfl ?_
      exact q_X12_kindsOf_16 σ l1 r (b_X12_kindsOf_4 σ l1 f) ih FU l2 l3 1 0 (Or.inr rfl) h
set_option maxRecDepth 100000 in
set_option maxHeartbeats 4000000 in
theorem c_X12_kindsOf {g : Cx} {σ : Sg} (l1 : Int32) (r : Int32) (h : f_X12_kindsOf σ l1 = some r) : ∀ l, MetF l yX12_kindsOf wsX12_kindsOf rm_X12_kindsOf g [.ref (g.1 112), .int l1] σ (some (.int r)) σ := by
  refine MetF.of (own0 := RX12) (lv0 := [(0, .ref (g.1 112)), (1, .int l1)]) rfl cl_X12_kindsOf (by decide) (Nat.le_of_ble_eq_true rfl) rfl ?_
  unfold f_X12_kindsOf at h
  refine v_iconst 1 0 dX12_kindsOf_0 kc_i_0 rfl ?_
  refine v_istore_n 2 dX12_kindsOf_1 rfl (by decide) rfl rfl ?_
  refine v_iconst 3 0 dX12_kindsOf_2 kc_i_0 rfl ?_
  refine v_istore_n 4 dX12_kindsOf_3 rfl (by decide) rfl rfl ?_
  refine v_sub [2, 3, 1, 0] rfl ?_
  exact q_X12_kindsOf_4 σ l1 r FU 0 0 h
-- public int is(int);
abbrev rm_X12_is : Room := { frames := 3, cells := 0, slots := 0, locals := 69 }
theorem cl_X12_is : Cl yX12_is wsX12_is cX12_is 2 (some .int) rm_X12_is 1 := ⟨⟨_, rfl⟩, rfl, rfl, by decide +kernel, by decide +kernel, by decide +kernel⟩
def f_X12_is (σ : Sg) (l1 : Int32) : Option (Int32 × Sg) := (f_X12_isKeeper σ l1).bind fun x1 => (if x1 = 0 then bnd (f_X12_bad σ (-2)) fun x2 s3 => (some (x2, s3)) else (f_X12_kindsOf σ l1).bind fun x4 => (some (x4, σ)))
set_option maxRecDepth 100000 in
set_option maxHeartbeats 4000000 in
theorem c_X12_is {g : Cx} {σ : Sg} (l1 : Int32) (r : Int32) (τ : Sg) (h : f_X12_is σ l1 = some (r, τ)) : ∀ l, MetF l yX12_is wsX12_is rm_X12_is g [.ref (g.1 112), .int l1] σ (some (.int r)) τ := by
  refine MetF.of (own0 := RX12) (lv0 := [(0, .ref (g.1 112)), (1, .int l1)]) rfl cl_X12_is (by decide) (Nat.le_of_ble_eq_true rfl) rfl ?_
  unfold f_X12_is at h
  refine v_aload_n 1 0 dX12_is_0 rfl rfl rfl ?_
  refine v_iload_n 2 1 dX12_is_1 rfl rfl rfl ?_
  obtain ⟨x1, h0, h⟩ := ob h
  refine v_cV 5 8 [.int l1] (rfl : kK 112 = 8) rfl (c_X12_isKeeper l1 _ h0) cl_X12_isKeeper gX12_is_X12_isKeeper rfl ⟨Nat.le_of_ble_eq_true rfl, Nat.le_of_ble_eq_true rfl⟩ rfl rfl (Nat.le_of_ble_eq_true rfl) dX12_is_2 rfl ?_
  refine v_if_eq 8 16 h dX12_is_5 rfl (by decide) (fun h => ?_) (fun h => ?_)
  · refine v_aload_n 17 0 dX12_is_16 rfl rfl rfl ?_
    refine v_bipush 19 (-2) dX12_is_17 kc_b_m2 rfl ?_
    obtain ⟨x2, s3, h0, h⟩ := ob2 h
    refine v_cV 22 8 [.int (-2)] (rfl : kK 112 = 8) rfl (c_X12_bad (-2) _ _ h0) cl_X12_bad gX12_is_X12_bad rfl ⟨Nat.le_of_ble_eq_true rfl, Nat.le_of_ble_eq_true rfl⟩ rfl rfl (Nat.le_of_ble_eq_true rfl) dX12_is_19 rfl ?_
    exact v_iretS h rfl dX12_is_22
  · refine v_aload_n 9 0 dX12_is_8 rfl rfl rfl ?_
    refine v_iload_n 10 1 dX12_is_9 rfl rfl rfl ?_
    obtain ⟨x4, h0, h⟩ := ob h
    refine v_cV 13 8 [.int l1] (rfl : kK 112 = 8) rfl (c_X12_kindsOf l1 _ h0) cl_X12_kindsOf gX12_is_X12_kindsOf rfl ⟨Nat.le_of_ble_eq_true rfl, Nat.le_of_ble_eq_true rfl⟩ rfl rfl (Nat.le_of_ble_eq_true rfl) dX12_is_10 rfl ?_
    refine v_goto 22 dX12_is_13 (by decide) ?_
    exact v_iretS h rfl dX12_is_22
-- private boolean isBalance(int);
abbrev rm_X12_isBalance : Room := { frames := 1, cells := 0, slots := 0, locals := 25 }
theorem cl_X12_isBalance : Cl yX12_isBalance wsX12_isBalance cX12_isBalance 2 (some .boolean) rm_X12_isBalance 1 := ⟨⟨_, rfl⟩, rfl, rfl, by decide +kernel, by decide +kernel, by decide +kernel⟩
theorem in_X12_isBalance_8 : ∀ w ∈ wsX120, w ∈ wsX12_isBalance := fun w h => List.mem_cons_of_mem _ (List.mem_append_right _ h)
def f_X12_isBalance (σ : Sg) (l1 : Int32) : Option Int32 := (if inb 1 (kLen 113) = true then (some (f_X12_in (Int32.toInt64 l1) 0 (Int32.toInt64 ((rI σ 113 (ix 1)) - 1)))) else none)
set_option maxRecDepth 100000 in
set_option maxHeartbeats 4000000 in
theorem c_X12_isBalance {g : Cx} {σ : Sg} (l1 : Int32) (r : Int32) (h : f_X12_isBalance σ l1 = some r) : ∀ l, MetF l yX12_isBalance wsX12_isBalance rm_X12_isBalance g [.ref (g.1 112), .int l1] σ (some (.int r)) σ := by
  refine MetF.of (own0 := RX12) (lv0 := [(0, .ref (g.1 112)), (1, .int l1)]) rfl cl_X12_isBalance (by decide) (Nat.le_of_ble_eq_true rfl) rfl ?_
  unfold f_X12_isBalance at h
  refine v_iload_n 1 1 dX12_isBalance_0 rfl rfl rfl ?_
  refine v_i2l 2 dX12_isBalance_1 rfl ?_
  refine v_lconst 3 0 dX12_isBalance_2 kc_l_0 rfl ?_
  refine v_aload_n 4 0 dX12_isBalance_3 rfl rfl rfl ?_
  refine vg_8_0 7 (rfl : kK 112 = 8) in_X12_isBalance_8 (mem_at 1 rfl) dX12_isBalance_4 rfl ?_
  refine v_iconst 8 1 dX12_isBalance_7 kc_i_1 rfl ?_
  refine v_iald 9 h (rfl : kK 113 = 9) dX12_isBalance_8 rfl (fun h => ?_)
  refine v_iconst 10 1 dX12_isBalance_9 kc_i_1 rfl ?_
  refine v_isub 11 dX12_isBalance_10 rfl ?_
  refine v_i2l 12 dX12_isBalance_11 rfl ?_
  refine v_cS 15 [.long (Int32.toInt64 l1), .long 0, .long (Int32.toInt64 ((rI σ 113 (ix 1)) - 1))] (c_X12_in (Int32.toInt64 l1) 0 (Int32.toInt64 ((rI σ 113 (ix 1)) - 1))) cl_X12_in gX12_isBalance_X12_in ⟨Nat.le_of_ble_eq_true rfl, Nat.le_of_ble_eq_true rfl⟩ rfl rfl (Nat.le_of_ble_eq_true rfl) dX12_isBalance_12 rfl ?_
  exact v_zretP h rfl zb_X12_in dX12_isBalance_15
-- private boolean isLetter(int, int, int);
abbrev rm_X12_isLetter : Room := { frames := 0, cells := 0, slots := 0, locals := 0 }
theorem cl_X12_isLetter : Cl yX12_isLetter wsX12_isLetter cX12_isLetter 4 (some .boolean) rm_X12_isLetter 3 := ⟨⟨_, rfl⟩, rfl, rfl, by decide +kernel, by decide +kernel, by decide +kernel⟩
theorem in_X12_isLetter_8 : ∀ w ∈ wsX120, w ∈ wsX12_isLetter := fun w h => List.mem_cons_of_mem _ (List.mem_append_right _ h)
def f_X12_isLetter (σ : Sg) (l1 : Int32) (l2 : Int32) (l3 : Int32) : Option Int32 := (if l2 = 0 then (if l1 < l3 then (some (0)) else (some (1))) else (if l3 ≤ l1 then (some (0)) else (if inb ((rI σ 112 8) + l1) (kLen 115) = true then (if (rI σ 115 (ix ((rI σ 112 8) + l1))) = l2 then (some (1)) else (some (0))) else none)))
set_option maxRecDepth 100000 in
set_option maxHeartbeats 4000000 in
theorem c_X12_isLetter {g : Cx} {σ : Sg} (l1 : Int32) (l2 : Int32) (l3 : Int32) (r : Int32) (h : f_X12_isLetter σ l1 l2 l3 = some r) : ∀ l, MetF l yX12_isLetter wsX12_isLetter rm_X12_isLetter g [.ref (g.1 112), .int l1, .int l2, .int l3] σ (some (.int r)) σ := by
  refine MetF.of (own0 := RX12) (lv0 := [(0, .ref (g.1 112)), (1, .int l1), (2, .int l2), (3, .int l3)]) rfl cl_X12_isLetter (by decide) (Nat.le_of_ble_eq_true rfl) rfl ?_
  unfold f_X12_isLetter at h
  refine v_iload_n 1 2 dX12_isLetter_0 rfl rfl rfl ?_
  refine v_if_ne 4 17 h dX12_isLetter_1 rfl (by decide) (fun h => ?_) (fun h => ?_)
  · refine v_iload_n 18 3 dX12_isLetter_17 rfl rfl rfl ?_
    refine v_iload_n 19 1 dX12_isLetter_18 rfl rfl rfl ?_
    refine v_icmp_le 22 41 h dX12_isLetter_19 rfl (by decide) (fun h => ?_) (fun h => ?_)
    · refine v_iconst 42 0 dX12_isLetter_41 kc_i_0 rfl ?_
      exact v_zretP h rfl (Or.inl rfl) dX12_isLetter_42
    · refine v_aload_n 23 0 dX12_isLetter_22 rfl rfl rfl ?_
      refine vg_8_2 26 (rfl : kK 112 = 8) in_X12_isLetter_8 (mem_at 1 rfl) dX12_isLetter_23 rfl ?_
      refine v_aload_n 27 0 dX12_isLetter_26 rfl rfl rfl ?_
      refine vg_8_8 30 (rfl : kK 112 = 8) in_X12_isLetter_8 (mem_at 2 rfl) dX12_isLetter_27 rfl ?_
      refine v_iload_n 31 1 dX12_isLetter_30 rfl rfl rfl ?_
      refine v_iadd 32 dX12_isLetter_31 rfl ?_
      refine v_iald 33 h (rfl : kK 115 = 9) dX12_isLetter_32 rfl (fun h => ?_)
      refine v_iload_n 34 2 dX12_isLetter_33 rfl rfl rfl ?_
      refine v_icmp_ne 37 41 h dX12_isLetter_34 rfl (by decide) (fun h => ?_) (fun h => ?_)
      · refine v_iconst 42 0 dX12_isLetter_41 kc_i_0 rfl ?_
        exact v_zretP h rfl (Or.inl rfl) dX12_isLetter_42
      · refine v_iconst 38 1 dX12_isLetter_37 kc_i_1 rfl ?_
        refine v_goto 42 dX12_isLetter_38 (by decide) ?_
        exact v_zretP h rfl (Or.inr rfl) dX12_isLetter_42
  · refine v_iload_n 5 3 dX12_isLetter_4 rfl rfl rfl ?_
    refine v_iload_n 6 1 dX12_isLetter_5 rfl rfl rfl ?_
    refine v_icmp_gt 9 13 h dX12_isLetter_6 rfl (by decide) (fun h => ?_) (fun h => ?_)
    · refine v_iconst 14 0 dX12_isLetter_13 kc_i_0 rfl ?_
      refine v_goto 42 dX12_isLetter_14 (by decide) ?_
      exact v_zretP h rfl (Or.inl rfl) dX12_isLetter_42
    · refine v_iconst 10 1 dX12_isLetter_9 kc_i_1 rfl ?_
      refine v_goto 42 dX12_isLetter_10 (by decide) ?_
      exact v_zretP h rfl (Or.inr rfl) dX12_isLetter_42
-- private boolean isWord(int, int, int, int, int, int, int);
abbrev rm_X12_isWord : Room := { frames := 1, cells := 0, slots := 0, locals := 23 }
theorem cl_X12_isWord : Cl yX12_isWord wsX12_isWord cX12_isWord 9 (some .boolean) rm_X12_isWord 7 := ⟨⟨_, rfl⟩, rfl, rfl, by decide +kernel, by decide +kernel, by decide +kernel⟩
theorem in_X12_isWord_8 : ∀ w ∈ wsX120, w ∈ wsX12_isWord := fun w h => List.mem_cons_of_mem _ (List.mem_append_right _ h)
def f_X12_isWord (σ : Sg) (l1 : Int32) (l2 : Int32) (l3 : Int32) (l4 : Int32) (l5 : Int32) (l6 : Int32) (l7 : Int32) : Option Int32 := nam ((rI σ 112 7) - (rI σ 112 8)) fun x1 => (f_X12_isLetter σ 0 l1 x1).bind fun x2 => (if x2 = 0 then (some (0)) else (f_X12_isLetter σ 1 l2 x1).bind fun x3 => (if x3 = 0 then (some (0)) else (f_X12_isLetter σ 2 l3 x1).bind fun x4 => (if x4 = 0 then (some (0)) else (f_X12_isLetter σ 3 l4 x1).bind fun x5 => (if x5 = 0 then (some (0)) else (f_X12_isLetter σ 4 l5 x1).bind fun x6 => (if x6 = 0 then (some (0)) else (f_X12_isLetter σ 5 l6 x1).bind fun x7 => (if x7 = 0 then (some (0)) else (f_X12_isLetter σ 6 l7 x1).bind fun x8 => (if x8 = 0 then (some (0)) else (if 8 ≤ x1 then (some (0)) else (some (1))))))))))
set_option maxRecDepth 100000 in
set_option maxHeartbeats 4000000 in
theorem c_X12_isWord {g : Cx} {σ : Sg} (l1 : Int32) (l2 : Int32) (l3 : Int32) (l4 : Int32) (l5 : Int32) (l6 : Int32) (l7 : Int32) (r : Int32) (h : f_X12_isWord σ l1 l2 l3 l4 l5 l6 l7 = some r) : ∀ l, MetF l yX12_isWord wsX12_isWord rm_X12_isWord g [.ref (g.1 112), .int l1, .int l2, .int l3, .int l4, .int l5, .int l6, .int l7] σ (some (.int r)) σ := by
  refine MetF.of (own0 := RX12) (lv0 := [(0, .ref (g.1 112)), (1, .int l1), (2, .int l2), (3, .int l3), (4, .int l4), (5, .int l5), (6, .int l6), (7, .int l7)]) rfl cl_X12_isWord (by decide) (Nat.le_of_ble_eq_true rfl) rfl ?_
  unfold f_X12_isWord at h
  refine v_aload_n 1 0 dX12_isWord_0 rfl rfl rfl ?_
  refine vg_8_7 4 (rfl : kK 112 = 8) in_X12_isWord_8 (mem_at 1 rfl) dX12_isWord_1 rfl ?_
  refine v_aload_n 5 0 dX12_isWord_4 rfl rfl rfl ?_
  refine vg_8_8 8 (rfl : kK 112 = 8) in_X12_isWord_8 (mem_at 2 rfl) dX12_isWord_5 rfl ?_
  refine v_isub 9 dX12_isWord_8 rfl ?_
  refine v_istoreN 11 h dX12_isWord_9 (by decide) rfl (fun _ => rfl) (fun x1 h => ?_)
  refine v_aload_n 12 1 dX12_isWord_11 rfl rfl rfl ?_
  refine v_iconst 13 0 dX12_isWord_12 kc_i_0 rfl ?_
  refine v_iload_n 14 2 dX12_isWord_13 rfl rfl rfl ?_
  refine v_iload 16 0 dX12_isWord_14 rfl rfl ?_
  obtain ⟨x2, h0, h⟩ := ob h
  refine v_cV 19 8 [.int 0, .int l1, .int x1] (rfl : kK 112 = 8) rfl (c_X12_isLetter 0 l1 x1 _ h0) cl_X12_isLetter gX12_isWord_X12_isLetter rfl ⟨Nat.le_of_ble_eq_true rfl, Nat.le_of_ble_eq_true rfl⟩ rfl rfl (Nat.le_of_ble_eq_true rfl) dX12_isWord_16 rfl ?_
  refine v_if_eq 22 104 h dX12_isWord_19 rfl (by decide) (fun h => ?_) (fun h => ?_)
  · refine v_iconst 105 0 dX12_isWord_104 kc_i_0 rfl ?_
    exact v_zretP h rfl (Or.inl rfl) dX12_isWord_105
  · refine v_aload_n 23 1 dX12_isWord_22 rfl rfl rfl ?_
    refine v_iconst 24 1 dX12_isWord_23 kc_i_1 rfl ?_
    refine v_iload_n 25 3 dX12_isWord_24 rfl rfl rfl ?_
    refine v_iload 27 0 dX12_isWord_25 rfl rfl ?_
    obtain ⟨x3, h0, h⟩ := ob h
    refine v_cV 30 8 [.int 1, .int l2, .int x1] (rfl : kK 112 = 8) rfl (c_X12_isLetter 1 l2 x1 _ h0) cl_X12_isLetter gX12_isWord_X12_isLetter rfl ⟨Nat.le_of_ble_eq_true rfl, Nat.le_of_ble_eq_true rfl⟩ rfl rfl (Nat.le_of_ble_eq_true rfl) dX12_isWord_27 rfl ?_
    refine v_if_eq 33 104 h dX12_isWord_30 rfl (by decide) (fun h => ?_) (fun h => ?_)
    · refine v_iconst 105 0 dX12_isWord_104 kc_i_0 rfl ?_
      exact v_zretP h rfl (Or.inl rfl) dX12_isWord_105
    · refine v_aload_n 34 1 dX12_isWord_33 rfl rfl rfl ?_
      refine v_iconst 35 2 dX12_isWord_34 kc_i_2 rfl ?_
      refine v_iload_n 36 4 dX12_isWord_35 rfl rfl rfl ?_
      refine v_iload 38 0 dX12_isWord_36 rfl rfl ?_
      obtain ⟨x4, h0, h⟩ := ob h
      refine v_cV 41 8 [.int 2, .int l3, .int x1] (rfl : kK 112 = 8) rfl (c_X12_isLetter 2 l3 x1 _ h0) cl_X12_isLetter gX12_isWord_X12_isLetter rfl ⟨Nat.le_of_ble_eq_true rfl, Nat.le_of_ble_eq_true rfl⟩ rfl rfl (Nat.le_of_ble_eq_true rfl) dX12_isWord_38 rfl ?_
      refine v_if_eq 44 104 h dX12_isWord_41 rfl (by decide) (fun h => ?_) (fun h => ?_)
      · refine v_iconst 105 0 dX12_isWord_104 kc_i_0 rfl ?_
        exact v_zretP h rfl (Or.inl rfl) dX12_isWord_105
      · refine v_aload_n 45 1 dX12_isWord_44 rfl rfl rfl ?_
        refine v_iconst 46 3 dX12_isWord_45 kc_i_3 rfl ?_
        refine v_iload 48 5 dX12_isWord_46 rfl rfl ?_
        refine v_iload 50 0 dX12_isWord_48 rfl rfl ?_
        obtain ⟨x5, h0, h⟩ := ob h
        refine v_cV 53 8 [.int 3, .int l4, .int x1] (rfl : kK 112 = 8) rfl (c_X12_isLetter 3 l4 x1 _ h0) cl_X12_isLetter gX12_isWord_X12_isLetter rfl ⟨Nat.le_of_ble_eq_true rfl, Nat.le_of_ble_eq_true rfl⟩ rfl rfl (Nat.le_of_ble_eq_true rfl) dX12_isWord_50 rfl ?_
        refine v_if_eq 56 104 h dX12_isWord_53 rfl (by decide) (fun h => ?_) (fun h => ?_)
        · refine v_iconst 105 0 dX12_isWord_104 kc_i_0 rfl ?_
          exact v_zretP h rfl (Or.inl rfl) dX12_isWord_105
        · refine v_aload_n 57 1 dX12_isWord_56 rfl rfl rfl ?_
          refine v_iconst 58 4 dX12_isWord_57 kc_i_4 rfl ?_
          refine v_iload 60 6 dX12_isWord_58 rfl rfl ?_
          refine v_iload 62 0 dX12_isWord_60 rfl rfl ?_
          obtain ⟨x6, h0, h⟩ := ob h
          refine v_cV 65 8 [.int 4, .int l5, .int x1] (rfl : kK 112 = 8) rfl (c_X12_isLetter 4 l5 x1 _ h0) cl_X12_isLetter gX12_isWord_X12_isLetter rfl ⟨Nat.le_of_ble_eq_true rfl, Nat.le_of_ble_eq_true rfl⟩ rfl rfl (Nat.le_of_ble_eq_true rfl) dX12_isWord_62 rfl ?_
          refine v_if_eq 68 104 h dX12_isWord_65 rfl (by decide) (fun h => ?_) (fun h => ?_)
          · refine v_iconst 105 0 dX12_isWord_104 kc_i_0 rfl ?_
            exact v_zretP h rfl (Or.inl rfl) dX12_isWord_105
          · refine v_aload_n 69 1 dX12_isWord_68 rfl rfl rfl ?_
            refine v_iconst 70 5 dX12_isWord_69 kc_i_5 rfl ?_
            refine v_iload 72 7 dX12_isWord_70 rfl rfl ?_
            refine v_iload 74 0 dX12_isWord_72 rfl rfl ?_
            obtain ⟨x7, h0, h⟩ := ob h
            refine v_cV 77 8 [.int 5, .int l6, .int x1] (rfl : kK 112 = 8) rfl (c_X12_isLetter 5 l6 x1 _ h0) cl_X12_isLetter gX12_isWord_X12_isLetter rfl ⟨Nat.le_of_ble_eq_true rfl, Nat.le_of_ble_eq_true rfl⟩ rfl rfl (Nat.le_of_ble_eq_true rfl) dX12_isWord_74 rfl ?_
            refine v_if_eq 80 104 h dX12_isWord_77 rfl (by decide) (fun h => ?_) (fun h => ?_)
            · refine v_iconst 105 0 dX12_isWord_104 kc_i_0 rfl ?_
              exact v_zretP h rfl (Or.inl rfl) dX12_isWord_105
            · refine v_aload_n 81 1 dX12_isWord_80 rfl rfl rfl ?_
              refine v_bipush 83 6 dX12_isWord_81 kc_b_6 rfl ?_
              refine v_iload 85 8 dX12_isWord_83 rfl rfl ?_
              refine v_iload 87 0 dX12_isWord_85 rfl rfl ?_
              obtain ⟨x8, h0, h⟩ := ob h
              refine v_cV 90 8 [.int 6, .int l7, .int x1] (rfl : kK 112 = 8) rfl (c_X12_isLetter 6 l7 x1 _ h0) cl_X12_isLetter gX12_isWord_X12_isLetter rfl ⟨Nat.le_of_ble_eq_true rfl, Nat.le_of_ble_eq_true rfl⟩ rfl rfl (Nat.le_of_ble_eq_true rfl) dX12_isWord_87 rfl ?_
              refine v_if_eq 93 104 h dX12_isWord_90 rfl (by decide) (fun h => ?_) (fun h => ?_)
              · refine v_iconst 105 0 dX12_isWord_104 kc_i_0 rfl ?_
                exact v_zretP h rfl (Or.inl rfl) dX12_isWord_105
              · refine v_iload 95 0 dX12_isWord_93 rfl rfl ?_
                refine v_bipush 97 8 dX12_isWord_95 kc_b_8 rfl ?_
                refine v_icmp_ge 100 104 h dX12_isWord_97 rfl (by decide) (fun h => ?_) (fun h => ?_)
                · refine v_iconst 105 0 dX12_isWord_104 kc_i_0 rfl ?_
                  exact v_zretP h rfl (Or.inl rfl) dX12_isWord_105
                · refine v_iconst 101 1 dX12_isWord_100 kc_i_1 rfl ?_
                  refine v_goto 105 dX12_isWord_101 (by decide) ?_
                  exact v_zretP h rfl (Or.inr rfl) dX12_isWord_105
-- public int keeper(int, int, int);
abbrev rm_X12_keeper : Room := { frames := 1, cells := 0, slots := 0, locals := 25 }
theorem cl_X12_keeper : Cl yX12_keeper wsX12_keeper cX12_keeper 4 (some .int) rm_X12_keeper 3 := ⟨⟨_, rfl⟩, rfl, rfl, by decide +kernel, by decide +kernel, by decide +kernel⟩
theorem in_X12_keeper_8 : ∀ w ∈ wsX120, w ∈ wsX12_keeper := fun w h => List.mem_cons_of_mem _ (List.mem_append_right _ h)
def b_X12_keeper_36 (l1 : Int32) (l2 : Int32) (l3 : Int32) (σ : Sg) : Option (Int32 × Sg) := bnd (f_X12_bad σ (-2)) fun x1 s2 => (some (x1, s2))
def f_X12_keeper (σ : Sg) (l1 : Int32) (l2 : Int32) (l3 : Int32) : Option (Int32 × Sg) := (if (f_X12_in (Int32.toInt64 l1) 0 5) = 0 then b_X12_keeper_36 l1 l2 l3 σ else (if (f_X12_in (Int32.toInt64 l2) 0 11) = 0 then b_X12_keeper_36 l1 l2 l3 σ else (if (f_X12_in (Int32.toInt64 l3) 1 250) = 0 then b_X12_keeper_36 l1 l2 l3 σ else (if inb 0 (kLen 113) = true then (if (rI σ 113 (ix 0)) = 7 then bnd (f_X12_full σ) fun x5 s6 => (some (x5, s6)) else (f_X12_adds σ 0 l1 l2 l3).bind fun s3 => (if inb 112 (kLen 113) = true then nam (stI s3 113 (ix 112) 0) (fun s4 => (if inb 0 (kLen 113) = true then (some ((rI s4 113 (ix 0)) - 1, s4)) else none)) else none)) else none))))
set_option maxRecDepth 100000 in
set_option maxHeartbeats 4000000 in
theorem q_X12_keeper_36 {g : Cx} (l1 : Int32) (l2 : Int32) (l3 : Int32) (r : Int32) (τ : Sg) : ∀ σ : Sg, b_X12_keeper_36 l1 l2 l3 σ = some (r, τ) → V g cX12_keeper RX12 wsX12_keeper 4 (some .int) rm_X12_keeper (some (.int r)) τ σ 36 [(0, .ref (g.1 112))] [] := by
  intro σ h
  unfold b_X12_keeper_36 at h
  refine v_aload_n 37 0 dX12_keeper_36 rfl rfl rfl ?_
  refine v_bipush 39 (-2) dX12_keeper_37 kc_b_m2 rfl ?_
  obtain ⟨x1, s2, h0, h⟩ := ob2 h
  refine v_cV 42 8 [.int (-2)] (rfl : kK 112 = 8) rfl (c_X12_bad (-2) _ _ h0) cl_X12_bad gX12_keeper_X12_bad rfl ⟨Nat.le_of_ble_eq_true rfl, Nat.le_of_ble_eq_true rfl⟩ rfl rfl (Nat.le_of_ble_eq_true rfl) dX12_keeper_39 rfl ?_
  exact v_iretS h rfl dX12_keeper_42
set_option maxRecDepth 100000 in
set_option maxHeartbeats 4000000 in
theorem c_X12_keeper {g : Cx} {σ : Sg} (l1 : Int32) (l2 : Int32) (l3 : Int32) (r : Int32) (τ : Sg) (h : f_X12_keeper σ l1 l2 l3 = some (r, τ)) : ∀ l, MetF l yX12_keeper wsX12_keeper rm_X12_keeper g [.ref (g.1 112), .int l1, .int l2, .int l3] σ (some (.int r)) τ := by
  refine MetF.of (own0 := RX12) (lv0 := [(0, .ref (g.1 112)), (1, .int l1), (2, .int l2), (3, .int l3)]) rfl cl_X12_keeper (by decide) (Nat.le_of_ble_eq_true rfl) rfl ?_
  unfold f_X12_keeper at h
  refine v_iload_n 1 1 dX12_keeper_0 rfl rfl rfl ?_
  refine v_i2l 2 dX12_keeper_1 rfl ?_
  refine v_lconst 3 0 dX12_keeper_2 kc_l_0 rfl ?_
  refine v_ldc2 6 5 dX12_keeper_3 (mem_at 1 rfl) rfl ?_
  refine v_cS 9 [.long (Int32.toInt64 l1), .long 0, .long 5] (c_X12_in (Int32.toInt64 l1) 0 5) cl_X12_in gX12_keeper_X12_in ⟨Nat.le_of_ble_eq_true rfl, Nat.le_of_ble_eq_true rfl⟩ rfl rfl (Nat.le_of_ble_eq_true rfl) dX12_keeper_6 rfl ?_
  refine v_if_eq 12 36 h dX12_keeper_9 rfl (by decide) (fun h => ?_) (fun h => ?_)
  · refine v_sub [0] rfl ?_
    exact q_X12_keeper_36 l1 l2 l3 r τ σ h
  · refine v_iload_n 13 2 dX12_keeper_12 rfl rfl rfl ?_
    refine v_i2l 14 dX12_keeper_13 rfl ?_
    refine v_lconst 15 0 dX12_keeper_14 kc_l_0 rfl ?_
    refine v_ldc2 18 11 dX12_keeper_15 (mem_at 2 rfl) rfl ?_
    refine v_cS 21 [.long (Int32.toInt64 l2), .long 0, .long 11] (c_X12_in (Int32.toInt64 l2) 0 11) cl_X12_in gX12_keeper_X12_in ⟨Nat.le_of_ble_eq_true rfl, Nat.le_of_ble_eq_true rfl⟩ rfl rfl (Nat.le_of_ble_eq_true rfl) dX12_keeper_18 rfl ?_
    refine v_if_eq 24 36 h dX12_keeper_21 rfl (by decide) (fun h => ?_) (fun h => ?_)
    · refine v_sub [0] rfl ?_
      exact q_X12_keeper_36 l1 l2 l3 r τ σ h
    · refine v_iload_n 25 3 dX12_keeper_24 rfl rfl rfl ?_
      refine v_i2l 26 dX12_keeper_25 rfl ?_
      refine v_lconst 27 1 dX12_keeper_26 kc_l_1 rfl ?_
      refine v_ldc2 30 250 dX12_keeper_27 (mem_at 3 rfl) rfl ?_
      refine v_cS 33 [.long (Int32.toInt64 l3), .long 1, .long 250] (c_X12_in (Int32.toInt64 l3) 1 250) cl_X12_in gX12_keeper_X12_in ⟨Nat.le_of_ble_eq_true rfl, Nat.le_of_ble_eq_true rfl⟩ rfl rfl (Nat.le_of_ble_eq_true rfl) dX12_keeper_30 rfl ?_
      refine v_if_ne 36 43 h dX12_keeper_33 rfl (by decide) (fun h => ?_) (fun h => ?_)
      · refine v_aload_n 44 0 dX12_keeper_43 rfl rfl rfl ?_
        refine vg_8_0 47 (rfl : kK 112 = 8) in_X12_keeper_8 (mem_at 4 rfl) dX12_keeper_44 rfl ?_
        refine v_iconst 48 0 dX12_keeper_47 kc_i_0 rfl ?_
        refine v_iald 49 h (rfl : kK 113 = 9) dX12_keeper_48 rfl (fun h => ?_)
        refine v_bipush 51 7 dX12_keeper_49 kc_b_7 rfl ?_
        refine v_icmp_ne 54 59 h dX12_keeper_51 rfl (by decide) (fun h => ?_) (fun h => ?_)
        · refine v_aload_n 60 0 dX12_keeper_59 rfl rfl rfl ?_
          refine v_iconst 61 0 dX12_keeper_60 kc_i_0 rfl ?_
          refine v_iload_n 62 1 dX12_keeper_61 rfl rfl rfl ?_
          refine v_iload_n 63 2 dX12_keeper_62 rfl rfl rfl ?_
          refine v_iload_n 64 3 dX12_keeper_63 rfl rfl rfl ?_
          obtain ⟨s3, h0, h⟩ := ob h
          refine v_cV 67 8 [.int 0, .int l1, .int l2, .int l3] (rfl : kK 112 = 8) rfl (c_X12_adds 0 l1 l2 l3 _ h0) cl_X12_adds gX12_keeper_X12_adds rfl ⟨Nat.le_of_ble_eq_true rfl, Nat.le_of_ble_eq_true rfl⟩ rfl rfl (Nat.le_of_ble_eq_true rfl) dX12_keeper_64 rfl ?_
          refine v_aload_n 68 0 dX12_keeper_67 rfl rfl rfl ?_
          refine vg_8_0 71 (rfl : kK 112 = 8) in_X12_keeper_8 (mem_at 4 rfl) dX12_keeper_68 rfl ?_
          refine v_bipush 73 112 dX12_keeper_71 kc_b_112 rfl ?_
          refine v_iconst 74 0 dX12_keeper_73 kc_i_0 rfl ?_
          refine v_iast 75 h (rfl : kK 113 = 9) dX12_keeper_74 rfl (fun s4 h => ?_)
          refine v_aload_n 76 0 dX12_keeper_75 rfl rfl rfl ?_
          refine vg_8_0 79 (rfl : kK 112 = 8) in_X12_keeper_8 (mem_at 4 rfl) dX12_keeper_76 rfl ?_
          refine v_iconst 80 0 dX12_keeper_79 kc_i_0 rfl ?_
          refine v_iald 81 h (rfl : kK 113 = 9) dX12_keeper_80 rfl (fun h => ?_)
          refine v_iconst 82 1 dX12_keeper_81 kc_i_1 rfl ?_
          refine v_isub 83 dX12_keeper_82 rfl ?_
          exact v_iretS h rfl dX12_keeper_83
        · refine v_aload_n 55 0 dX12_keeper_54 rfl rfl rfl ?_
          obtain ⟨x5, s6, h0, h⟩ := ob2 h
          refine v_cV 58 8 [] (rfl : kK 112 = 8) rfl (c_X12_full _ _ h0) cl_X12_full gX12_keeper_X12_full rfl ⟨Nat.le_of_ble_eq_true rfl, Nat.le_of_ble_eq_true rfl⟩ rfl rfl (Nat.le_of_ble_eq_true rfl) dX12_keeper_55 rfl ?_
          exact v_iretS h rfl dX12_keeper_58
      · refine v_sub [0] rfl ?_
        exact q_X12_keeper_36 l1 l2 l3 r τ σ h
-- public int lay(int);
abbrev rm_X12_lay : Room := { frames := 4, cells := 0, slots := 0, locals := 94 }
theorem cl_X12_lay : Cl yX12_lay wsX12_lay cX12_lay 7 (some .int) rm_X12_lay 1 := ⟨⟨_, rfl⟩, rfl, rfl, by decide +kernel, by decide +kernel, by decide +kernel⟩
theorem in_X12_lay_8 : ∀ w ∈ wsX120, w ∈ wsX12_lay := fun w h => List.mem_cons_of_mem _ (List.mem_append_right _ h)
def b_X12_lay_134 (l1 : Int32) (c30 : Sg → Int32 → Int32 → Int32 → Int32 → Option (Int32 × Sg)) (σ : Sg) (l2 : Int32) (l3 : Int32) (l5 : Int32) (t0 : Int32) : Option (Int32 × Sg) := nam (l5 + 1) fun x5 => c30 σ l2 l3 t0 x5
def b_X12_lay_119 (l1 : Int32) (c30 : Sg → Int32 → Int32 → Int32 → Int32 → Option (Int32 × Sg)) (σ : Sg) (l2 : Int32) (l4 : Int32) (l5 : Int32) (l6 : Int32) (t0 : Int32) : Option (Int32 × Sg) := (if l4 ≤ l6 then b_X12_lay_134 l1 c30 σ l2 t0 l5 l4 else b_X12_lay_134 l1 c30 σ l2 t0 l5 l6)
def b_X12_lay_92 (l1 : Int32) (c30 : Sg → Int32 → Int32 → Int32 → Int32 → Option (Int32 × Sg)) (c48 : Sg → Int32 → Int32 → Int32 → Int32 → Int32 → Option (Int32 × Sg)) (σ : Sg) (l2 : Int32) (l3 : Int32) (l4 : Int32) (l5 : Int32) (l6 : Int32) (t0 : Int32) (t1 : Int32) (t2 : Int32) : Option (Int32 × Sg) := (if inb t2 (kLen 120) = true then nam (stI σ 120 (ix t2) (t1 + t0)) (fun s6 => nam (l6 + 1) fun x7 => c48 s6 l2 l3 l4 l5 x7) else none)
def b_X12_lay_48 (l1 : Int32) (c30 : Sg → Int32 → Int32 → Int32 → Int32 → Option (Int32 × Sg)) : Nat → Sg → Int32 → Int32 → Int32 → Int32 → Int32 → Option (Int32 × Sg)
  | 0, _, _, _, _, _, _ => none
  | f + 1, σ, l2, l3, l4, l5, l6 => (if 6 ≤ l6 then (f_X12_greatestPart σ).bind fun x4 => (if l4 ≤ x4 then b_X12_lay_119 l1 c30 σ l2 l4 l5 x4 l3 else b_X12_lay_119 l1 c30 σ l2 l4 l5 x4 l5) else (if inb (1 + (f_X12_tipOf l6 (l5 / 10) (l5 - l5 / 10 * 10))) (kLen 120) = true then (if (f_X12_has l2 l6) = 0 then b_X12_lay_92 l1 c30 (b_X12_lay_48 l1 c30 f) σ l2 l3 l4 l5 l6 0 (rI σ 120 (ix (1 + (f_X12_tipOf l6 (l5 / 10) (l5 - l5 / 10 * 10))))) (1 + (f_X12_tipOf l6 (l5 / 10) (l5 - l5 / 10 * 10))) else b_X12_lay_92 l1 c30 (b_X12_lay_48 l1 c30 f) σ l2 l3 l4 l5 l6 1 (rI σ 120 (ix (1 + (f_X12_tipOf l6 (l5 / 10) (l5 - l5 / 10 * 10))))) (1 + (f_X12_tipOf l6 (l5 / 10) (l5 - l5 / 10 * 10)))) else none))
def b_X12_lay_30 (l1 : Int32) : Nat → Sg → Int32 → Int32 → Int32 → Int32 → Option (Int32 × Sg)
  | 0, _, _, _, _, _ => none
  | f + 1, σ, l2, l3, l4, l5 => (if 100 ≤ l5 then (some (l3, σ)) else (if l2 ≤ 0 then (some (l3, σ)) else (f_X12_emptiesParts σ).bind fun s3 => b_X12_lay_48 l1 (b_X12_lay_30 l1 f) FU s3 l2 l3 l4 l5 0))
def f_X12_lay (σ : Sg) (l1 : Int32) : Option (Int32 × Sg) := (f_X12_isBalance σ l1).bind fun x1 => (if x1 = 0 then bnd (f_X12_bad σ (-2)) fun x8 s9 => (some (x8, s9)) else (f_X12_balancesOf σ l1).bind fun x2 => b_X12_lay_30 l1 FU σ x2 (-1) 1000000 0)
set_option maxRecDepth 100000 in
set_option maxHeartbeats 4000000 in
theorem q_X12_lay_134 {g : Cx} (l1 : Int32) (r : Int32) (τ : Sg) (c30 : Sg → Int32 → Int32 → Int32 → Int32 → Option (Int32 × Sg)) (hc30 : ∀ σ : Sg, ∀ l2 : Int32, ∀ l3 : Int32, ∀ l4 : Int32, ∀ l5 : Int32, c30 σ l2 l3 l4 l5 = some (r, τ) → V g cX12_lay RX12 wsX12_lay 7 (some .int) rm_X12_lay (some (.int r)) τ σ 30 [(0, .ref (g.1 112)), (2, .int l2), (3, .int l3), (4, .int l4), (5, .int l5)] []) : ∀ σ : Sg, ∀ l2 : Int32, ∀ l3 : Int32, ∀ l5 : Int32, ∀ t0 : Int32, b_X12_lay_134 l1 c30 σ l2 l3 l5 t0 = some (r, τ) → V g cX12_lay RX12 wsX12_lay 7 (some .int) rm_X12_lay (some (.int r)) τ σ 134 [(0, .ref (g.1 112)), (2, .int l2), (3, .int l3), (5, .int l5)] [.int t0] := by
  intro σ l2 l3 l5 t0 h
  unfold b_X12_lay_134 at h
  refine v_istore 136 dX12_lay_134 (by decide) rfl rfl ?_
  refine v_iincN 139 4 h dX12_lay_136 rfl kc_i_1 (by decide) rfl (fun _ => rfl) (fun x5 h => ?_)
  refine v_goto 30 dX12_lay_139 (by decide) ?_
  refine v_sub [2, 3, 4, 1, 0] rfl ?_
  exact hc30 σ l2 l3 t0 x5 h
set_option maxRecDepth 100000 in
set_option maxHeartbeats 4000000 in
theorem q_X12_lay_119 {g : Cx} (l1 : Int32) (r : Int32) (τ : Sg) (c30 : Sg → Int32 → Int32 → Int32 → Int32 → Option (Int32 × Sg)) (hc30 : ∀ σ : Sg, ∀ l2 : Int32, ∀ l3 : Int32, ∀ l4 : Int32, ∀ l5 : Int32, c30 σ l2 l3 l4 l5 = some (r, τ) → V g cX12_lay RX12 wsX12_lay 7 (some .int) rm_X12_lay (some (.int r)) τ σ 30 [(0, .ref (g.1 112)), (2, .int l2), (3, .int l3), (4, .int l4), (5, .int l5)] []) : ∀ σ : Sg, ∀ l2 : Int32, ∀ l4 : Int32, ∀ l5 : Int32, ∀ l6 : Int32, ∀ t0 : Int32, b_X12_lay_119 l1 c30 σ l2 l4 l5 l6 t0 = some (r, τ) → V g cX12_lay RX12 wsX12_lay 7 (some .int) rm_X12_lay (some (.int r)) τ σ 119 [(0, .ref (g.1 112)), (2, .int l2), (4, .int l4), (5, .int l5), (6, .int l6)] [.int t0] := by
  intro σ l2 l4 l5 l6 t0 h
  unfold b_X12_lay_119 at h
  refine v_istore_n 120 dX12_lay_119 rfl (by decide) rfl rfl ?_
  refine v_iload 122 5 dX12_lay_120 rfl rfl ?_
  refine v_iload 124 3 dX12_lay_122 rfl rfl ?_
  refine v_icmp_ge 127 132 h dX12_lay_124 rfl (by decide) (fun h => ?_) (fun h => ?_)
  · refine v_iload 134 3 dX12_lay_132 rfl rfl ?_
    refine v_sub [1, 2, 0, 4] rfl ?_
    exact q_X12_lay_134 l1 r τ c30 hc30 σ l2 t0 l5 l4 h
  · refine v_iload 129 5 dX12_lay_127 rfl rfl ?_
    refine v_goto 134 dX12_lay_129 (by decide) ?_
    refine v_sub [1, 2, 0, 4] rfl ?_
    exact q_X12_lay_134 l1 r τ c30 hc30 σ l2 t0 l5 l6 h
set_option maxRecDepth 100000 in
set_option maxHeartbeats 4000000 in
theorem q_X12_lay_92 {g : Cx} (l1 : Int32) (r : Int32) (τ : Sg) (c30 : Sg → Int32 → Int32 → Int32 → Int32 → Option (Int32 × Sg)) (c48 : Sg → Int32 → Int32 → Int32 → Int32 → Int32 → Option (Int32 × Sg)) (hc30 : ∀ σ : Sg, ∀ l2 : Int32, ∀ l3 : Int32, ∀ l4 : Int32, ∀ l5 : Int32, c30 σ l2 l3 l4 l5 = some (r, τ) → V g cX12_lay RX12 wsX12_lay 7 (some .int) rm_X12_lay (some (.int r)) τ σ 30 [(0, .ref (g.1 112)), (2, .int l2), (3, .int l3), (4, .int l4), (5, .int l5)] []) (hc48 : ∀ σ : Sg, ∀ l2 : Int32, ∀ l3 : Int32, ∀ l4 : Int32, ∀ l5 : Int32, ∀ l6 : Int32, c48 σ l2 l3 l4 l5 l6 = some (r, τ) → V g cX12_lay RX12 wsX12_lay 7 (some .int) rm_X12_lay (some (.int r)) τ σ 48 [(0, .ref (g.1 112)), (2, .int l2), (3, .int l3), (4, .int l4), (5, .int l5), (6, .int l6)] []) : ∀ σ : Sg, ∀ l2 : Int32, ∀ l3 : Int32, ∀ l4 : Int32, ∀ l5 : Int32, ∀ l6 : Int32, ∀ t0 : Int32, ∀ t1 : Int32, ∀ t2 : Int32, (t0 = 0 ∨ t0 = 1) → b_X12_lay_92 l1 c30 c48 σ l2 l3 l4 l5 l6 t0 t1 t2 = some (r, τ) → V g cX12_lay RX12 wsX12_lay 7 (some .int) rm_X12_lay (some (.int r)) τ σ 92 [(0, .ref (g.1 112)), (2, .int l2), (3, .int l3), (4, .int l4), (5, .int l5), (6, .int l6)] [.int t0, .int t1, .int t2, .ref (g.1 120)] := by
  intro σ l2 l3 l4 l5 l6 t0 t1 t2 hz0 h
  unfold b_X12_lay_92 at h
  refine v_iadd 93 dX12_lay_92 rfl ?_
  refine v_iast 94 h (rfl : kK 120 = 9) dX12_lay_93 rfl (fun s6 h => ?_)
  refine v_iincN 97 5 h dX12_lay_94 rfl kc_i_1 (by decide) rfl (fun _ => rfl) (fun x7 h => ?_)
  refine v_goto 48 dX12_lay_97 (by decide) ?_
  refine v_sub [1, 2, 3, 4, 5, 0] rfl ?_
  exact hc48 s6 l2 l3 l4 l5 x7 h
set_option maxRecDepth 100000 in
set_option maxHeartbeats 4000000 in
theorem q_X12_lay_48 {g : Cx} (l1 : Int32) (r : Int32) (τ : Sg) (c30 : Sg → Int32 → Int32 → Int32 → Int32 → Option (Int32 × Sg)) (hc30 : ∀ σ : Sg, ∀ l2 : Int32, ∀ l3 : Int32, ∀ l4 : Int32, ∀ l5 : Int32, c30 σ l2 l3 l4 l5 = some (r, τ) → V g cX12_lay RX12 wsX12_lay 7 (some .int) rm_X12_lay (some (.int r)) τ σ 30 [(0, .ref (g.1 112)), (2, .int l2), (3, .int l3), (4, .int l4), (5, .int l5)] []) : ∀ f : Nat, ∀ σ : Sg, ∀ l2 : Int32, ∀ l3 : Int32, ∀ l4 : Int32, ∀ l5 : Int32, ∀ l6 : Int32, b_X12_lay_48 l1 c30 f σ l2 l3 l4 l5 l6 = some (r, τ) → V g cX12_lay RX12 wsX12_lay 7 (some .int) rm_X12_lay (some (.int r)) τ σ 48 [(0, .ref (g.1 112)), (2, .int l2), (3, .int l3), (4, .int l4), (5, .int l5), (6, .int l6)] [] := by
  intro f
  induction f with
  | zero =>
    intro σ l2 l3 l4 l5 l6 h
    cases h
  | succ f ih =>
    intro σ l2 l3 l4 l5 l6 h
    rw [b_X12_lay_48] at h
    refine v_iload 50 5 dX12_lay_48 rfl rfl ?_
    refine v_bipush 52 6 dX12_lay_50 kc_b_6 rfl ?_
    refine v_icmp_ge 55 100 h dX12_lay_52 rfl (by decide) (fun h => ?_) (fun h => ?_)
    · refine v_aload_n 101 0 dX12_lay_100 rfl rfl rfl ?_
      obtain ⟨x4, h0, h⟩ := ob h
      refine v_cV 104 8 [] (rfl : kK 112 = 8) rfl (c_X12_greatestPart _ h0) cl_X12_greatestPart gX12_lay_X12_greatestPart rfl ⟨Nat.le_of_ble_eq_true rfl, Nat.le_of_ble_eq_true rfl⟩ rfl rfl (Nat.le_of_ble_eq_true rfl) dX12_lay_101 rfl ?_
      refine v_istore 106 dX12_lay_104 (by decide) rfl rfl ?_
      refine v_iload 108 0 dX12_lay_106 rfl rfl ?_
      refine v_iload 110 4 dX12_lay_108 rfl rfl ?_
      refine v_icmp_ge 113 118 h dX12_lay_110 rfl (by decide) (fun h => ?_) (fun h => ?_)
      · refine v_iload_n 119 3 dX12_lay_118 rfl rfl rfl ?_
        refine v_sub [1, 2, 4, 5, 0] rfl ?_
        exact q_X12_lay_119 l1 r τ c30 hc30 σ l2 l4 l5 x4 l3 h
      · refine v_iload 115 5 dX12_lay_113 rfl rfl ?_
        refine v_goto 119 dX12_lay_115 (by decide) ?_
        refine v_sub [1, 2, 4, 5, 0] rfl ?_
        exact q_X12_lay_119 l1 r τ c30 hc30 σ l2 l4 l5 x4 l5 h
    · refine v_aload_n 56 0 dX12_lay_55 rfl rfl rfl ?_
      refine vg_8_17 59 (rfl : kK 112 = 8) in_X12_lay_8 (mem_at 2 rfl) dX12_lay_56 rfl ?_
      refine v_iconst 60 1 dX12_lay_59 kc_i_1 rfl ?_
      refine v_iload 62 5 dX12_lay_60 rfl rfl ?_
      refine v_iload 64 4 dX12_lay_62 rfl rfl ?_
      refine v_bipush 66 10 dX12_lay_64 kc_b_10 rfl ?_
      refine v_idiv 67 kc_ne_10 dX12_lay_66 rfl ?_
      refine v_iload 69 4 dX12_lay_67 rfl rfl ?_
      refine v_bipush 71 10 dX12_lay_69 kc_b_10 rfl ?_
      refine v_irem 72 kc_ne_10 dX12_lay_71 rfl ?_
      refine v_cS 75 [.int l6, .int (l5 / 10), .int (l5 - l5 / 10 * 10)] (c_X12_tipOf l6 (l5 / 10) (l5 - l5 / 10 * 10)) cl_X12_tipOf gX12_lay_X12_tipOf ⟨Nat.le_of_ble_eq_true rfl, Nat.le_of_ble_eq_true rfl⟩ rfl rfl (Nat.le_of_ble_eq_true rfl) dX12_lay_72 rfl ?_
      refine v_iadd 76 dX12_lay_75 rfl ?_
      refine v_dup2 77 dX12_lay_76 rfl rfl rfl ?_
      refine v_iald 78 h (rfl : kK 120 = 9) dX12_lay_77 rfl (fun h => ?_)
      refine v_iload_n 79 1 dX12_lay_78 rfl rfl rfl ?_
      refine v_iload 81 5 dX12_lay_79 rfl rfl ?_
      refine v_cS 84 [.int l2, .int l6] (c_X12_has l2 l6) cl_X12_has gX12_lay_X12_has ⟨Nat.le_of_ble_eq_true rfl, Nat.le_of_ble_eq_true rfl⟩ rfl rfl (Nat.le_of_ble_eq_true rfl) dX12_lay_81 rfl ?_
      refine v_if_eq 87 91 h dX12_lay_84 rfl (by decide) (fun h => ?_) (fun h => ?_)
      · refine v_iconst 92 0 dX12_lay_91 kc_i_0 rfl ?_
        refine v_sub [0, 1, 2, 3, 4, 5] rfl ?_
        exact q_X12_lay_92 l1 r τ c30 (b_X12_lay_48 l1 c30 f) hc30 ih σ l2 l3 l4 l5 l6 0 (rI σ 120 (ix (1 + (f_X12_tipOf l6 (l5 / 10) (l5 - l5 / 10 * 10))))) (1 + (f_X12_tipOf l6 (l5 / 10) (l5 - l5 / 10 * 10))) (Or.inl rfl) h
      · refine v_iconst 88 1 dX12_lay_87 kc_i_1 rfl ?_
        refine v_goto 92 dX12_lay_88 (by decide) ?_
        refine v_sub [0, 1, 2, 3, 4, 5] rfl ?_
        exact q_X12_lay_92 l1 r τ c30 (b_X12_lay_48 l1 c30 f) hc30 ih σ l2 l3 l4 l5 l6 1 (rI σ 120 (ix (1 + (f_X12_tipOf l6 (l5 / 10) (l5 - l5 / 10 * 10))))) (1 + (f_X12_tipOf l6 (l5 / 10) (l5 - l5 / 10 * 10))) (Or.inr rfl) h
set_option maxRecDepth 100000 in
set_option maxHeartbeats 4000000 in
theorem q_X12_lay_30 {g : Cx} (l1 : Int32) (r : Int32) (τ : Sg) : ∀ f : Nat, ∀ σ : Sg, ∀ l2 : Int32, ∀ l3 : Int32, ∀ l4 : Int32, ∀ l5 : Int32, b_X12_lay_30 l1 f σ l2 l3 l4 l5 = some (r, τ) → V g cX12_lay RX12 wsX12_lay 7 (some .int) rm_X12_lay (some (.int r)) τ σ 30 [(0, .ref (g.1 112)), (2, .int l2), (3, .int l3), (4, .int l4), (5, .int l5)] [] := by
  intro f
  induction f with
  | zero =>
    intro σ l2 l3 l4 l5 h
    cases h
  | succ f ih =>
    intro σ l2 l3 l4 l5 h
    rw [b_X12_lay_30] at h
    refine v_iload 32 4 dX12_lay_30 rfl rfl ?_
    refine v_bipush 34 100 dX12_lay_32 kc_b_100 rfl ?_
    refine v_icmp_ge 37 142 h dX12_lay_34 rfl (by decide) (fun h => ?_) (fun h => ?_)
    · refine v_iload_n 143 2 dX12_lay_142 rfl rfl rfl ?_
      exact v_iretS h rfl dX12_lay_143
    · refine v_iload_n 38 1 dX12_lay_37 rfl rfl rfl ?_
      refine v_if_le 41 142 h dX12_lay_38 rfl (by decide) (fun h => ?_) (fun h => ?_)
      · refine v_iload_n 143 2 dX12_lay_142 rfl rfl rfl ?_
        exact v_iretS h rfl dX12_lay_143
      · refine v_aload_n 42 0 dX12_lay_41 rfl rfl rfl ?_
        obtain ⟨s3, h0, h⟩ := ob h
        refine v_cV 45 8 [] (rfl : kK 112 = 8) rfl (c_X12_emptiesParts _ h0) cl_X12_emptiesParts gX12_lay_X12_emptiesParts rfl ⟨Nat.le_of_ble_eq_true rfl, Nat.le_of_ble_eq_true rfl⟩ rfl rfl (Nat.le_of_ble_eq_true rfl) dX12_lay_42 rfl ?_
        refine v_iconst 46 0 dX12_lay_45 kc_i_0 rfl ?_
        refine v_istore 48 dX12_lay_46 (by decide) rfl rfl ?_
        refine v_sub [1, 2, 3, 4, 5, 0] rfl ?_
        exact q_X12_lay_48 l1 r τ (b_X12_lay_30 l1 f) ih FU s3 l2 l3 l4 l5 0 h
set_option maxRecDepth 100000 in
set_option maxHeartbeats 4000000 in
theorem c_X12_lay {g : Cx} {σ : Sg} (l1 : Int32) (r : Int32) (τ : Sg) (h : f_X12_lay σ l1 = some (r, τ)) : ∀ l, MetF l yX12_lay wsX12_lay rm_X12_lay g [.ref (g.1 112), .int l1] σ (some (.int r)) τ := by
  refine MetF.of (own0 := RX12) (lv0 := [(0, .ref (g.1 112)), (1, .int l1)]) rfl cl_X12_lay (by decide) (Nat.le_of_ble_eq_true rfl) rfl ?_
  unfold f_X12_lay at h
  refine v_aload_n 1 0 dX12_lay_0 rfl rfl rfl ?_
  refine v_iload_n 2 1 dX12_lay_1 rfl rfl rfl ?_
  obtain ⟨x1, h0, h⟩ := ob h
  refine v_cV 5 8 [.int l1] (rfl : kK 112 = 8) rfl (c_X12_isBalance l1 _ h0) cl_X12_isBalance gX12_lay_X12_isBalance rfl ⟨Nat.le_of_ble_eq_true rfl, Nat.le_of_ble_eq_true rfl⟩ rfl rfl (Nat.le_of_ble_eq_true rfl) dX12_lay_2 rfl ?_
  refine v_if_ne 8 15 h dX12_lay_5 rfl (by decide) (fun h => ?_) (fun h => ?_)
  · refine v_aload_n 16 0 dX12_lay_15 rfl rfl rfl ?_
    refine v_iload_n 17 1 dX12_lay_16 rfl rfl rfl ?_
    obtain ⟨x2, h0, h⟩ := ob h
    refine v_cV 20 8 [.int l1] (rfl : kK 112 = 8) rfl (c_X12_balancesOf l1 _ h0) cl_X12_balancesOf gX12_lay_X12_balancesOf rfl ⟨Nat.le_of_ble_eq_true rfl, Nat.le_of_ble_eq_true rfl⟩ rfl rfl (Nat.le_of_ble_eq_true rfl) dX12_lay_17 rfl ?_
    refine v_istore_n 21 dX12_lay_20 rfl (by decide) rfl rfl ?_
    refine v_iconst 22 (-1) dX12_lay_21 kc_i_m1 rfl ?_
    refine v_istore_n 23 dX12_lay_22 rfl (by decide) rfl rfl ?_
    refine v_ldc 25 1000000 dX12_lay_23 (mem_at 1 rfl) rfl ?_
    refine v_istore 27 dX12_lay_25 (by decide) rfl rfl ?_
    refine v_iconst 28 0 dX12_lay_27 kc_i_0 rfl ?_
    refine v_istore 30 dX12_lay_28 (by decide) rfl rfl ?_
    refine v_sub [4, 3, 2, 1, 0] rfl ?_
    exact q_X12_lay_30 l1 r τ FU σ x2 (-1) 1000000 0 h
  · refine v_aload_n 9 0 dX12_lay_8 rfl rfl rfl ?_
    refine v_bipush 11 (-2) dX12_lay_9 kc_b_m2 rfl ?_
    obtain ⟨x8, s9, h0, h⟩ := ob2 h
    refine v_cV 14 8 [.int (-2)] (rfl : kK 112 = 8) rfl (c_X12_bad (-2) _ _ h0) cl_X12_bad gX12_lay_X12_bad rfl ⟨Nat.le_of_ble_eq_true rfl, Nat.le_of_ble_eq_true rfl⟩ rfl rfl (Nat.le_of_ble_eq_true rfl) dX12_lay_11 rfl ?_
    exact v_iretS h rfl dX12_lay_14
-- private int sumOf(int, int);
abbrev rm_X12_sumOf : Room := { frames := 1, cells := 0, slots := 0, locals := 21 }
theorem cl_X12_sumOf : Cl yX12_sumOf wsX12_sumOf cX12_sumOf 5 (some .int) rm_X12_sumOf 2 := ⟨⟨_, rfl⟩, rfl, rfl, by decide +kernel, by decide +kernel, by decide +kernel⟩
theorem in_X12_sumOf_8 : ∀ w ∈ wsX120, w ∈ wsX12_sumOf := fun w h => List.mem_cons_of_mem _ (List.mem_append_right _ h)
def b_X12_sumOf_39 (σ : Sg) (l1 : Int32) (l2 : Int32) (c5 : Int32 → Int32 → Option Int32) (l4 : Int32) (t0 : Int32) (t1 : Int32) : Option Int32 := nam (t1 + t0) fun x1 => nam (l4 + 1) fun x2 => c5 x1 x2
def b_X12_sumOf_5 (σ : Sg) (l1 : Int32) (l2 : Int32) : Nat → Int32 → Int32 → Option Int32
  | 0, _, _ => none
  | f + 1, l3, l4 => (if inb 0 (kLen 113) = true then (if (rI σ 113 (ix 0)) ≤ l4 then (some (l3)) else (if (f_X12_has l2 l4) = 0 then b_X12_sumOf_39 σ l1 l2 (b_X12_sumOf_5 σ l1 l2 f) l4 0 l3 else (if inb (l1 + l4) (kLen 113) = true then b_X12_sumOf_39 σ l1 l2 (b_X12_sumOf_5 σ l1 l2 f) l4 (rI σ 113 (ix (l1 + l4))) l3 else none))) else none)
def f_X12_sumOf (σ : Sg) (l1 : Int32) (l2 : Int32) : Option Int32 := b_X12_sumOf_5 σ l1 l2 FU 0 0
set_option maxRecDepth 100000 in
set_option maxHeartbeats 4000000 in
theorem q_X12_sumOf_39 {g : Cx} (σ : Sg) (l1 : Int32) (l2 : Int32) (r : Int32) (c5 : Int32 → Int32 → Option Int32) (hc5 : ∀ l3 : Int32, ∀ l4 : Int32, c5 l3 l4 = some r → V g cX12_sumOf RX12 wsX12_sumOf 5 (some .int) rm_X12_sumOf (some (.int r)) σ σ 5 [(0, .ref (g.1 112)), (1, .int l1), (2, .int l2), (3, .int l3), (4, .int l4)] []) : ∀ l4 : Int32, ∀ t0 : Int32, ∀ t1 : Int32, b_X12_sumOf_39 σ l1 l2 c5 l4 t0 t1 = some r → V g cX12_sumOf RX12 wsX12_sumOf 5 (some .int) rm_X12_sumOf (some (.int r)) σ σ 39 [(0, .ref (g.1 112)), (1, .int l1), (2, .int l2), (4, .int l4)] [.int t0, .int t1] := by
  intro l4 t0 t1 h
  unfold b_X12_sumOf_39 at h
  refine v_iadd 40 dX12_sumOf_39 rfl ?_
  refine v_istoreN_n 41 h dX12_sumOf_40 rfl (by decide) rfl (fun _ => rfl) (fun x1 h => ?_)
  refine v_iincN 44 4 h dX12_sumOf_41 rfl kc_i_1 (by decide) rfl (fun _ => rfl) (fun x2 h => ?_)
  refine v_goto 5 dX12_sumOf_44 (by decide) ?_
  refine v_sub [2, 3, 4, 1, 0] rfl ?_
  exact hc5 x1 x2 h
set_option maxRecDepth 100000 in
set_option maxHeartbeats 4000000 in
theorem q_X12_sumOf_5 {g : Cx} (σ : Sg) (l1 : Int32) (l2 : Int32) (r : Int32) : ∀ f : Nat, ∀ l3 : Int32, ∀ l4 : Int32, b_X12_sumOf_5 σ l1 l2 f l3 l4 = some r → V g cX12_sumOf RX12 wsX12_sumOf 5 (some .int) rm_X12_sumOf (some (.int r)) σ σ 5 [(0, .ref (g.1 112)), (1, .int l1), (2, .int l2), (3, .int l3), (4, .int l4)] [] := by
  intro f
  induction f with
  | zero =>
    intro l3 l4 h
    cases h
  | succ f ih =>
    intro l3 l4 h
    rw [b_X12_sumOf_5] at h
    refine v_iload 7 4 dX12_sumOf_5 rfl rfl ?_
    refine v_aload_n 8 0 dX12_sumOf_7 rfl rfl rfl ?_
    refine vg_8_0 11 (rfl : kK 112 = 8) in_X12_sumOf_8 (mem_at 1 rfl) dX12_sumOf_8 rfl ?_
    refine v_iconst 12 0 dX12_sumOf_11 kc_i_0 rfl ?_
    refine v_iald 13 h (rfl : kK 113 = 9) dX12_sumOf_12 rfl (fun h => ?_)
    refine v_icmp_ge 16 47 h dX12_sumOf_13 rfl (by decide) (fun h => ?_) (fun h => ?_)
    · refine v_iload_n 48 3 dX12_sumOf_47 rfl rfl rfl ?_
      exact v_iretP h rfl dX12_sumOf_48
    · refine v_iload_n 17 3 dX12_sumOf_16 rfl rfl rfl ?_
      refine v_iload_n 18 2 dX12_sumOf_17 rfl rfl rfl ?_
      refine v_iload 20 4 dX12_sumOf_18 rfl rfl ?_
      refine v_cS 23 [.int l2, .int l4] (c_X12_has l2 l4) cl_X12_has gX12_sumOf_X12_has ⟨Nat.le_of_ble_eq_true rfl, Nat.le_of_ble_eq_true rfl⟩ rfl rfl (Nat.le_of_ble_eq_true rfl) dX12_sumOf_20 rfl ?_
      refine v_if_eq 26 38 h dX12_sumOf_23 rfl (by decide) (fun h => ?_) (fun h => ?_)
      · refine v_iconst 39 0 dX12_sumOf_38 kc_i_0 rfl ?_
        refine v_sub [0, 1, 2, 4] rfl ?_
        exact q_X12_sumOf_39 σ l1 l2 r (b_X12_sumOf_5 σ l1 l2 f) ih l4 0 l3 h
      · refine v_aload_n 27 0 dX12_sumOf_26 rfl rfl rfl ?_
        refine vg_8_0 30 (rfl : kK 112 = 8) in_X12_sumOf_8 (mem_at 1 rfl) dX12_sumOf_27 rfl ?_
        refine v_iload_n 31 1 dX12_sumOf_30 rfl rfl rfl ?_
        refine v_iload 33 4 dX12_sumOf_31 rfl rfl ?_
        refine v_iadd 34 dX12_sumOf_33 rfl ?_
        refine v_iald 35 h (rfl : kK 113 = 9) dX12_sumOf_34 rfl (fun h => ?_)
        refine v_goto 39 dX12_sumOf_35 (by decide) ?_
        refine v_sub [0, 1, 2, 4] rfl ?_
        exact q_X12_sumOf_39 σ l1 l2 r (b_X12_sumOf_5 σ l1 l2 f) ih l4 (rI σ 113 (ix (l1 + l4))) l3 h
set_option maxRecDepth 100000 in
set_option maxHeartbeats 4000000 in
theorem c_X12_sumOf {g : Cx} {σ : Sg} (l1 : Int32) (l2 : Int32) (r : Int32) (h : f_X12_sumOf σ l1 l2 = some r) : ∀ l, MetF l yX12_sumOf wsX12_sumOf rm_X12_sumOf g [.ref (g.1 112), .int l1, .int l2] σ (some (.int r)) σ := by
  refine MetF.of (own0 := RX12) (lv0 := [(0, .ref (g.1 112)), (1, .int l1), (2, .int l2)]) rfl cl_X12_sumOf (by decide) (Nat.le_of_ble_eq_true rfl) rfl ?_
  unfold f_X12_sumOf at h
  refine v_iconst 1 0 dX12_sumOf_0 kc_i_0 rfl ?_
  refine v_istore_n 2 dX12_sumOf_1 rfl (by decide) rfl rfl ?_
  refine v_iconst 3 0 dX12_sumOf_2 kc_i_0 rfl ?_
  refine v_istore 5 dX12_sumOf_3 (by decide) rfl rfl ?_
  refine v_sub [2, 3, 4, 1, 0] rfl ?_
  exact q_X12_sumOf_5 σ l1 l2 r FU 0 0 h
-- private boolean wasRead(int, int);
abbrev rm_X12_wasRead : Room := { frames := 2, cells := 0, slots := 0, locals := 45 }
theorem cl_X12_wasRead : Cl yX12_wasRead wsX12_wasRead cX12_wasRead 9 (some .boolean) rm_X12_wasRead 2 := ⟨⟨_, rfl⟩, rfl, rfl, by decide +kernel, by decide +kernel, by decide +kernel⟩
theorem in_X12_wasRead_8 : ∀ w ∈ wsX120, w ∈ wsX12_wasRead := fun w h => List.mem_cons_of_mem _ (List.mem_append_right _ h)
def b_X12_wasRead_130 (σ : Sg) (l1 : Int32) (l2 : Int32) (c5 : Int32 → Int32 → Option Int32) (l4 : Int32) (t0 : Int32) : Option Int32 := nam (l4 + 1) fun x7 => c5 t0 x7
def b_X12_wasRead_129 (σ : Sg) (l1 : Int32) (l2 : Int32) (c5 : Int32 → Int32 → Option Int32) (l4 : Int32) : Option Int32 := b_X12_wasRead_130 σ l1 l2 c5 l4 0
def b_X12_wasRead_94 (σ : Sg) (l1 : Int32) (l2 : Int32) (c5 : Int32 → Int32 → Option Int32) (l3 : Int32) (l4 : Int32) (l7 : Int32) (t0 : Int32) (t1 : Int32) : Option Int32 := nam (t1 + t0) fun x6 => (if l3 = 0 then b_X12_wasRead_129 σ l1 l2 c5 l4 else (if inb ((44 + (3 * l4)) + 2) (kLen 113) = true then (if (f_X12_trueTip l7 x6) = (rI σ 113 (ix ((44 + (3 * l4)) + 2))) then b_X12_wasRead_130 σ l1 l2 c5 l4 1 else b_X12_wasRead_129 σ l1 l2 c5 l4) else none))
def b_X12_wasRead_69 (σ : Sg) (l1 : Int32) (l2 : Int32) (c5 : Int32 → Int32 → Option Int32) (l3 : Int32) (l4 : Int32) (l6 : Int32) (t0 : Int32) (t1 : Int32) : Option Int32 := nam (t1 + t0) fun x4 => (f_X12_sumOf σ 25 l6).bind fun x5 => (if (f_X12_has l6 l1) = 0 then b_X12_wasRead_94 σ l1 l2 c5 l3 l4 x4 0 x5 else b_X12_wasRead_94 σ l1 l2 c5 l3 l4 x4 l2 x5)
def b_X12_wasRead_5 (σ : Sg) (l1 : Int32) (l2 : Int32) : Nat → Int32 → Int32 → Option Int32
  | 0, _, _ => none
  | f + 1, l3, l4 => (if inb 43 (kLen 113) = true then (if (rI σ 113 (ix 43)) ≤ l4 then (some (l3)) else (if inb (44 + (3 * l4)) (kLen 113) = true then nam (rI σ 113 (ix (44 + (3 * l4)))) fun x1 => (if inb ((44 + (3 * l4)) + 1) (kLen 113) = true then nam (rI σ 113 (ix ((44 + (3 * l4)) + 1))) fun x2 => (f_X12_sumOf σ 25 x1).bind fun x3 => (if (f_X12_has x1 l1) = 0 then b_X12_wasRead_69 σ l1 l2 (b_X12_wasRead_5 σ l1 l2 f) l3 l4 x2 0 x3 else b_X12_wasRead_69 σ l1 l2 (b_X12_wasRead_5 σ l1 l2 f) l3 l4 x2 l2 x3) else none) else none)) else none)
def f_X12_wasRead (σ : Sg) (l1 : Int32) (l2 : Int32) : Option Int32 := b_X12_wasRead_5 σ l1 l2 FU 1 0
set_option maxRecDepth 100000 in
set_option maxHeartbeats 4000000 in
theorem q_X12_wasRead_130 {g : Cx} (σ : Sg) (l1 : Int32) (l2 : Int32) (r : Int32) (c5 : Int32 → Int32 → Option Int32) (hc5 : ∀ l3 : Int32, ∀ l4 : Int32, (l3 = 0 ∨ l3 = 1) → c5 l3 l4 = some r → V g cX12_wasRead RX12 wsX12_wasRead 9 (some .boolean) rm_X12_wasRead (some (.int r)) σ σ 5 [(0, .ref (g.1 112)), (1, .int l1), (2, .int l2), (3, .int l3), (4, .int l4)] []) : ∀ l4 : Int32, ∀ t0 : Int32, (t0 = 0 ∨ t0 = 1) → b_X12_wasRead_130 σ l1 l2 c5 l4 t0 = some r → V g cX12_wasRead RX12 wsX12_wasRead 9 (some .boolean) rm_X12_wasRead (some (.int r)) σ σ 130 [(0, .ref (g.1 112)), (1, .int l1), (2, .int l2), (4, .int l4)] [.int t0] := by
  intro l4 t0 hz0 h
  unfold b_X12_wasRead_130 at h
  refine v_istore_n 131 dX12_wasRead_130 rfl (by decide) rfl rfl ?_
  refine v_iincN 134 4 h dX12_wasRead_131 rfl kc_i_1 (by decide) rfl (fun _ => rfl) (fun x7 h => ?_)
  refine v_goto 5 dX12_wasRead_134 (by decide) ?_
  refine v_sub [2, 3, 4, 1, 0] rfl ?_
  exact hc5 t0 x7 hz0 h
set_option maxRecDepth 100000 in
set_option maxHeartbeats 4000000 in
theorem q_X12_wasRead_129 {g : Cx} (σ : Sg) (l1 : Int32) (l2 : Int32) (r : Int32) (c5 : Int32 → Int32 → Option Int32) (hc5 : ∀ l3 : Int32, ∀ l4 : Int32, (l3 = 0 ∨ l3 = 1) → c5 l3 l4 = some r → V g cX12_wasRead RX12 wsX12_wasRead 9 (some .boolean) rm_X12_wasRead (some (.int r)) σ σ 5 [(0, .ref (g.1 112)), (1, .int l1), (2, .int l2), (3, .int l3), (4, .int l4)] []) : ∀ l4 : Int32, b_X12_wasRead_129 σ l1 l2 c5 l4 = some r → V g cX12_wasRead RX12 wsX12_wasRead 9 (some .boolean) rm_X12_wasRead (some (.int r)) σ σ 129 [(0, .ref (g.1 112)), (1, .int l1), (2, .int l2), (4, .int l4)] [] := by
  intro l4 h
  unfold b_X12_wasRead_129 at h
  refine v_iconst 130 0 dX12_wasRead_129 kc_i_0 rfl ?_
  refine v_sub [0, 1, 2, 3] rfl ?_
  exact q_X12_wasRead_130 σ l1 l2 r c5 hc5 l4 0 (Or.inl rfl) h
set_option maxRecDepth 100000 in
set_option maxHeartbeats 4000000 in
theorem q_X12_wasRead_94 {g : Cx} (σ : Sg) (l1 : Int32) (l2 : Int32) (r : Int32) (c5 : Int32 → Int32 → Option Int32) (hc5 : ∀ l3 : Int32, ∀ l4 : Int32, (l3 = 0 ∨ l3 = 1) → c5 l3 l4 = some r → V g cX12_wasRead RX12 wsX12_wasRead 9 (some .boolean) rm_X12_wasRead (some (.int r)) σ σ 5 [(0, .ref (g.1 112)), (1, .int l1), (2, .int l2), (3, .int l3), (4, .int l4)] []) : ∀ l3 : Int32, ∀ l4 : Int32, ∀ l7 : Int32, ∀ t0 : Int32, ∀ t1 : Int32, (l3 = 0 ∨ l3 = 1) → b_X12_wasRead_94 σ l1 l2 c5 l3 l4 l7 t0 t1 = some r → V g cX12_wasRead RX12 wsX12_wasRead 9 (some .boolean) rm_X12_wasRead (some (.int r)) σ σ 94 [(0, .ref (g.1 112)), (1, .int l1), (2, .int l2), (3, .int l3), (4, .int l4), (7, .int l7)] [.int t0, .int t1] := by
  intro l3 l4 l7 t0 t1 hl3 h
  unfold b_X12_wasRead_94 at h
  refine v_iadd 95 dX12_wasRead_94 rfl ?_
  refine v_istoreN 97 h dX12_wasRead_95 (by decide) rfl (fun _ => rfl) (fun x6 h => ?_)
  refine v_iload_n 98 4 dX12_wasRead_97 rfl rfl rfl ?_
  refine v_if_eq 101 129 h dX12_wasRead_98 rfl (by decide) (fun h => ?_) (fun h => ?_)
  · refine v_sub [1, 2, 3, 5] rfl ?_
    exact q_X12_wasRead_129 σ l1 l2 r c5 hc5 l4 h
  · refine v_iload 103 6 dX12_wasRead_101 rfl rfl ?_
    refine v_iload 105 0 dX12_wasRead_103 rfl rfl ?_
    refine v_cS 108 [.int l7, .int x6] (c_X12_trueTip l7 x6) cl_X12_trueTip gX12_wasRead_X12_trueTip ⟨Nat.le_of_ble_eq_true rfl, Nat.le_of_ble_eq_true rfl⟩ rfl rfl (Nat.le_of_ble_eq_true rfl) dX12_wasRead_105 rfl ?_
    refine v_aload_n 109 1 dX12_wasRead_108 rfl rfl rfl ?_
    refine vg_8_0 112 (rfl : kK 112 = 8) in_X12_wasRead_8 (mem_at 1 rfl) dX12_wasRead_109 rfl ?_
    refine v_bipush 114 44 dX12_wasRead_112 kc_b_44 rfl ?_
    refine v_iconst 115 3 dX12_wasRead_114 kc_i_3 rfl ?_
    refine v_iload 117 5 dX12_wasRead_115 rfl rfl ?_
    refine v_imul 118 dX12_wasRead_117 rfl ?_
    refine v_iadd 119 dX12_wasRead_118 rfl ?_
    refine v_iconst 120 2 dX12_wasRead_119 kc_i_2 rfl ?_
    refine v_iadd 121 dX12_wasRead_120 rfl ?_
    refine v_iald 122 h (rfl : kK 113 = 9) dX12_wasRead_121 rfl (fun h => ?_)
    refine v_icmp_ne 125 129 h dX12_wasRead_122 rfl (by decide) (fun h => ?_) (fun h => ?_)
    · refine v_sub [1, 2, 3, 5] rfl ?_
      exact q_X12_wasRead_129 σ l1 l2 r c5 hc5 l4 h
    · refine v_iconst 126 1 dX12_wasRead_125 kc_i_1 rfl ?_
      refine v_goto 130 dX12_wasRead_126 (by decide) ?_
      refine v_sub [1, 2, 3, 5] rfl ?_
      exact q_X12_wasRead_130 σ l1 l2 r c5 hc5 l4 1 (Or.inr rfl) h
set_option maxRecDepth 100000 in
set_option maxHeartbeats 4000000 in
theorem q_X12_wasRead_69 {g : Cx} (σ : Sg) (l1 : Int32) (l2 : Int32) (r : Int32) (c5 : Int32 → Int32 → Option Int32) (hc5 : ∀ l3 : Int32, ∀ l4 : Int32, (l3 = 0 ∨ l3 = 1) → c5 l3 l4 = some r → V g cX12_wasRead RX12 wsX12_wasRead 9 (some .boolean) rm_X12_wasRead (some (.int r)) σ σ 5 [(0, .ref (g.1 112)), (1, .int l1), (2, .int l2), (3, .int l3), (4, .int l4)] []) : ∀ l3 : Int32, ∀ l4 : Int32, ∀ l6 : Int32, ∀ t0 : Int32, ∀ t1 : Int32, (l3 = 0 ∨ l3 = 1) → b_X12_wasRead_69 σ l1 l2 c5 l3 l4 l6 t0 t1 = some r → V g cX12_wasRead RX12 wsX12_wasRead 9 (some .boolean) rm_X12_wasRead (some (.int r)) σ σ 69 [(0, .ref (g.1 112)), (1, .int l1), (2, .int l2), (3, .int l3), (4, .int l4), (6, .int l6)] [.int t0, .int t1] := by
  intro l3 l4 l6 t0 t1 hl3 h
  unfold b_X12_wasRead_69 at h
  refine v_iadd 70 dX12_wasRead_69 rfl ?_
  refine v_istoreN 72 h dX12_wasRead_70 (by decide) rfl (fun _ => rfl) (fun x4 h => ?_)
  refine v_aload_n 73 1 dX12_wasRead_72 rfl rfl rfl ?_
  refine v_bipush 75 25 dX12_wasRead_73 kc_b_25 rfl ?_
  refine v_iload 77 6 dX12_wasRead_75 rfl rfl ?_
  obtain ⟨x5, h0, h⟩ := ob h
  refine v_cV 80 8 [.int 25, .int l6] (rfl : kK 112 = 8) rfl (c_X12_sumOf 25 l6 _ h0) cl_X12_sumOf gX12_wasRead_X12_sumOf rfl ⟨Nat.le_of_ble_eq_true rfl, Nat.le_of_ble_eq_true rfl⟩ rfl rfl (Nat.le_of_ble_eq_true rfl) dX12_wasRead_77 rfl ?_
  refine v_iload 82 6 dX12_wasRead_80 rfl rfl ?_
  refine v_iload_n 83 2 dX12_wasRead_82 rfl rfl rfl ?_
  refine v_cS 86 [.int l6, .int l1] (c_X12_has l6 l1) cl_X12_has gX12_wasRead_X12_has ⟨Nat.le_of_ble_eq_true rfl, Nat.le_of_ble_eq_true rfl⟩ rfl rfl (Nat.le_of_ble_eq_true rfl) dX12_wasRead_83 rfl ?_
  refine v_if_eq 89 93 h dX12_wasRead_86 rfl (by decide) (fun h => ?_) (fun h => ?_)
  · refine v_iconst 94 0 dX12_wasRead_93 kc_i_0 rfl ?_
    refine v_sub [1, 2, 3, 4, 5, 0] rfl ?_
    exact q_X12_wasRead_94 σ l1 l2 r c5 hc5 l3 l4 x4 0 x5 hl3 h
  · refine v_iload_n 90 3 dX12_wasRead_89 rfl rfl rfl ?_
    refine v_goto 94 dX12_wasRead_90 (by decide) ?_
    refine v_sub [1, 2, 3, 4, 5, 0] rfl ?_
    exact q_X12_wasRead_94 σ l1 l2 r c5 hc5 l3 l4 x4 l2 x5 hl3 h
set_option maxRecDepth 100000 in
set_option maxHeartbeats 4000000 in
theorem q_X12_wasRead_5 {g : Cx} (σ : Sg) (l1 : Int32) (l2 : Int32) (r : Int32) : ∀ f : Nat, ∀ l3 : Int32, ∀ l4 : Int32, (l3 = 0 ∨ l3 = 1) → b_X12_wasRead_5 σ l1 l2 f l3 l4 = some r → V g cX12_wasRead RX12 wsX12_wasRead 9 (some .boolean) rm_X12_wasRead (some (.int r)) σ σ 5 [(0, .ref (g.1 112)), (1, .int l1), (2, .int l2), (3, .int l3), (4, .int l4)] [] := by
  intro f
  induction f with
  | zero =>
    intro l3 l4 hl3 h
    cases h
  | succ f ih =>
    intro l3 l4 hl3 h
    rw [b_X12_wasRead_5] at h
    refine v_iload 7 4 dX12_wasRead_5 rfl rfl ?_
    refine v_aload_n 8 0 dX12_wasRead_7 rfl rfl rfl ?_
    refine vg_8_0 11 (rfl : kK 112 = 8) in_X12_wasRead_8 (mem_at 1 rfl) dX12_wasRead_8 rfl ?_
    refine v_bipush 13 43 dX12_wasRead_11 kc_b_43 rfl ?_
    refine v_iald 14 h (rfl : kK 113 = 9) dX12_wasRead_13 rfl (fun h => ?_)
    refine v_icmp_ge 17 137 h dX12_wasRead_14 rfl (by decide) (fun h => ?_) (fun h => ?_)
    · refine v_iload_n 138 3 dX12_wasRead_137 rfl rfl rfl ?_
      exact v_zretP h rfl hl3 dX12_wasRead_138
    · refine v_aload_n 18 0 dX12_wasRead_17 rfl rfl rfl ?_
      refine vg_8_0 21 (rfl : kK 112 = 8) in_X12_wasRead_8 (mem_at 1 rfl) dX12_wasRead_18 rfl ?_
      refine v_bipush 23 44 dX12_wasRead_21 kc_b_44 rfl ?_
      refine v_iconst 24 3 dX12_wasRead_23 kc_i_3 rfl ?_
      refine v_iload 26 4 dX12_wasRead_24 rfl rfl ?_
      refine v_imul 27 dX12_wasRead_26 rfl ?_
      refine v_iadd 28 dX12_wasRead_27 rfl ?_
      refine v_iald 29 h (rfl : kK 113 = 9) dX12_wasRead_28 rfl (fun h => ?_)
      refine v_istoreN 31 h dX12_wasRead_29 (by decide) rfl (fun _ => rfl) (fun x1 h => ?_)
      refine v_aload_n 32 1 dX12_wasRead_31 rfl rfl rfl ?_
      refine vg_8_0 35 (rfl : kK 112 = 8) in_X12_wasRead_8 (mem_at 1 rfl) dX12_wasRead_32 rfl ?_
      refine v_bipush 37 44 dX12_wasRead_35 kc_b_44 rfl ?_
      refine v_iconst 38 3 dX12_wasRead_37 kc_i_3 rfl ?_
      refine v_iload 40 5 dX12_wasRead_38 rfl rfl ?_
      refine v_imul 41 dX12_wasRead_40 rfl ?_
      refine v_iadd 42 dX12_wasRead_41 rfl ?_
      refine v_iconst 43 1 dX12_wasRead_42 kc_i_1 rfl ?_
      refine v_iadd 44 dX12_wasRead_43 rfl ?_
      refine v_iald 45 h (rfl : kK 113 = 9) dX12_wasRead_44 rfl (fun h => ?_)
      refine v_istoreN 47 h dX12_wasRead_45 (by decide) rfl (fun _ => rfl) (fun x2 h => ?_)
      refine v_aload_n 48 2 dX12_wasRead_47 rfl rfl rfl ?_
      refine v_bipush 50 25 dX12_wasRead_48 kc_b_25 rfl ?_
      refine v_iload 52 1 dX12_wasRead_50 rfl rfl ?_
      obtain ⟨x3, h0, h⟩ := ob h
      refine v_cV 55 8 [.int 25, .int x1] (rfl : kK 112 = 8) rfl (c_X12_sumOf 25 x1 _ h0) cl_X12_sumOf gX12_wasRead_X12_sumOf rfl ⟨Nat.le_of_ble_eq_true rfl, Nat.le_of_ble_eq_true rfl⟩ rfl rfl (Nat.le_of_ble_eq_true rfl) dX12_wasRead_52 rfl ?_
      refine v_iload 57 1 dX12_wasRead_55 rfl rfl ?_
      refine v_iload_n 58 3 dX12_wasRead_57 rfl rfl rfl ?_
      refine v_cS 61 [.int x1, .int l1] (c_X12_has x1 l1) cl_X12_has gX12_wasRead_X12_has ⟨Nat.le_of_ble_eq_true rfl, Nat.le_of_ble_eq_true rfl⟩ rfl rfl (Nat.le_of_ble_eq_true rfl) dX12_wasRead_58 rfl ?_
      refine v_if_eq 64 68 h dX12_wasRead_61 rfl (by decide) (fun h => ?_) (fun h => ?_)
      · refine v_iconst 69 0 dX12_wasRead_68 kc_i_0 rfl ?_
        refine v_sub [2, 3, 4, 5, 6, 0] rfl ?_
        exact q_X12_wasRead_69 σ l1 l2 r (b_X12_wasRead_5 σ l1 l2 f) ih l3 l4 x2 0 x3 hl3 h
      · refine v_iload_n 65 4 dX12_wasRead_64 rfl rfl rfl ?_
        refine v_goto 69 dX12_wasRead_65 (by decide) ?_
        refine v_sub [2, 3, 4, 5, 6, 0] rfl ?_
        exact q_X12_wasRead_69 σ l1 l2 r (b_X12_wasRead_5 σ l1 l2 f) ih l3 l4 x2 l2 x3 hl3 h
set_option maxRecDepth 100000 in
set_option maxHeartbeats 4000000 in
theorem c_X12_wasRead {g : Cx} {σ : Sg} (l1 : Int32) (l2 : Int32) (r : Int32) (h : f_X12_wasRead σ l1 l2 = some r) : ∀ l, MetF l yX12_wasRead wsX12_wasRead rm_X12_wasRead g [.ref (g.1 112), .int l1, .int l2] σ (some (.int r)) σ := by
  refine MetF.of (own0 := RX12) (lv0 := [(0, .ref (g.1 112)), (1, .int l1), (2, .int l2)]) rfl cl_X12_wasRead (by decide) (Nat.le_of_ble_eq_true rfl) rfl ?_
  unfold f_X12_wasRead at h
  refine v_iconst 1 1 dX12_wasRead_0 kc_i_1 rfl ?_
  refine v_istore_n 2 dX12_wasRead_1 rfl (by decide) rfl rfl ?_
  refine v_iconst 3 0 dX12_wasRead_2 kc_i_0 rfl ?_
  refine v_istore 5 dX12_wasRead_3 (by decide) rfl rfl ?_
  refine v_sub [2, 3, 4, 1, 0] rfl ?_
  exact q_X12_wasRead_5 σ l1 l2 r FU 1 0 (Or.inr rfl) h
-- private int mayBe(int);
abbrev rm_X12_mayBe : Room := { frames := 3, cells := 0, slots := 0, locals := 73 }
theorem cl_X12_mayBe : Cl yX12_mayBe wsX12_mayBe cX12_mayBe 4 (some .int) rm_X12_mayBe 1 := ⟨⟨_, rfl⟩, rfl, rfl, by decide +kernel, by decide +kernel, by decide +kernel⟩
theorem in_X12_mayBe_8 : ∀ w ∈ wsX120, w ∈ wsX12_mayBe := fun w h => List.mem_cons_of_mem _ (List.mem_append_right _ h)
def b_X12_mayBe_31 (σ : Sg) (l1 : Int32) (c4 : Int32 → Int32 → Option Int32) (l3 : Int32) (t0 : Int32) (t1 : Int32) : Option Int32 := nam (t1 ||| t0) fun x2 => nam (l3 + 1) fun x3 => c4 x2 x3
def b_X12_mayBe_4 (σ : Sg) (l1 : Int32) : Nat → Int32 → Int32 → Option Int32
  | 0, _, _ => none
  | f + 1, l2, l3 => (if inb 0 (kLen 113) = true then (if (rI σ 113 (ix 0)) ≤ l3 then (some (l2)) else (f_X12_wasRead σ l3 l1).bind fun x1 => (if x1 = 0 then b_X12_mayBe_31 σ l1 (b_X12_mayBe_4 σ l1 f) l3 0 l2 else b_X12_mayBe_31 σ l1 (b_X12_mayBe_4 σ l1 f) l3 (1 <<< (l3 &&& 31)) l2)) else none)
def f_X12_mayBe (σ : Sg) (l1 : Int32) : Option Int32 := b_X12_mayBe_4 σ l1 FU 0 0
set_option maxRecDepth 100000 in
set_option maxHeartbeats 4000000 in
theorem q_X12_mayBe_31 {g : Cx} (σ : Sg) (l1 : Int32) (r : Int32) (c4 : Int32 → Int32 → Option Int32) (hc4 : ∀ l2 : Int32, ∀ l3 : Int32, c4 l2 l3 = some r → V g cX12_mayBe RX12 wsX12_mayBe 4 (some .int) rm_X12_mayBe (some (.int r)) σ σ 4 [(0, .ref (g.1 112)), (1, .int l1), (2, .int l2), (3, .int l3)] []) : ∀ l3 : Int32, ∀ t0 : Int32, ∀ t1 : Int32, b_X12_mayBe_31 σ l1 c4 l3 t0 t1 = some r → V g cX12_mayBe RX12 wsX12_mayBe 4 (some .int) rm_X12_mayBe (some (.int r)) σ σ 31 [(0, .ref (g.1 112)), (1, .int l1), (3, .int l3)] [.int t0, .int t1] := by
  intro l3 t0 t1 h
  unfold b_X12_mayBe_31 at h
  refine v_ior 32 dX12_mayBe_31 rfl ?_
  refine v_istoreN_n 33 h dX12_mayBe_32 rfl (by decide) rfl (fun _ => rfl) (fun x2 h => ?_)
  refine v_iincN 36 3 h dX12_mayBe_33 rfl kc_i_1 (by decide) rfl (fun _ => rfl) (fun x3 h => ?_)
  refine v_goto 4 dX12_mayBe_36 (by decide) ?_
  refine v_sub [2, 3, 1, 0] rfl ?_
  exact hc4 x2 x3 h
set_option maxRecDepth 100000 in
set_option maxHeartbeats 4000000 in
theorem q_X12_mayBe_4 {g : Cx} (σ : Sg) (l1 : Int32) (r : Int32) : ∀ f : Nat, ∀ l2 : Int32, ∀ l3 : Int32, b_X12_mayBe_4 σ l1 f l2 l3 = some r → V g cX12_mayBe RX12 wsX12_mayBe 4 (some .int) rm_X12_mayBe (some (.int r)) σ σ 4 [(0, .ref (g.1 112)), (1, .int l1), (2, .int l2), (3, .int l3)] [] := by
  intro f
  induction f with
  | zero =>
    intro l2 l3 h
    cases h
  | succ f ih =>
    intro l2 l3 h
    rw [b_X12_mayBe_4] at h
    refine v_iload_n 5 3 dX12_mayBe_4 rfl rfl rfl ?_
    refine v_aload_n 6 0 dX12_mayBe_5 rfl rfl rfl ?_
    refine vg_8_0 9 (rfl : kK 112 = 8) in_X12_mayBe_8 (mem_at 1 rfl) dX12_mayBe_6 rfl ?_
    refine v_iconst 10 0 dX12_mayBe_9 kc_i_0 rfl ?_
    refine v_iald 11 h (rfl : kK 113 = 9) dX12_mayBe_10 rfl (fun h => ?_)
    refine v_icmp_ge 14 39 h dX12_mayBe_11 rfl (by decide) (fun h => ?_) (fun h => ?_)
    · refine v_iload_n 40 2 dX12_mayBe_39 rfl rfl rfl ?_
      exact v_iretP h rfl dX12_mayBe_40
    · refine v_iload_n 15 2 dX12_mayBe_14 rfl rfl rfl ?_
      refine v_aload_n 16 0 dX12_mayBe_15 rfl rfl rfl ?_
      refine v_iload_n 17 3 dX12_mayBe_16 rfl rfl rfl ?_
      refine v_iload_n 18 1 dX12_mayBe_17 rfl rfl rfl ?_
      obtain ⟨x1, h0, h⟩ := ob h
      refine v_cV 21 8 [.int l3, .int l1] (rfl : kK 112 = 8) rfl (c_X12_wasRead l3 l1 _ h0) cl_X12_wasRead gX12_mayBe_X12_wasRead rfl ⟨Nat.le_of_ble_eq_true rfl, Nat.le_of_ble_eq_true rfl⟩ rfl rfl (Nat.le_of_ble_eq_true rfl) dX12_mayBe_18 rfl ?_
      refine v_if_eq 24 30 h dX12_mayBe_21 rfl (by decide) (fun h => ?_) (fun h => ?_)
      · refine v_iconst 31 0 dX12_mayBe_30 kc_i_0 rfl ?_
        refine v_sub [0, 1, 3] rfl ?_
        exact q_X12_mayBe_31 σ l1 r (b_X12_mayBe_4 σ l1 f) ih l3 0 l2 h
      · refine v_iconst 25 1 dX12_mayBe_24 kc_i_1 rfl ?_
        refine v_iload_n 26 3 dX12_mayBe_25 rfl rfl rfl ?_
        refine v_ishl 27 dX12_mayBe_26 rfl ?_
        refine v_goto 31 dX12_mayBe_27 (by decide) ?_
        refine v_sub [0, 1, 3] rfl ?_
        exact q_X12_mayBe_31 σ l1 r (b_X12_mayBe_4 σ l1 f) ih l3 (1 <<< (l3 &&& 31)) l2 h
set_option maxRecDepth 100000 in
set_option maxHeartbeats 4000000 in
theorem c_X12_mayBe {g : Cx} {σ : Sg} (l1 : Int32) (r : Int32) (h : f_X12_mayBe σ l1 = some r) : ∀ l, MetF l yX12_mayBe wsX12_mayBe rm_X12_mayBe g [.ref (g.1 112), .int l1] σ (some (.int r)) σ := by
  refine MetF.of (own0 := RX12) (lv0 := [(0, .ref (g.1 112)), (1, .int l1)]) rfl cl_X12_mayBe (by decide) (Nat.le_of_ble_eq_true rfl) rfl ?_
  unfold f_X12_mayBe at h
  refine v_iconst 1 0 dX12_mayBe_0 kc_i_0 rfl ?_
  refine v_istore_n 2 dX12_mayBe_1 rfl (by decide) rfl rfl ?_
  refine v_iconst 3 0 dX12_mayBe_2 kc_i_0 rfl ?_
  refine v_istore_n 4 dX12_mayBe_3 rfl (by decide) rfl rfl ?_
  refine v_sub [2, 3, 1, 0] rfl ?_
  exact q_X12_mayBe_4 σ l1 r FU 0 0 h
-- private void partsBy(int, int, int, int);
abbrev rm_X12_partsBy : Room := { frames := 1, cells := 0, slots := 0, locals := 21 }
theorem cl_X12_partsBy : Cl yX12_partsBy wsX12_partsBy cX12_partsBy 6 none rm_X12_partsBy 4 := ⟨⟨_, rfl⟩, rfl, rfl, by decide +kernel, by decide +kernel, by decide +kernel⟩
theorem in_X12_partsBy_8 : ∀ w ∈ wsX120, w ∈ wsX12_partsBy := fun w h => List.mem_cons_of_mem _ (List.mem_append_right _ h)
def b_X12_partsBy_81 (l1 : Int32) (l2 : Int32) (l3 : Int32) (l4 : Int32) (c3 : Sg → Int32 → Option Sg) (σ : Sg) (l5 : Int32) : Option Sg := nam (l5 + 1) fun x1 => c3 σ x1
def b_X12_partsBy_71 (l1 : Int32) (l2 : Int32) (l3 : Int32) (l4 : Int32) (c3 : Sg → Int32 → Option Sg) (σ : Sg) (l5 : Int32) (t0 : Int32) (t1 : Int32) (t2 : Int32) (t3 : Int32) : Option Sg := (if inb (t3 + (f_X12_trueTip t2 (t1 + t0))) (kLen 120) = true then (if inb (t3 + (f_X12_trueTip t2 (t1 + t0))) (kLen 120) = true then nam (stI σ 120 (ix (t3 + (f_X12_trueTip t2 (t1 + t0)))) ((rI σ 120 (ix (t3 + (f_X12_trueTip t2 (t1 + t0))))) + 1)) (fun s2 => b_X12_partsBy_81 l1 l2 l3 l4 c3 s2 l5) else none) else none)
def b_X12_partsBy_49 (l1 : Int32) (l2 : Int32) (l3 : Int32) (l4 : Int32) (c3 : Sg → Int32 → Option Sg) (σ : Sg) (l5 : Int32) (t0 : Int32) (t1 : Int32) (t2 : Int32) : Option Sg := (if inb (25 + l2) (kLen 113) = true then (if l5 = l2 then b_X12_partsBy_71 l1 l2 l3 l4 c3 σ l5 l4 (rI σ 113 (ix (25 + l2))) (t1 + t0) t2 else b_X12_partsBy_71 l1 l2 l3 l4 c3 σ l5 0 (rI σ 113 (ix (25 + l2))) (t1 + t0) t2) else none)
def b_X12_partsBy_3 (l1 : Int32) (l2 : Int32) (l3 : Int32) (l4 : Int32) : Nat → Sg → Int32 → Option Sg
  | 0, _, _ => none
  | f + 1, σ, l5 => (if inb 0 (kLen 113) = true then (if (rI σ 113 (ix 0)) ≤ l5 then (some σ) else (if (f_X12_has l3 l5) = 0 then b_X12_partsBy_81 l1 l2 l3 l4 (b_X12_partsBy_3 l1 l2 l3 l4 f) σ l5 else (if inb (25 + l1) (kLen 113) = true then (if l5 = l1 then b_X12_partsBy_49 l1 l2 l3 l4 (b_X12_partsBy_3 l1 l2 l3 l4 f) σ l5 l4 (rI σ 113 (ix (25 + l1))) 1 else b_X12_partsBy_49 l1 l2 l3 l4 (b_X12_partsBy_3 l1 l2 l3 l4 f) σ l5 0 (rI σ 113 (ix (25 + l1))) 1) else none))) else none)
def f_X12_partsBy (σ : Sg) (l1 : Int32) (l2 : Int32) (l3 : Int32) (l4 : Int32) : Option Sg := b_X12_partsBy_3 l1 l2 l3 l4 FU σ 0
set_option maxRecDepth 100000 in
set_option maxHeartbeats 4000000 in
theorem q_X12_partsBy_81 {g : Cx} (l1 : Int32) (l2 : Int32) (l3 : Int32) (l4 : Int32) (τ : Sg) (c3 : Sg → Int32 → Option Sg) (hc3 : ∀ σ : Sg, ∀ l5 : Int32, c3 σ l5 = some τ → V g cX12_partsBy RX12 wsX12_partsBy 6 none rm_X12_partsBy none τ σ 3 [(0, .ref (g.1 112)), (1, .int l1), (2, .int l2), (3, .int l3), (4, .int l4), (5, .int l5)] []) : ∀ σ : Sg, ∀ l5 : Int32, b_X12_partsBy_81 l1 l2 l3 l4 c3 σ l5 = some τ → V g cX12_partsBy RX12 wsX12_partsBy 6 none rm_X12_partsBy none τ σ 81 [(0, .ref (g.1 112)), (1, .int l1), (2, .int l2), (3, .int l3), (4, .int l4), (5, .int l5)] [] := by
  intro σ l5 h
  unfold b_X12_partsBy_81 at h
  refine v_iincN 84 5 h dX12_partsBy_81 rfl kc_i_1 (by decide) rfl (fun _ => rfl) (fun x1 h => ?_)
  refine v_goto 3 dX12_partsBy_84 (by decide) ?_
  refine v_sub [1, 2, 3, 4, 5, 0] rfl ?_
  exact hc3 σ x1 h
set_option maxRecDepth 100000 in
set_option maxHeartbeats 4000000 in
theorem q_X12_partsBy_71 {g : Cx} (l1 : Int32) (l2 : Int32) (l3 : Int32) (l4 : Int32) (τ : Sg) (c3 : Sg → Int32 → Option Sg) (hc3 : ∀ σ : Sg, ∀ l5 : Int32, c3 σ l5 = some τ → V g cX12_partsBy RX12 wsX12_partsBy 6 none rm_X12_partsBy none τ σ 3 [(0, .ref (g.1 112)), (1, .int l1), (2, .int l2), (3, .int l3), (4, .int l4), (5, .int l5)] []) : ∀ σ : Sg, ∀ l5 : Int32, ∀ t0 : Int32, ∀ t1 : Int32, ∀ t2 : Int32, ∀ t3 : Int32, (t3 = 0 ∨ t3 = 1) → b_X12_partsBy_71 l1 l2 l3 l4 c3 σ l5 t0 t1 t2 t3 = some τ → V g cX12_partsBy RX12 wsX12_partsBy 6 none rm_X12_partsBy none τ σ 71 [(0, .ref (g.1 112)), (1, .int l1), (2, .int l2), (3, .int l3), (4, .int l4), (5, .int l5)] [.int t0, .int t1, .int t2, .int t3, .ref (g.1 120)] := by
  intro σ l5 t0 t1 t2 t3 hz3 h
  unfold b_X12_partsBy_71 at h
  refine v_iadd 72 dX12_partsBy_71 rfl ?_
  refine v_cS 75 [.int t2, .int (t1 + t0)] (c_X12_trueTip t2 (t1 + t0)) cl_X12_trueTip gX12_partsBy_X12_trueTip ⟨Nat.le_of_ble_eq_true rfl, Nat.le_of_ble_eq_true rfl⟩ rfl rfl (Nat.le_of_ble_eq_true rfl) dX12_partsBy_72 rfl ?_
  refine v_iadd 76 dX12_partsBy_75 rfl ?_
  refine v_dup2 77 dX12_partsBy_76 rfl rfl rfl ?_
  refine v_iald 78 h (rfl : kK 120 = 9) dX12_partsBy_77 rfl (fun h => ?_)
  refine v_iconst 79 1 dX12_partsBy_78 kc_i_1 rfl ?_
  refine v_iadd 80 dX12_partsBy_79 rfl ?_
  refine v_iast 81 h (rfl : kK 120 = 9) dX12_partsBy_80 rfl (fun s2 h => ?_)
  refine v_sub [0, 1, 2, 3, 4, 5] rfl ?_
  exact q_X12_partsBy_81 l1 l2 l3 l4 τ c3 hc3 s2 l5 h
set_option maxRecDepth 100000 in
set_option maxHeartbeats 4000000 in
theorem q_X12_partsBy_49 {g : Cx} (l1 : Int32) (l2 : Int32) (l3 : Int32) (l4 : Int32) (τ : Sg) (c3 : Sg → Int32 → Option Sg) (hc3 : ∀ σ : Sg, ∀ l5 : Int32, c3 σ l5 = some τ → V g cX12_partsBy RX12 wsX12_partsBy 6 none rm_X12_partsBy none τ σ 3 [(0, .ref (g.1 112)), (1, .int l1), (2, .int l2), (3, .int l3), (4, .int l4), (5, .int l5)] []) : ∀ σ : Sg, ∀ l5 : Int32, ∀ t0 : Int32, ∀ t1 : Int32, ∀ t2 : Int32, (t2 = 0 ∨ t2 = 1) → b_X12_partsBy_49 l1 l2 l3 l4 c3 σ l5 t0 t1 t2 = some τ → V g cX12_partsBy RX12 wsX12_partsBy 6 none rm_X12_partsBy none τ σ 49 [(0, .ref (g.1 112)), (1, .int l1), (2, .int l2), (3, .int l3), (4, .int l4), (5, .int l5)] [.int t0, .int t1, .int t2, .ref (g.1 120)] := by
  intro σ l5 t0 t1 t2 hz2 h
  unfold b_X12_partsBy_49 at h
  refine v_iadd 50 dX12_partsBy_49 rfl ?_
  refine v_aload_n 51 0 dX12_partsBy_50 rfl rfl rfl ?_
  refine vg_8_0 54 (rfl : kK 112 = 8) in_X12_partsBy_8 (mem_at 1 rfl) dX12_partsBy_51 rfl ?_
  refine v_bipush 56 25 dX12_partsBy_54 kc_b_25 rfl ?_
  refine v_iload_n 57 2 dX12_partsBy_56 rfl rfl rfl ?_
  refine v_iadd 58 dX12_partsBy_57 rfl ?_
  refine v_iald 59 h (rfl : kK 113 = 9) dX12_partsBy_58 rfl (fun h => ?_)
  refine v_iload 61 5 dX12_partsBy_59 rfl rfl ?_
  refine v_iload_n 62 2 dX12_partsBy_61 rfl rfl rfl ?_
  refine v_icmp_ne 65 70 h dX12_partsBy_62 rfl (by decide) (fun h => ?_) (fun h => ?_)
  · refine v_iconst 71 0 dX12_partsBy_70 kc_i_0 rfl ?_
    refine v_sub [0, 1, 2, 3, 4, 5] rfl ?_
    exact q_X12_partsBy_71 l1 l2 l3 l4 τ c3 hc3 σ l5 0 (rI σ 113 (ix (25 + l2))) (t1 + t0) t2 hz2 h
  · refine v_iload 67 4 dX12_partsBy_65 rfl rfl ?_
    refine v_goto 71 dX12_partsBy_67 (by decide) ?_
    refine v_sub [0, 1, 2, 3, 4, 5] rfl ?_
    exact q_X12_partsBy_71 l1 l2 l3 l4 τ c3 hc3 σ l5 l4 (rI σ 113 (ix (25 + l2))) (t1 + t0) t2 hz2 h
set_option maxRecDepth 100000 in
set_option maxHeartbeats 4000000 in
theorem q_X12_partsBy_3 {g : Cx} (l1 : Int32) (l2 : Int32) (l3 : Int32) (l4 : Int32) (τ : Sg) : ∀ f : Nat, ∀ σ : Sg, ∀ l5 : Int32, b_X12_partsBy_3 l1 l2 l3 l4 f σ l5 = some τ → V g cX12_partsBy RX12 wsX12_partsBy 6 none rm_X12_partsBy none τ σ 3 [(0, .ref (g.1 112)), (1, .int l1), (2, .int l2), (3, .int l3), (4, .int l4), (5, .int l5)] [] := by
  intro f
  induction f with
  | zero =>
    intro σ l5 h
    cases h
  | succ f ih =>
    intro σ l5 h
    rw [b_X12_partsBy_3] at h
    refine v_iload 5 5 dX12_partsBy_3 rfl rfl ?_
    refine v_aload_n 6 0 dX12_partsBy_5 rfl rfl rfl ?_
    refine vg_8_0 9 (rfl : kK 112 = 8) in_X12_partsBy_8 (mem_at 1 rfl) dX12_partsBy_6 rfl ?_
    refine v_iconst 10 0 dX12_partsBy_9 kc_i_0 rfl ?_
    refine v_iald 11 h (rfl : kK 113 = 9) dX12_partsBy_10 rfl (fun h => ?_)
    refine v_icmp_ge 14 87 h dX12_partsBy_11 rfl (by decide) (fun h => ?_) (fun h => ?_)
    · exact v_vretS h rfl dX12_partsBy_87
    · refine v_iload_n 15 3 dX12_partsBy_14 rfl rfl rfl ?_
      refine v_iload 17 5 dX12_partsBy_15 rfl rfl ?_
      refine v_cS 20 [.int l3, .int l5] (c_X12_has l3 l5) cl_X12_has gX12_partsBy_X12_has ⟨Nat.le_of_ble_eq_true rfl, Nat.le_of_ble_eq_true rfl⟩ rfl rfl (Nat.le_of_ble_eq_true rfl) dX12_partsBy_17 rfl ?_
      refine v_if_eq 23 81 h dX12_partsBy_20 rfl (by decide) (fun h => ?_) (fun h => ?_)
      · refine v_sub [0, 1, 2, 3, 4, 5] rfl ?_
        exact q_X12_partsBy_81 l1 l2 l3 l4 τ (b_X12_partsBy_3 l1 l2 l3 l4 f) ih σ l5 h
      · refine v_aload_n 24 0 dX12_partsBy_23 rfl rfl rfl ?_
        refine vg_8_17 27 (rfl : kK 112 = 8) in_X12_partsBy_8 (mem_at 2 rfl) dX12_partsBy_24 rfl ?_
        refine v_iconst 28 1 dX12_partsBy_27 kc_i_1 rfl ?_
        refine v_aload_n 29 0 dX12_partsBy_28 rfl rfl rfl ?_
        refine vg_8_0 32 (rfl : kK 112 = 8) in_X12_partsBy_8 (mem_at 1 rfl) dX12_partsBy_29 rfl ?_
        refine v_bipush 34 25 dX12_partsBy_32 kc_b_25 rfl ?_
        refine v_iload_n 35 1 dX12_partsBy_34 rfl rfl rfl ?_
        refine v_iadd 36 dX12_partsBy_35 rfl ?_
        refine v_iald 37 h (rfl : kK 113 = 9) dX12_partsBy_36 rfl (fun h => ?_)
        refine v_iload 39 5 dX12_partsBy_37 rfl rfl ?_
        refine v_iload_n 40 1 dX12_partsBy_39 rfl rfl rfl ?_
        refine v_icmp_ne 43 48 h dX12_partsBy_40 rfl (by decide) (fun h => ?_) (fun h => ?_)
        · refine v_iconst 49 0 dX12_partsBy_48 kc_i_0 rfl ?_
          refine v_sub [0, 1, 2, 3, 4, 5] rfl ?_
          exact q_X12_partsBy_49 l1 l2 l3 l4 τ (b_X12_partsBy_3 l1 l2 l3 l4 f) ih σ l5 0 (rI σ 113 (ix (25 + l1))) 1 (Or.inr rfl) h
        · refine v_iload 45 4 dX12_partsBy_43 rfl rfl ?_
          refine v_goto 49 dX12_partsBy_45 (by decide) ?_
          refine v_sub [0, 1, 2, 3, 4, 5] rfl ?_
          exact q_X12_partsBy_49 l1 l2 l3 l4 τ (b_X12_partsBy_3 l1 l2 l3 l4 f) ih σ l5 l4 (rI σ 113 (ix (25 + l1))) 1 (Or.inr rfl) h
set_option maxRecDepth 100000 in
set_option maxHeartbeats 4000000 in
theorem c_X12_partsBy {g : Cx} {σ : Sg} (l1 : Int32) (l2 : Int32) (l3 : Int32) (l4 : Int32) (τ : Sg) (h : f_X12_partsBy σ l1 l2 l3 l4 = some τ) : ∀ l, MetF l yX12_partsBy wsX12_partsBy rm_X12_partsBy g [.ref (g.1 112), .int l1, .int l2, .int l3, .int l4] σ none τ := by
  refine MetF.of (own0 := RX12) (lv0 := [(0, .ref (g.1 112)), (1, .int l1), (2, .int l2), (3, .int l3), (4, .int l4)]) rfl cl_X12_partsBy (by decide) (Nat.le_of_ble_eq_true rfl) rfl ?_
  unfold f_X12_partsBy at h
  refine v_iconst 1 0 dX12_partsBy_0 kc_i_0 rfl ?_
  refine v_istore 3 dX12_partsBy_1 (by decide) rfl rfl ?_
  refine v_sub [1, 2, 3, 4, 5, 0] rfl ?_
  exact q_X12_partsBy_3 l1 l2 l3 l4 τ FU σ 0 h
-- public int lift();
abbrev rm_X12_lift : Room := { frames := 4, cells := 0, slots := 0, locals := 96 }
theorem cl_X12_lift : Cl yX12_lift wsX12_lift cX12_lift 8 (some .int) rm_X12_lift 0 := ⟨⟨_, rfl⟩, rfl, rfl, by decide +kernel, by decide +kernel, by decide +kernel⟩
theorem in_X12_lift_8 : ∀ w ∈ wsX120, w ∈ wsX12_lift := fun w h => List.mem_cons_of_mem _ (List.mem_append_right _ h)
def b_X12_lift_131 (c39 : Sg → Int32 → Int32 → Int32 → Int32 → Int32 → Option (Int32 × Sg)) (c56 : Sg → Int32 → Int32 → Int32 → Int32 → Int32 → Int32 → Option (Int32 × Sg)) (σ : Sg) (l1 : Int32) (l2 : Int32) (l3 : Int32) (l5 : Int32) (l6 : Int32) (t0 : Int32) : Option (Int32 × Sg) := nam (l6 + 1) fun x9 => c56 σ l1 l2 l3 t0 l5 x9
def b_X12_lift_116 (c39 : Sg → Int32 → Int32 → Int32 → Int32 → Int32 → Option (Int32 × Sg)) (c56 : Sg → Int32 → Int32 → Int32 → Int32 → Int32 → Int32 → Option (Int32 × Sg)) (σ : Sg) (l1 : Int32) (l2 : Int32) (l4 : Int32) (l5 : Int32) (l6 : Int32) (l7 : Int32) (t0 : Int32) : Option (Int32 × Sg) := (if l4 ≤ l7 then b_X12_lift_131 c39 c56 σ l1 l2 t0 l5 l6 l4 else b_X12_lift_131 c39 c56 σ l1 l2 t0 l5 l6 l7)
def b_X12_lift_56 (c39 : Sg → Int32 → Int32 → Int32 → Int32 → Int32 → Option (Int32 × Sg)) : Nat → Sg → Int32 → Int32 → Int32 → Int32 → Int32 → Int32 → Option (Int32 × Sg)
  | 0, _, _, _, _, _, _, _ => none
  | f + 1, σ, l1, l2, l3, l4, l5, l6 => (if inb 0 (kLen 113) = true then (if (rI σ 113 (ix 0)) ≤ l6 then nam (l5 + 1) fun x4 => c39 σ l1 l2 l3 l4 x4 else (f_X12_emptiesParts σ).bind fun s5 => (f_X12_partsBy s5 l5 l6 l1 (-1)).bind fun s6 => (f_X12_partsBy s6 l5 l6 l2 1).bind fun s7 => (f_X12_greatestPart s7).bind fun x8 => (if l4 ≤ x8 then b_X12_lift_116 c39 (b_X12_lift_56 c39 f) s7 l1 l2 l4 l5 l6 x8 l3 else b_X12_lift_116 c39 (b_X12_lift_56 c39 f) s7 l1 l2 l4 l5 l6 x8 ((8 * l5) + l6))) else none)
def b_X12_lift_39 : Nat → Sg → Int32 → Int32 → Int32 → Int32 → Int32 → Option (Int32 × Sg)
  | 0, _, _, _, _, _, _ => none
  | f + 1, σ, l1, l2, l3, l4, l5 => (if inb 0 (kLen 113) = true then (if (rI σ 113 (ix 0)) ≤ l5 then (some (l3, σ)) else nam (l5 + 1) fun x3 => b_X12_lift_56 (b_X12_lift_39 f) FU σ l1 l2 l3 l4 l5 x3) else none)
def f_X12_lift (σ : Sg) : Option (Int32 × Sg) := (f_X12_mayBe σ (-1)).bind fun x1 => (f_X12_mayBe σ 1).bind fun x2 => (if (x1 + x2) = 0 then (some ((-1), σ)) else (if inb 0 (kLen 113) = true then (if 2 ≤ (rI σ 113 (ix 0)) then b_X12_lift_39 FU σ x1 x2 (-1) 1000000 0 else (some ((-1), σ))) else none))
set_option maxRecDepth 100000 in
set_option maxHeartbeats 4000000 in
theorem q_X12_lift_131 {g : Cx} (r : Int32) (τ : Sg) (c39 : Sg → Int32 → Int32 → Int32 → Int32 → Int32 → Option (Int32 × Sg)) (c56 : Sg → Int32 → Int32 → Int32 → Int32 → Int32 → Int32 → Option (Int32 × Sg)) (hc39 : ∀ σ : Sg, ∀ l1 : Int32, ∀ l2 : Int32, ∀ l3 : Int32, ∀ l4 : Int32, ∀ l5 : Int32, c39 σ l1 l2 l3 l4 l5 = some (r, τ) → V g cX12_lift RX12 wsX12_lift 8 (some .int) rm_X12_lift (some (.int r)) τ σ 39 [(0, .ref (g.1 112)), (1, .int l1), (2, .int l2), (3, .int l3), (4, .int l4), (5, .int l5)] []) (hc56 : ∀ σ : Sg, ∀ l1 : Int32, ∀ l2 : Int32, ∀ l3 : Int32, ∀ l4 : Int32, ∀ l5 : Int32, ∀ l6 : Int32, c56 σ l1 l2 l3 l4 l5 l6 = some (r, τ) → V g cX12_lift RX12 wsX12_lift 8 (some .int) rm_X12_lift (some (.int r)) τ σ 56 [(0, .ref (g.1 112)), (1, .int l1), (2, .int l2), (3, .int l3), (4, .int l4), (5, .int l5), (6, .int l6)] []) : ∀ σ : Sg, ∀ l1 : Int32, ∀ l2 : Int32, ∀ l3 : Int32, ∀ l5 : Int32, ∀ l6 : Int32, ∀ t0 : Int32, b_X12_lift_131 c39 c56 σ l1 l2 l3 l5 l6 t0 = some (r, τ) → V g cX12_lift RX12 wsX12_lift 8 (some .int) rm_X12_lift (some (.int r)) τ σ 131 [(0, .ref (g.1 112)), (1, .int l1), (2, .int l2), (3, .int l3), (5, .int l5), (6, .int l6)] [.int t0] := by
  intro σ l1 l2 l3 l5 l6 t0 h
  unfold b_X12_lift_131 at h
  refine v_istore 133 dX12_lift_131 (by decide) rfl rfl ?_
  refine v_iincN 136 6 h dX12_lift_133 rfl kc_i_1 (by decide) rfl (fun _ => rfl) (fun x9 h => ?_)
  refine v_goto 56 dX12_lift_136 (by decide) ?_
  refine v_sub [2, 3, 4, 5, 1, 6, 0] rfl ?_
  exact hc56 σ l1 l2 l3 t0 l5 x9 h
set_option maxRecDepth 100000 in
set_option maxHeartbeats 4000000 in
theorem q_X12_lift_116 {g : Cx} (r : Int32) (τ : Sg) (c39 : Sg → Int32 → Int32 → Int32 → Int32 → Int32 → Option (Int32 × Sg)) (c56 : Sg → Int32 → Int32 → Int32 → Int32 → Int32 → Int32 → Option (Int32 × Sg)) (hc39 : ∀ σ : Sg, ∀ l1 : Int32, ∀ l2 : Int32, ∀ l3 : Int32, ∀ l4 : Int32, ∀ l5 : Int32, c39 σ l1 l2 l3 l4 l5 = some (r, τ) → V g cX12_lift RX12 wsX12_lift 8 (some .int) rm_X12_lift (some (.int r)) τ σ 39 [(0, .ref (g.1 112)), (1, .int l1), (2, .int l2), (3, .int l3), (4, .int l4), (5, .int l5)] []) (hc56 : ∀ σ : Sg, ∀ l1 : Int32, ∀ l2 : Int32, ∀ l3 : Int32, ∀ l4 : Int32, ∀ l5 : Int32, ∀ l6 : Int32, c56 σ l1 l2 l3 l4 l5 l6 = some (r, τ) → V g cX12_lift RX12 wsX12_lift 8 (some .int) rm_X12_lift (some (.int r)) τ σ 56 [(0, .ref (g.1 112)), (1, .int l1), (2, .int l2), (3, .int l3), (4, .int l4), (5, .int l5), (6, .int l6)] []) : ∀ σ : Sg, ∀ l1 : Int32, ∀ l2 : Int32, ∀ l4 : Int32, ∀ l5 : Int32, ∀ l6 : Int32, ∀ l7 : Int32, ∀ t0 : Int32, b_X12_lift_116 c39 c56 σ l1 l2 l4 l5 l6 l7 t0 = some (r, τ) → V g cX12_lift RX12 wsX12_lift 8 (some .int) rm_X12_lift (some (.int r)) τ σ 116 [(0, .ref (g.1 112)), (1, .int l1), (2, .int l2), (4, .int l4), (5, .int l5), (6, .int l6), (7, .int l7)] [.int t0] := by
  intro σ l1 l2 l4 l5 l6 l7 t0 h
  unfold b_X12_lift_116 at h
  refine v_istore_n 117 dX12_lift_116 rfl (by decide) rfl rfl ?_
  refine v_iload 119 7 dX12_lift_117 rfl rfl ?_
  refine v_iload 121 4 dX12_lift_119 rfl rfl ?_
  refine v_icmp_ge 124 129 h dX12_lift_121 rfl (by decide) (fun h => ?_) (fun h => ?_)
  · refine v_iload 131 4 dX12_lift_129 rfl rfl ?_
    refine v_sub [1, 2, 3, 0, 5, 6] rfl ?_
    exact q_X12_lift_131 r τ c39 c56 hc39 hc56 σ l1 l2 t0 l5 l6 l4 h
  · refine v_iload 126 7 dX12_lift_124 rfl rfl ?_
    refine v_goto 131 dX12_lift_126 (by decide) ?_
    refine v_sub [1, 2, 3, 0, 5, 6] rfl ?_
    exact q_X12_lift_131 r τ c39 c56 hc39 hc56 σ l1 l2 t0 l5 l6 l7 h
set_option maxRecDepth 100000 in
set_option maxHeartbeats 4000000 in
theorem q_X12_lift_56 {g : Cx} (r : Int32) (τ : Sg) (c39 : Sg → Int32 → Int32 → Int32 → Int32 → Int32 → Option (Int32 × Sg)) (hc39 : ∀ σ : Sg, ∀ l1 : Int32, ∀ l2 : Int32, ∀ l3 : Int32, ∀ l4 : Int32, ∀ l5 : Int32, c39 σ l1 l2 l3 l4 l5 = some (r, τ) → V g cX12_lift RX12 wsX12_lift 8 (some .int) rm_X12_lift (some (.int r)) τ σ 39 [(0, .ref (g.1 112)), (1, .int l1), (2, .int l2), (3, .int l3), (4, .int l4), (5, .int l5)] []) : ∀ f : Nat, ∀ σ : Sg, ∀ l1 : Int32, ∀ l2 : Int32, ∀ l3 : Int32, ∀ l4 : Int32, ∀ l5 : Int32, ∀ l6 : Int32, b_X12_lift_56 c39 f σ l1 l2 l3 l4 l5 l6 = some (r, τ) → V g cX12_lift RX12 wsX12_lift 8 (some .int) rm_X12_lift (some (.int r)) τ σ 56 [(0, .ref (g.1 112)), (1, .int l1), (2, .int l2), (3, .int l3), (4, .int l4), (5, .int l5), (6, .int l6)] [] := by
  intro f
  induction f with
  | zero =>
    intro σ l1 l2 l3 l4 l5 l6 h
    cases h
  | succ f ih =>
    intro σ l1 l2 l3 l4 l5 l6 h
    rw [b_X12_lift_56] at h
    refine v_iload 58 6 dX12_lift_56 rfl rfl ?_
    refine v_aload_n 59 0 dX12_lift_58 rfl rfl rfl ?_
    refine vg_8_0 62 (rfl : kK 112 = 8) in_X12_lift_8 (mem_at 1 rfl) dX12_lift_59 rfl ?_
    refine v_iconst 63 0 dX12_lift_62 kc_i_0 rfl ?_
    refine v_iald 64 h (rfl : kK 113 = 9) dX12_lift_63 rfl (fun h => ?_)
    refine v_icmp_ge 67 139 h dX12_lift_64 rfl (by decide) (fun h => ?_) (fun h => ?_)
    · refine v_iincN 142 5 h dX12_lift_139 rfl kc_i_1 (by decide) rfl (fun _ => rfl) (fun x4 h => ?_)
      refine v_goto 39 dX12_lift_142 (by decide) ?_
      refine v_sub [1, 2, 3, 4, 5, 0] rfl ?_
      exact hc39 σ l1 l2 l3 l4 x4 h
    · refine v_aload_n 68 0 dX12_lift_67 rfl rfl rfl ?_
      obtain ⟨s5, h0, h⟩ := ob h
      refine v_cV 71 8 [] (rfl : kK 112 = 8) rfl (c_X12_emptiesParts _ h0) cl_X12_emptiesParts gX12_lift_X12_emptiesParts rfl ⟨Nat.le_of_ble_eq_true rfl, Nat.le_of_ble_eq_true rfl⟩ rfl rfl (Nat.le_of_ble_eq_true rfl) dX12_lift_68 rfl ?_
      refine v_aload_n 72 0 dX12_lift_71 rfl rfl rfl ?_
      refine v_iload 74 5 dX12_lift_72 rfl rfl ?_
      refine v_iload 76 6 dX12_lift_74 rfl rfl ?_
      refine v_iload_n 77 1 dX12_lift_76 rfl rfl rfl ?_
      refine v_iconst 78 (-1) dX12_lift_77 kc_i_m1 rfl ?_
      obtain ⟨s6, h0, h⟩ := ob h
      refine v_cV 81 8 [.int l5, .int l6, .int l1, .int (-1)] (rfl : kK 112 = 8) rfl (c_X12_partsBy l5 l6 l1 (-1) _ h0) cl_X12_partsBy gX12_lift_X12_partsBy rfl ⟨Nat.le_of_ble_eq_true rfl, Nat.le_of_ble_eq_true rfl⟩ rfl rfl (Nat.le_of_ble_eq_true rfl) dX12_lift_78 rfl ?_
      refine v_aload_n 82 0 dX12_lift_81 rfl rfl rfl ?_
      refine v_iload 84 5 dX12_lift_82 rfl rfl ?_
      refine v_iload 86 6 dX12_lift_84 rfl rfl ?_
      refine v_iload_n 87 2 dX12_lift_86 rfl rfl rfl ?_
      refine v_iconst 88 1 dX12_lift_87 kc_i_1 rfl ?_
      obtain ⟨s7, h0, h⟩ := ob h
      refine v_cV 91 8 [.int l5, .int l6, .int l2, .int 1] (rfl : kK 112 = 8) rfl (c_X12_partsBy l5 l6 l2 1 _ h0) cl_X12_partsBy gX12_lift_X12_partsBy rfl ⟨Nat.le_of_ble_eq_true rfl, Nat.le_of_ble_eq_true rfl⟩ rfl rfl (Nat.le_of_ble_eq_true rfl) dX12_lift_88 rfl ?_
      refine v_aload_n 92 0 dX12_lift_91 rfl rfl rfl ?_
      obtain ⟨x8, h0, h⟩ := ob h
      refine v_cV 95 8 [] (rfl : kK 112 = 8) rfl (c_X12_greatestPart _ h0) cl_X12_greatestPart gX12_lift_X12_greatestPart rfl ⟨Nat.le_of_ble_eq_true rfl, Nat.le_of_ble_eq_true rfl⟩ rfl rfl (Nat.le_of_ble_eq_true rfl) dX12_lift_92 rfl ?_
      refine v_istore 97 dX12_lift_95 (by decide) rfl rfl ?_
      refine v_iload 99 0 dX12_lift_97 rfl rfl ?_
      refine v_iload 101 5 dX12_lift_99 rfl rfl ?_
      refine v_icmp_ge 104 115 h dX12_lift_101 rfl (by decide) (fun h => ?_) (fun h => ?_)
      · refine v_iload_n 116 4 dX12_lift_115 rfl rfl rfl ?_
        refine v_sub [1, 2, 3, 5, 6, 7, 0] rfl ?_
        exact q_X12_lift_116 r τ c39 (b_X12_lift_56 c39 f) hc39 ih s7 l1 l2 l4 l5 l6 x8 l3 h
      · refine v_bipush 106 8 dX12_lift_104 kc_b_8 rfl ?_
        refine v_iload 108 6 dX12_lift_106 rfl rfl ?_
        refine v_imul 109 dX12_lift_108 rfl ?_
        refine v_iload 111 7 dX12_lift_109 rfl rfl ?_
        refine v_iadd 112 dX12_lift_111 rfl ?_
        refine v_goto 116 dX12_lift_112 (by decide) ?_
        refine v_sub [1, 2, 3, 5, 6, 7, 0] rfl ?_
        exact q_X12_lift_116 r τ c39 (b_X12_lift_56 c39 f) hc39 ih s7 l1 l2 l4 l5 l6 x8 ((8 * l5) + l6) h
set_option maxRecDepth 100000 in
set_option maxHeartbeats 4000000 in
theorem q_X12_lift_39 {g : Cx} (r : Int32) (τ : Sg) : ∀ f : Nat, ∀ σ : Sg, ∀ l1 : Int32, ∀ l2 : Int32, ∀ l3 : Int32, ∀ l4 : Int32, ∀ l5 : Int32, b_X12_lift_39 f σ l1 l2 l3 l4 l5 = some (r, τ) → V g cX12_lift RX12 wsX12_lift 8 (some .int) rm_X12_lift (some (.int r)) τ σ 39 [(0, .ref (g.1 112)), (1, .int l1), (2, .int l2), (3, .int l3), (4, .int l4), (5, .int l5)] [] := by
  intro f
  induction f with
  | zero =>
    intro σ l1 l2 l3 l4 l5 h
    cases h
  | succ f ih =>
    intro σ l1 l2 l3 l4 l5 h
    rw [b_X12_lift_39] at h
    refine v_iload 41 5 dX12_lift_39 rfl rfl ?_
    refine v_aload_n 42 0 dX12_lift_41 rfl rfl rfl ?_
    refine vg_8_0 45 (rfl : kK 112 = 8) in_X12_lift_8 (mem_at 1 rfl) dX12_lift_42 rfl ?_
    refine v_iconst 46 0 dX12_lift_45 kc_i_0 rfl ?_
    refine v_iald 47 h (rfl : kK 113 = 9) dX12_lift_46 rfl (fun h => ?_)
    refine v_icmp_ge 50 145 h dX12_lift_47 rfl (by decide) (fun h => ?_) (fun h => ?_)
    · refine v_iload_n 146 3 dX12_lift_145 rfl rfl rfl ?_
      exact v_iretS h rfl dX12_lift_146
    · refine v_iload 52 5 dX12_lift_50 rfl rfl ?_
      refine v_iconst 53 1 dX12_lift_52 kc_i_1 rfl ?_
      refine v_iadd 54 dX12_lift_53 rfl ?_
      refine v_istoreN 56 h dX12_lift_54 (by decide) rfl (fun _ => rfl) (fun x3 h => ?_)
      refine v_sub [1, 2, 3, 4, 5, 6, 0] rfl ?_
      exact q_X12_lift_56 r τ (b_X12_lift_39 f) ih FU σ l1 l2 l3 l4 l5 x3 h
set_option maxRecDepth 100000 in
set_option maxHeartbeats 4000000 in
theorem c_X12_lift {g : Cx} {σ : Sg} (r : Int32) (τ : Sg) (h : f_X12_lift σ = some (r, τ)) : ∀ l, MetF l yX12_lift wsX12_lift rm_X12_lift g [.ref (g.1 112)] σ (some (.int r)) τ := by
  refine MetF.of (own0 := RX12) (lv0 := [(0, .ref (g.1 112))]) rfl cl_X12_lift (by decide) (Nat.le_of_ble_eq_true rfl) rfl ?_
  unfold f_X12_lift at h
  refine v_aload_n 1 0 dX12_lift_0 rfl rfl rfl ?_
  refine v_iconst 2 (-1) dX12_lift_1 kc_i_m1 rfl ?_
  obtain ⟨x1, h0, h⟩ := ob h
  refine v_cV 5 8 [.int (-1)] (rfl : kK 112 = 8) rfl (c_X12_mayBe (-1) _ h0) cl_X12_mayBe gX12_lift_X12_mayBe rfl ⟨Nat.le_of_ble_eq_true rfl, Nat.le_of_ble_eq_true rfl⟩ rfl rfl (Nat.le_of_ble_eq_true rfl) dX12_lift_2 rfl ?_
  refine v_istore_n 6 dX12_lift_5 rfl (by decide) rfl rfl ?_
  refine v_aload_n 7 1 dX12_lift_6 rfl rfl rfl ?_
  refine v_iconst 8 1 dX12_lift_7 kc_i_1 rfl ?_
  obtain ⟨x2, h0, h⟩ := ob h
  refine v_cV 11 8 [.int 1] (rfl : kK 112 = 8) rfl (c_X12_mayBe 1 _ h0) cl_X12_mayBe gX12_lift_X12_mayBe rfl ⟨Nat.le_of_ble_eq_true rfl, Nat.le_of_ble_eq_true rfl⟩ rfl rfl (Nat.le_of_ble_eq_true rfl) dX12_lift_8 rfl ?_
  refine v_istore_n 12 dX12_lift_11 rfl (by decide) rfl rfl ?_
  refine v_iload_n 13 1 dX12_lift_12 rfl rfl rfl ?_
  refine v_iload_n 14 0 dX12_lift_13 rfl rfl rfl ?_
  refine v_iadd 15 dX12_lift_14 rfl ?_
  refine v_if_eq 18 28 h dX12_lift_15 rfl (by decide) (fun h => ?_) (fun h => ?_)
  · refine v_iconst 29 (-1) dX12_lift_28 kc_i_m1 rfl ?_
    exact v_iretS h rfl dX12_lift_29
  · refine v_aload_n 19 2 dX12_lift_18 rfl rfl rfl ?_
    refine vg_8_0 22 (rfl : kK 112 = 8) in_X12_lift_8 (mem_at 1 rfl) dX12_lift_19 rfl ?_
    refine v_iconst 23 0 dX12_lift_22 kc_i_0 rfl ?_
    refine v_iald 24 h (rfl : kK 113 = 9) dX12_lift_23 rfl (fun h => ?_)
    refine v_iconst 25 2 dX12_lift_24 kc_i_2 rfl ?_
    refine v_icmp_ge 28 30 h dX12_lift_25 rfl (by decide) (fun h => ?_) (fun h => ?_)
    · refine v_iconst 31 (-1) dX12_lift_30 kc_i_m1 rfl ?_
      refine v_istore_n 32 dX12_lift_31 rfl (by decide) rfl rfl ?_
      refine v_ldc 34 1000000 dX12_lift_32 (mem_at 2 rfl) rfl ?_
      refine v_istore 36 dX12_lift_34 (by decide) rfl rfl ?_
      refine v_iconst 37 0 dX12_lift_36 kc_i_0 rfl ?_
      refine v_istore 39 dX12_lift_37 (by decide) rfl rfl ?_
      refine v_sub [5, 4, 3, 2, 1, 0] rfl ?_
      exact q_X12_lift_39 r τ FU σ x1 x2 (-1) 1000000 0 h
    · refine v_iconst 29 (-1) dX12_lift_28 kc_i_m1 rfl ?_
      exact v_iretS h rfl dX12_lift_29
-- public int load(int, int, int);
abbrev rm_X12_load : Room := { frames := 2, cells := 0, slots := 0, locals := 47 }
theorem cl_X12_load : Cl yX12_load wsX12_load cX12_load 8 (some .int) rm_X12_load 3 := ⟨⟨_, rfl⟩, rfl, rfl, by decide +kernel, by decide +kernel, by decide +kernel⟩
theorem in_X12_load_8 : ∀ w ∈ wsX120, w ∈ wsX12_load := fun w h => List.mem_cons_of_mem _ (List.mem_append_right _ h)
def b_X12_load_34 (l1 : Int32) (l2 : Int32) (l3 : Int32) (σ : Sg) : Option (Int32 × Sg) := bnd (f_X12_bad σ (-20000)) fun x1 s2 => (some (x1, s2))
def b_X12_load_120 (l1 : Int32) (l2 : Int32) (l3 : Int32) (c55 : Sg → Int32 → Int32 → Int32 → Int32 → Option (Int32 × Sg)) (σ : Sg) (l4 : Int32) (l5 : Int32) (l6 : Int32) (l7 : Int32) : Option (Int32 × Sg) := nam (l7 + 1) fun x5 => c55 σ l4 l5 l6 x5
def b_X12_load_77 (l1 : Int32) (l2 : Int32) (l3 : Int32) (c55 : Sg → Int32 → Int32 → Int32 → Int32 → Option (Int32 × Sg)) (σ : Sg) (l4 : Int32) (l5 : Int32) (l6 : Int32) (l7 : Int32) (t0 : Int32) (t1 : Int32) : Option (Int32 × Sg) := (f_X12_lays σ t1 t0).bind fun s4 => (if (rI s4 112 11) = 0 then b_X12_load_120 l1 l2 l3 c55 s4 l4 l5 l6 l7 else (if (rI s4 112 12) = l1 then (if l5 ≤ (rI s4 112 10) then b_X12_load_120 l1 l2 l3 c55 s4 l4 l5 l6 l7 else nam (rI s4 112 10) fun x6 => nam (rI s4 112 13) fun x7 => b_X12_load_120 l1 l2 l3 c55 s4 l7 x6 x7 l7) else b_X12_load_120 l1 l2 l3 c55 s4 l4 l5 l6 l7))
def b_X12_load_55 (l1 : Int32) (l2 : Int32) (l3 : Int32) : Nat → Sg → Int32 → Int32 → Int32 → Int32 → Option (Int32 × Sg)
  | 0, _, _, _, _, _ => none
  | f + 1, σ, l4, l5, l6, l7 => (f_X12_codes σ).bind fun x3 => (if x3 ≤ l7 then (if l4 = (-1) then (some ((-10000), σ)) else (if l3 = 0 then (some (l5, σ)) else (if l3 = 1 then (some (l4, σ)) else (some (l6, σ))))) else (if l2 = 1 then b_X12_load_77 l1 l2 l3 (b_X12_load_55 l1 l2 l3 f) σ l4 l5 l6 l7 1 l7 else b_X12_load_77 l1 l2 l3 (b_X12_load_55 l1 l2 l3 f) σ l4 l5 l6 l7 0 l7))
def f_X12_load (σ : Sg) (l1 : Int32) (l2 : Int32) (l3 : Int32) : Option (Int32 × Sg) := (if (f_X12_in (Int32.toInt64 l1) 1 999) = 0 then b_X12_load_34 l1 l2 l3 σ else (if (f_X12_in (Int32.toInt64 l2) 0 1) = 0 then b_X12_load_34 l1 l2 l3 σ else (if (f_X12_in (Int32.toInt64 l3) 0 2) = 0 then b_X12_load_34 l1 l2 l3 σ else b_X12_load_55 l1 l2 l3 FU σ (-1) 1000000 0 0)))
set_option maxRecDepth 100000 in
set_option maxHeartbeats 4000000 in
theorem q_X12_load_34 {g : Cx} (l1 : Int32) (l2 : Int32) (l3 : Int32) (r : Int32) (τ : Sg) : ∀ σ : Sg, b_X12_load_34 l1 l2 l3 σ = some (r, τ) → V g cX12_load RX12 wsX12_load 8 (some .int) rm_X12_load (some (.int r)) τ σ 34 [(0, .ref (g.1 112))] [] := by
  intro σ h
  unfold b_X12_load_34 at h
  refine v_aload_n 35 0 dX12_load_34 rfl rfl rfl ?_
  refine v_sipush 38 (-20000) dX12_load_35 kc_s_m20000 rfl ?_
  obtain ⟨x1, s2, h0, h⟩ := ob2 h
  refine v_cV 41 8 [.int (-20000)] (rfl : kK 112 = 8) rfl (c_X12_bad (-20000) _ _ h0) cl_X12_bad gX12_load_X12_bad rfl ⟨Nat.le_of_ble_eq_true rfl, Nat.le_of_ble_eq_true rfl⟩ rfl rfl (Nat.le_of_ble_eq_true rfl) dX12_load_38 rfl ?_
  exact v_iretS h rfl dX12_load_41
set_option maxRecDepth 100000 in
set_option maxHeartbeats 4000000 in
theorem q_X12_load_120 {g : Cx} (l1 : Int32) (l2 : Int32) (l3 : Int32) (r : Int32) (τ : Sg) (c55 : Sg → Int32 → Int32 → Int32 → Int32 → Option (Int32 × Sg)) (hc55 : ∀ σ : Sg, ∀ l4 : Int32, ∀ l5 : Int32, ∀ l6 : Int32, ∀ l7 : Int32, c55 σ l4 l5 l6 l7 = some (r, τ) → V g cX12_load RX12 wsX12_load 8 (some .int) rm_X12_load (some (.int r)) τ σ 55 [(0, .ref (g.1 112)), (1, .int l1), (2, .int l2), (3, .int l3), (4, .int l4), (5, .int l5), (6, .int l6), (7, .int l7)] []) : ∀ σ : Sg, ∀ l4 : Int32, ∀ l5 : Int32, ∀ l6 : Int32, ∀ l7 : Int32, b_X12_load_120 l1 l2 l3 c55 σ l4 l5 l6 l7 = some (r, τ) → V g cX12_load RX12 wsX12_load 8 (some .int) rm_X12_load (some (.int r)) τ σ 120 [(0, .ref (g.1 112)), (1, .int l1), (2, .int l2), (3, .int l3), (4, .int l4), (5, .int l5), (6, .int l6), (7, .int l7)] [] := by
  intro σ l4 l5 l6 l7 h
  unfold b_X12_load_120 at h
  refine v_iincN 123 7 h dX12_load_120 rfl kc_i_1 (by decide) rfl (fun _ => rfl) (fun x5 h => ?_)
  refine v_goto 55 dX12_load_123 (by decide) ?_
  refine v_sub [1, 2, 3, 4, 5, 6, 7, 0] rfl ?_
  exact hc55 σ l4 l5 l6 x5 h
set_option maxRecDepth 100000 in
set_option maxHeartbeats 4000000 in
theorem q_X12_load_77 {g : Cx} (l1 : Int32) (l2 : Int32) (l3 : Int32) (r : Int32) (τ : Sg) (c55 : Sg → Int32 → Int32 → Int32 → Int32 → Option (Int32 × Sg)) (hc55 : ∀ σ : Sg, ∀ l4 : Int32, ∀ l5 : Int32, ∀ l6 : Int32, ∀ l7 : Int32, c55 σ l4 l5 l6 l7 = some (r, τ) → V g cX12_load RX12 wsX12_load 8 (some .int) rm_X12_load (some (.int r)) τ σ 55 [(0, .ref (g.1 112)), (1, .int l1), (2, .int l2), (3, .int l3), (4, .int l4), (5, .int l5), (6, .int l6), (7, .int l7)] []) : ∀ σ : Sg, ∀ l4 : Int32, ∀ l5 : Int32, ∀ l6 : Int32, ∀ l7 : Int32, ∀ t0 : Int32, ∀ t1 : Int32, (t0 = 0 ∨ t0 = 1) → b_X12_load_77 l1 l2 l3 c55 σ l4 l5 l6 l7 t0 t1 = some (r, τ) → V g cX12_load RX12 wsX12_load 8 (some .int) rm_X12_load (some (.int r)) τ σ 77 [(0, .ref (g.1 112)), (1, .int l1), (2, .int l2), (3, .int l3), (4, .int l4), (5, .int l5), (6, .int l6), (7, .int l7)] [.int t0, .int t1, .ref (g.1 112)] := by
  intro σ l4 l5 l6 l7 t0 t1 hz0 h
  unfold b_X12_load_77 at h
  obtain ⟨s4, h0, h⟩ := ob h
  refine v_cV 80 8 [.int t1, .int t0] (rfl : kK 112 = 8) rfl (c_X12_lays t1 t0 _ h0) cl_X12_lays gX12_load_X12_lays rfl ⟨Nat.le_of_ble_eq_true rfl, Nat.le_of_ble_eq_true rfl⟩ rfl rfl (Nat.le_of_ble_eq_true rfl) dX12_load_77 rfl ?_
  refine v_aload_n 81 0 dX12_load_80 rfl rfl rfl ?_
  refine vg_8_11 84 (rfl : kK 112 = 8) in_X12_load_8 (mem_at 4 rfl) dX12_load_81 rfl ?_
  refine v_if_eq 87 120 h dX12_load_84 rfl (by decide) (fun h => ?_) (fun h => ?_)
  · refine v_sub [0, 1, 2, 3, 4, 5, 6, 7] rfl ?_
    exact q_X12_load_120 l1 l2 l3 r τ c55 hc55 s4 l4 l5 l6 l7 h
  · refine v_aload_n 88 0 dX12_load_87 rfl rfl rfl ?_
    refine vg_8_12 91 (rfl : kK 112 = 8) in_X12_load_8 (mem_at 5 rfl) dX12_load_88 rfl ?_
    refine v_iload_n 92 1 dX12_load_91 rfl rfl rfl ?_
    refine v_icmp_ne 95 120 h dX12_load_92 rfl (by decide) (fun h => ?_) (fun h => ?_)
    · refine v_sub [0, 1, 2, 3, 4, 5, 6, 7] rfl ?_
      exact q_X12_load_120 l1 l2 l3 r τ c55 hc55 s4 l4 l5 l6 l7 h
    · refine v_aload_n 96 0 dX12_load_95 rfl rfl rfl ?_
      refine vg_8_10 99 (rfl : kK 112 = 8) in_X12_load_8 (mem_at 6 rfl) dX12_load_96 rfl ?_
      refine v_iload 101 5 dX12_load_99 rfl rfl ?_
      refine v_icmp_ge 104 120 h dX12_load_101 rfl (by decide) (fun h => ?_) (fun h => ?_)
      · refine v_sub [0, 1, 2, 3, 4, 5, 6, 7] rfl ?_
        exact q_X12_load_120 l1 l2 l3 r τ c55 hc55 s4 l4 l5 l6 l7 h
      · refine v_iload 106 7 dX12_load_104 rfl rfl ?_
        refine v_istore 108 dX12_load_106 (by decide) rfl rfl ?_
        refine v_aload_n 109 1 dX12_load_108 rfl rfl rfl ?_
        refine vg_8_10 112 (rfl : kK 112 = 8) in_X12_load_8 (mem_at 6 rfl) dX12_load_109 rfl ?_
        refine v_istoreN 114 h dX12_load_112 (by decide) rfl (fun _ => rfl) (fun x6 h => ?_)
        refine v_aload_n 115 2 dX12_load_114 rfl rfl rfl ?_
        refine vg_8_13 118 (rfl : kK 112 = 8) in_X12_load_8 (mem_at 7 rfl) dX12_load_115 rfl ?_
        refine v_istoreN 120 h dX12_load_118 (by decide) rfl (fun _ => rfl) (fun x7 h => ?_)
        refine v_sub [3, 4, 5, 6, 2, 1, 0, 7] rfl ?_
        exact q_X12_load_120 l1 l2 l3 r τ c55 hc55 s4 l7 x6 x7 l7 h
set_option maxRecDepth 100000 in
set_option maxHeartbeats 4000000 in
theorem q_X12_load_55 {g : Cx} (l1 : Int32) (l2 : Int32) (l3 : Int32) (r : Int32) (τ : Sg) : ∀ f : Nat, ∀ σ : Sg, ∀ l4 : Int32, ∀ l5 : Int32, ∀ l6 : Int32, ∀ l7 : Int32, b_X12_load_55 l1 l2 l3 f σ l4 l5 l6 l7 = some (r, τ) → V g cX12_load RX12 wsX12_load 8 (some .int) rm_X12_load (some (.int r)) τ σ 55 [(0, .ref (g.1 112)), (1, .int l1), (2, .int l2), (3, .int l3), (4, .int l4), (5, .int l5), (6, .int l6), (7, .int l7)] [] := by
  intro f
  induction f with
  | zero =>
    intro σ l4 l5 l6 l7 h
    cases h
  | succ f ih =>
    intro σ l4 l5 l6 l7 h
    rw [b_X12_load_55] at h
    refine v_iload 57 7 dX12_load_55 rfl rfl ?_
    refine v_aload_n 58 0 dX12_load_57 rfl rfl rfl ?_
    obtain ⟨x3, h0, h⟩ := ob h
    refine v_cV 61 8 [] (rfl : kK 112 = 8) rfl (c_X12_codes _ h0) cl_X12_codes gX12_load_X12_codes rfl ⟨Nat.le_of_ble_eq_true rfl, Nat.le_of_ble_eq_true rfl⟩ rfl rfl (Nat.le_of_ble_eq_true rfl) dX12_load_58 rfl ?_
    refine v_icmp_ge 64 126 h dX12_load_61 rfl (by decide) (fun h => ?_) (fun h => ?_)
    · refine v_iload 128 4 dX12_load_126 rfl rfl ?_
      refine v_iconst 129 (-1) dX12_load_128 kc_i_m1 rfl ?_
      refine v_icmp_ne 132 138 h dX12_load_129 rfl (by decide) (fun h => ?_) (fun h => ?_)
      · refine v_iload_n 139 3 dX12_load_138 rfl rfl rfl ?_
        refine v_if_ne 142 147 h dX12_load_139 rfl (by decide) (fun h => ?_) (fun h => ?_)
        · refine v_iload_n 148 3 dX12_load_147 rfl rfl rfl ?_
          refine v_iconst 149 1 dX12_load_148 kc_i_1 rfl ?_
          refine v_icmp_ne 152 157 h dX12_load_149 rfl (by decide) (fun h => ?_) (fun h => ?_)
          · refine v_iload 159 6 dX12_load_157 rfl rfl ?_
            exact v_iretS h rfl dX12_load_159
          · refine v_iload 154 4 dX12_load_152 rfl rfl ?_
            refine v_goto 159 dX12_load_154 (by decide) ?_
            exact v_iretS h rfl dX12_load_159
        · refine v_iload 144 5 dX12_load_142 rfl rfl ?_
          refine v_goto 159 dX12_load_144 (by decide) ?_
          exact v_iretS h rfl dX12_load_159
      · refine v_sipush 135 (-10000) dX12_load_132 kc_s_m10000 rfl ?_
        refine v_goto 159 dX12_load_135 (by decide) ?_
        exact v_iretS h rfl dX12_load_159
    · refine v_aload_n 65 0 dX12_load_64 rfl rfl rfl ?_
      refine v_iload 67 7 dX12_load_65 rfl rfl ?_
      refine v_iload_n 68 2 dX12_load_67 rfl rfl rfl ?_
      refine v_iconst 69 1 dX12_load_68 kc_i_1 rfl ?_
      refine v_icmp_ne 72 76 h dX12_load_69 rfl (by decide) (fun h => ?_) (fun h => ?_)
      · refine v_iconst 77 0 dX12_load_76 kc_i_0 rfl ?_
        refine v_sub [0, 1, 2, 3, 4, 5, 6, 7] rfl ?_
        exact q_X12_load_77 l1 l2 l3 r τ (b_X12_load_55 l1 l2 l3 f) ih σ l4 l5 l6 l7 0 l7 (Or.inl rfl) h
      · refine v_iconst 73 1 dX12_load_72 kc_i_1 rfl ?_
        refine v_goto 77 dX12_load_73 (by decide) ?_
        refine v_sub [0, 1, 2, 3, 4, 5, 6, 7] rfl ?_
        exact q_X12_load_77 l1 l2 l3 r τ (b_X12_load_55 l1 l2 l3 f) ih σ l4 l5 l6 l7 1 l7 (Or.inr rfl) h
set_option maxRecDepth 100000 in
set_option maxHeartbeats 4000000 in
theorem c_X12_load {g : Cx} {σ : Sg} (l1 : Int32) (l2 : Int32) (l3 : Int32) (r : Int32) (τ : Sg) (h : f_X12_load σ l1 l2 l3 = some (r, τ)) : ∀ l, MetF l yX12_load wsX12_load rm_X12_load g [.ref (g.1 112), .int l1, .int l2, .int l3] σ (some (.int r)) τ := by
  refine MetF.of (own0 := RX12) (lv0 := [(0, .ref (g.1 112)), (1, .int l1), (2, .int l2), (3, .int l3)]) rfl cl_X12_load (by decide) (Nat.le_of_ble_eq_true rfl) rfl ?_
  unfold f_X12_load at h
  refine v_iload_n 1 1 dX12_load_0 rfl rfl rfl ?_
  refine v_i2l 2 dX12_load_1 rfl ?_
  refine v_lconst 3 1 dX12_load_2 kc_l_1 rfl ?_
  refine v_ldc2 6 999 dX12_load_3 (mem_at 1 rfl) rfl ?_
  refine v_cS 9 [.long (Int32.toInt64 l1), .long 1, .long 999] (c_X12_in (Int32.toInt64 l1) 1 999) cl_X12_in gX12_load_X12_in ⟨Nat.le_of_ble_eq_true rfl, Nat.le_of_ble_eq_true rfl⟩ rfl rfl (Nat.le_of_ble_eq_true rfl) dX12_load_6 rfl ?_
  refine v_if_eq 12 34 h dX12_load_9 rfl (by decide) (fun h => ?_) (fun h => ?_)
  · refine v_sub [0] rfl ?_
    exact q_X12_load_34 l1 l2 l3 r τ σ h
  · refine v_iload_n 13 2 dX12_load_12 rfl rfl rfl ?_
    refine v_i2l 14 dX12_load_13 rfl ?_
    refine v_lconst 15 0 dX12_load_14 kc_l_0 rfl ?_
    refine v_lconst 16 1 dX12_load_15 kc_l_1 rfl ?_
    refine v_cS 19 [.long (Int32.toInt64 l2), .long 0, .long 1] (c_X12_in (Int32.toInt64 l2) 0 1) cl_X12_in gX12_load_X12_in ⟨Nat.le_of_ble_eq_true rfl, Nat.le_of_ble_eq_true rfl⟩ rfl rfl (Nat.le_of_ble_eq_true rfl) dX12_load_16 rfl ?_
    refine v_if_eq 22 34 h dX12_load_19 rfl (by decide) (fun h => ?_) (fun h => ?_)
    · refine v_sub [0] rfl ?_
      exact q_X12_load_34 l1 l2 l3 r τ σ h
    · refine v_iload_n 23 3 dX12_load_22 rfl rfl rfl ?_
      refine v_i2l 24 dX12_load_23 rfl ?_
      refine v_lconst 25 0 dX12_load_24 kc_l_0 rfl ?_
      refine v_ldc2 28 2 dX12_load_25 (mem_at 2 rfl) rfl ?_
      refine v_cS 31 [.long (Int32.toInt64 l3), .long 0, .long 2] (c_X12_in (Int32.toInt64 l3) 0 2) cl_X12_in gX12_load_X12_in ⟨Nat.le_of_ble_eq_true rfl, Nat.le_of_ble_eq_true rfl⟩ rfl rfl (Nat.le_of_ble_eq_true rfl) dX12_load_28 rfl ?_
      refine v_if_ne 34 42 h dX12_load_31 rfl (by decide) (fun h => ?_) (fun h => ?_)
      · refine v_iconst 43 (-1) dX12_load_42 kc_i_m1 rfl ?_
        refine v_istore 45 dX12_load_43 (by decide) rfl rfl ?_
        refine v_ldc 47 1000000 dX12_load_45 (mem_at 3 rfl) rfl ?_
        refine v_istore 49 dX12_load_47 (by decide) rfl rfl ?_
        refine v_iconst 50 0 dX12_load_49 kc_i_0 rfl ?_
        refine v_istore 52 dX12_load_50 (by decide) rfl rfl ?_
        refine v_iconst 53 0 dX12_load_52 kc_i_0 rfl ?_
        refine v_istore 55 dX12_load_53 (by decide) rfl rfl ?_
        refine v_sub [4, 5, 6, 7, 3, 2, 1, 0] rfl ?_
        exact q_X12_load_55 l1 l2 l3 r τ FU σ (-1) 1000000 0 0 h
      · refine v_sub [0] rfl ?_
        exact q_X12_load_34 l1 l2 l3 r τ σ h
-- public int market();
abbrev rm_X12_market : Room := { frames := 1, cells := 0, slots := 0, locals := 22 }
theorem cl_X12_market : Cl yX12_market wsX12_market cX12_market 2 (some .int) rm_X12_market 0 := ⟨⟨_, rfl⟩, rfl, rfl, by decide +kernel, by decide +kernel, by decide +kernel⟩
theorem in_X12_market_8 : ∀ w ∈ wsX120, w ∈ wsX12_market := fun w h => List.mem_cons_of_mem _ (List.mem_append_right _ h)
def f_X12_market (σ : Sg) : Option (Int32 × Sg) := (if inb 0 (kLen 113) = true then nam (rI σ 113 (ix 0)) fun x1 => (f_X12_empties σ 0).bind fun s2 => (some (x1, s2)) else none)
set_option maxRecDepth 100000 in
set_option maxHeartbeats 4000000 in
theorem c_X12_market {g : Cx} {σ : Sg} (r : Int32) (τ : Sg) (h : f_X12_market σ = some (r, τ)) : ∀ l, MetF l yX12_market wsX12_market rm_X12_market g [.ref (g.1 112)] σ (some (.int r)) τ := by
  refine MetF.of (own0 := RX12) (lv0 := [(0, .ref (g.1 112))]) rfl cl_X12_market (by decide) (Nat.le_of_ble_eq_true rfl) rfl ?_
  unfold f_X12_market at h
  refine v_aload_n 1 0 dX12_market_0 rfl rfl rfl ?_
  refine vg_8_0 4 (rfl : kK 112 = 8) in_X12_market_8 (mem_at 1 rfl) dX12_market_1 rfl ?_
  refine v_iconst 5 0 dX12_market_4 kc_i_0 rfl ?_
  refine v_iald 6 h (rfl : kK 113 = 9) dX12_market_5 rfl (fun h => ?_)
  refine v_istoreN_n 7 h dX12_market_6 rfl (by decide) rfl (fun _ => rfl) (fun x1 h => ?_)
  refine v_aload_n 8 1 dX12_market_7 rfl rfl rfl ?_
  refine v_iconst 9 0 dX12_market_8 kc_i_0 rfl ?_
  obtain ⟨s2, h0, h⟩ := ob h
  refine v_cV 12 8 [.int 0] (rfl : kK 112 = 8) rfl (c_X12_empties 0 _ h0) cl_X12_empties gX12_market_X12_empties rfl ⟨Nat.le_of_ble_eq_true rfl, Nat.le_of_ble_eq_true rfl⟩ rfl rfl (Nat.le_of_ble_eq_true rfl) dX12_market_9 rfl ?_
  refine v_iload_n 13 0 dX12_market_12 rfl rfl rfl ?_
  exact v_iretS h rfl dX12_market_13
-- public int maybe(int);
abbrev rm_X12_maybe : Room := { frames := 4, cells := 0, slots := 0, locals := 96 }
theorem cl_X12_maybe : Cl yX12_maybe wsX12_maybe cX12_maybe 2 (some .int) rm_X12_maybe 1 := ⟨⟨_, rfl⟩, rfl, rfl, by decide +kernel, by decide +kernel, by decide +kernel⟩
def b_X12_maybe_20 (l1 : Int32) (σ : Sg) (t0 : Int32) : Option (Int32 × Sg) := (f_X12_mayBe σ t0).bind fun x3 => (some (x3, σ))
def f_X12_maybe (σ : Sg) (l1 : Int32) : Option (Int32 × Sg) := (if (f_X12_in (Int32.toInt64 l1) 0 1) = 0 then bnd (f_X12_bad σ (-2)) fun x1 s2 => (some (x1, s2)) else (if l1 = 0 then b_X12_maybe_20 l1 σ (-1) else b_X12_maybe_20 l1 σ 1))
set_option maxRecDepth 100000 in
set_option maxHeartbeats 4000000 in
theorem q_X12_maybe_20 {g : Cx} (l1 : Int32) (r : Int32) (τ : Sg) : ∀ σ : Sg, ∀ t0 : Int32, b_X12_maybe_20 l1 σ t0 = some (r, τ) → V g cX12_maybe RX12 wsX12_maybe 2 (some .int) rm_X12_maybe (some (.int r)) τ σ 20 [] [.int t0, .ref (g.1 112)] := by
  intro σ t0 h
  unfold b_X12_maybe_20 at h
  obtain ⟨x3, h0, h⟩ := ob h
  refine v_cV 23 8 [.int t0] (rfl : kK 112 = 8) rfl (c_X12_mayBe t0 _ h0) cl_X12_mayBe gX12_maybe_X12_mayBe rfl ⟨Nat.le_of_ble_eq_true rfl, Nat.le_of_ble_eq_true rfl⟩ rfl rfl (Nat.le_of_ble_eq_true rfl) dX12_maybe_20 rfl ?_
  refine v_goto 32 dX12_maybe_23 (by decide) ?_
  exact v_iretS h rfl dX12_maybe_32
set_option maxRecDepth 100000 in
set_option maxHeartbeats 4000000 in
theorem c_X12_maybe {g : Cx} {σ : Sg} (l1 : Int32) (r : Int32) (τ : Sg) (h : f_X12_maybe σ l1 = some (r, τ)) : ∀ l, MetF l yX12_maybe wsX12_maybe rm_X12_maybe g [.ref (g.1 112), .int l1] σ (some (.int r)) τ := by
  refine MetF.of (own0 := RX12) (lv0 := [(0, .ref (g.1 112)), (1, .int l1)]) rfl cl_X12_maybe (by decide) (Nat.le_of_ble_eq_true rfl) rfl ?_
  unfold f_X12_maybe at h
  refine v_iload_n 1 1 dX12_maybe_0 rfl rfl rfl ?_
  refine v_i2l 2 dX12_maybe_1 rfl ?_
  refine v_lconst 3 0 dX12_maybe_2 kc_l_0 rfl ?_
  refine v_lconst 4 1 dX12_maybe_3 kc_l_1 rfl ?_
  refine v_cS 7 [.long (Int32.toInt64 l1), .long 0, .long 1] (c_X12_in (Int32.toInt64 l1) 0 1) cl_X12_in gX12_maybe_X12_in ⟨Nat.le_of_ble_eq_true rfl, Nat.le_of_ble_eq_true rfl⟩ rfl rfl (Nat.le_of_ble_eq_true rfl) dX12_maybe_4 rfl ?_
  refine v_if_eq 10 26 h dX12_maybe_7 rfl (by decide) (fun h => ?_) (fun h => ?_)
  · refine v_aload_n 27 0 dX12_maybe_26 rfl rfl rfl ?_
    refine v_bipush 29 (-2) dX12_maybe_27 kc_b_m2 rfl ?_
    obtain ⟨x1, s2, h0, h⟩ := ob2 h
    refine v_cV 32 8 [.int (-2)] (rfl : kK 112 = 8) rfl (c_X12_bad (-2) _ _ h0) cl_X12_bad gX12_maybe_X12_bad rfl ⟨Nat.le_of_ble_eq_true rfl, Nat.le_of_ble_eq_true rfl⟩ rfl rfl (Nat.le_of_ble_eq_true rfl) dX12_maybe_29 rfl ?_
    exact v_iretS h rfl dX12_maybe_32
  · refine v_aload_n 11 0 dX12_maybe_10 rfl rfl rfl ?_
    refine v_iload_n 12 1 dX12_maybe_11 rfl rfl rfl ?_
    refine v_if_ne 15 19 h dX12_maybe_12 rfl (by decide) (fun h => ?_) (fun h => ?_)
    · refine v_iconst 20 1 dX12_maybe_19 kc_i_1 rfl ?_
      refine v_sub [] rfl ?_
      exact q_X12_maybe_20 l1 r τ σ 1 h
    · refine v_iconst 16 (-1) dX12_maybe_15 kc_i_m1 rfl ?_
      refine v_goto 20 dX12_maybe_16 (by decide) ?_
      refine v_sub [] rfl ?_
      exact q_X12_maybe_20 l1 r τ σ (-1) h
-- private static int moodBehind(int, int, boolean);
abbrev rm_X12_moodBehind : Room := { frames := 0, cells := 0, slots := 0, locals := 0 }
theorem cl_X12_moodBehind : Cl yX12_moodBehind wsX12_moodBehind cX12_moodBehind 3 (some .int) rm_X12_moodBehind 3 := ⟨⟨_, rfl⟩, rfl, rfl, by decide +kernel, by decide +kernel, by decide +kernel⟩
def f_X12_moodBehind (l0 : Int32) (l1 : Int32) (l2 : Int32) : Int32 := (if l2 = 0 then (if l0 = 0 then 0 else l0 - 1) else (if (l0 + (l1 / 3)) ≤ 9 then l0 + (l1 / 3) else 9))
set_option maxRecDepth 100000 in
set_option maxHeartbeats 4000000 in
theorem c_X12_moodBehind {g : Cx} {σ : Sg} (l0 : Int32) (l1 : Int32) (l2 : Int32) : ∀ l, MetF l yX12_moodBehind wsX12_moodBehind rm_X12_moodBehind g [.int l0, .int l1, .int l2] σ (some (.int (f_X12_moodBehind l0 l1 l2))) σ := by
  have main : ∀ r : Int32, f_X12_moodBehind l0 l1 l2 = r → ∀ l, MetF l yX12_moodBehind wsX12_moodBehind rm_X12_moodBehind g [.int l0, .int l1, .int l2] σ (some (.int r)) σ := by
    intro r h
    refine MetF.of (own0 := RX12) (lv0 := [(0, .int l0), (1, .int l1), (2, .int l2)]) rfl cl_X12_moodBehind (by decide) (Nat.le_of_ble_eq_true rfl) rfl ?_
    unfold f_X12_moodBehind at h
    refine v_iload_n 1 2 dX12_moodBehind_0 rfl rfl rfl ?_
    refine v_if_eq 4 27 h dX12_moodBehind_1 rfl (by decide) (fun h => ?_) (fun h => ?_)
    · refine v_iload_n 28 0 dX12_moodBehind_27 rfl rfl rfl ?_
      refine v_if_ne 31 35 h dX12_moodBehind_28 rfl (by decide) (fun h => ?_) (fun h => ?_)
      · refine v_iload_n 36 0 dX12_moodBehind_35 rfl rfl rfl ?_
        refine v_iconst 37 1 dX12_moodBehind_36 kc_i_1 rfl ?_
        refine v_isub 38 dX12_moodBehind_37 rfl ?_
        exact v_iretT h rfl dX12_moodBehind_38
      · refine v_iconst 32 0 dX12_moodBehind_31 kc_i_0 rfl ?_
        refine v_goto 38 dX12_moodBehind_32 (by decide) ?_
        exact v_iretT h rfl dX12_moodBehind_38
    · refine v_iload_n 5 0 dX12_moodBehind_4 rfl rfl rfl ?_
      refine v_iload_n 6 1 dX12_moodBehind_5 rfl rfl rfl ?_
      refine v_iconst 7 3 dX12_moodBehind_6 kc_i_3 rfl ?_
      refine v_idiv 8 kc_ne_3 dX12_moodBehind_7 rfl ?_
      refine v_iadd 9 dX12_moodBehind_8 rfl ?_
      refine v_bipush 11 9 dX12_moodBehind_9 kc_b_9 rfl ?_
      refine v_icmp_le 14 19 h dX12_moodBehind_11 rfl (by decide) (fun h => ?_) (fun h => ?_)
      · refine v_iload_n 20 0 dX12_moodBehind_19 rfl rfl rfl ?_
        refine v_iload_n 21 1 dX12_moodBehind_20 rfl rfl rfl ?_
        refine v_iconst 22 3 dX12_moodBehind_21 kc_i_3 rfl ?_
        refine v_idiv 23 kc_ne_3 dX12_moodBehind_22 rfl ?_
        refine v_iadd 24 dX12_moodBehind_23 rfl ?_
        refine v_goto 38 dX12_moodBehind_24 (by decide) ?_
        exact v_iretT h rfl dX12_moodBehind_38
      · refine v_bipush 16 9 dX12_moodBehind_14 kc_b_9 rfl ?_
        refine v_goto 38 dX12_moodBehind_16 (by decide) ?_
        exact v_iretT h rfl dX12_moodBehind_38
  exact main _ rfl
-- public int note(int, int, int, int);
abbrev rm_X12_note : Room := { frames := 2, cells := 0, slots := 0, locals := 46 }
theorem cl_X12_note : Cl yX12_note wsX12_note cX12_note 6 (some .int) rm_X12_note 4 := ⟨⟨_, rfl⟩, rfl, rfl, by decide +kernel, by decide +kernel, by decide +kernel⟩
theorem in_X12_note_8 : ∀ w ∈ wsX120, w ∈ wsX12_note := fun w h => List.mem_cons_of_mem _ (List.mem_append_right _ h)
def b_X12_note_45 (l1 : Int32) (l2 : Int32) (l3 : Int32) (l4 : Int32) (σ : Sg) : Option (Int32 × Sg) := bnd (f_X12_bad σ (-2)) fun x2 s3 => (some (x2, s3))
def f_X12_note (σ : Sg) (l1 : Int32) (l2 : Int32) (l3 : Int32) (l4 : Int32) : Option (Int32 × Sg) := (f_X12_isKeeper σ l1).bind fun x1 => (if x1 = 0 then b_X12_note_45 l1 l2 l3 l4 σ else (if (f_X12_in (Int32.toInt64 l2) 1 250) = 0 then b_X12_note_45 l1 l2 l3 l4 σ else (if (f_X12_in (Int32.toInt64 l3) 0 99) = 0 then b_X12_note_45 l1 l2 l3 l4 σ else (if (f_X12_in (Int32.toInt64 l4) 1 250) = 0 then b_X12_note_45 l1 l2 l3 l4 σ else (if inb 62 (kLen 113) = true then (if (rI σ 113 (ix 62)) = 6 then bnd (f_X12_full σ) fun x10 s11 => (some (x10, s11)) else (if inb 62 (kLen 113) = true then nam (63 + (4 * (rI σ 113 (ix 62)))) fun x4 => (if inb x4 (kLen 113) = true then nam (stI σ 113 (ix x4) l1) (fun s5 => (if inb (x4 + 1) (kLen 113) = true then nam (stI s5 113 (ix (x4 + 1)) l2) (fun s6 => (if inb (x4 + 2) (kLen 113) = true then nam (stI s6 113 (ix (x4 + 2)) l3) (fun s7 => (if inb (x4 + 3) (kLen 113) = true then nam (stI s7 113 (ix (x4 + 3)) l4) (fun s8 => (if inb 62 (kLen 113) = true then (if inb 62 (kLen 113) = true then nam (stI s8 113 (ix 62) ((rI s8 113 (ix 62)) + 1)) (fun s9 => (if inb 62 (kLen 113) = true then (some (rI s9 113 (ix 62), s9)) else none)) else none) else none)) else none)) else none)) else none)) else none) else none)) else none)))))
set_option maxRecDepth 100000 in
set_option maxHeartbeats 4000000 in
theorem q_X12_note_45 {g : Cx} (l1 : Int32) (l2 : Int32) (l3 : Int32) (l4 : Int32) (r : Int32) (τ : Sg) : ∀ σ : Sg, b_X12_note_45 l1 l2 l3 l4 σ = some (r, τ) → V g cX12_note RX12 wsX12_note 6 (some .int) rm_X12_note (some (.int r)) τ σ 45 [(0, .ref (g.1 112))] [] := by
  intro σ h
  unfold b_X12_note_45 at h
  refine v_aload_n 46 0 dX12_note_45 rfl rfl rfl ?_
  refine v_bipush 48 (-2) dX12_note_46 kc_b_m2 rfl ?_
  obtain ⟨x2, s3, h0, h⟩ := ob2 h
  refine v_cV 51 8 [.int (-2)] (rfl : kK 112 = 8) rfl (c_X12_bad (-2) _ _ h0) cl_X12_bad gX12_note_X12_bad rfl ⟨Nat.le_of_ble_eq_true rfl, Nat.le_of_ble_eq_true rfl⟩ rfl rfl (Nat.le_of_ble_eq_true rfl) dX12_note_48 rfl ?_
  exact v_iretS h rfl dX12_note_51
set_option maxRecDepth 100000 in
set_option maxHeartbeats 4000000 in
theorem c_X12_note {g : Cx} {σ : Sg} (l1 : Int32) (l2 : Int32) (l3 : Int32) (l4 : Int32) (r : Int32) (τ : Sg) (h : f_X12_note σ l1 l2 l3 l4 = some (r, τ)) : ∀ l, MetF l yX12_note wsX12_note rm_X12_note g [.ref (g.1 112), .int l1, .int l2, .int l3, .int l4] σ (some (.int r)) τ := by
  refine MetF.of (own0 := RX12) (lv0 := [(0, .ref (g.1 112)), (1, .int l1), (2, .int l2), (3, .int l3), (4, .int l4)]) rfl cl_X12_note (by decide) (Nat.le_of_ble_eq_true rfl) rfl ?_
  unfold f_X12_note at h
  refine v_aload_n 1 0 dX12_note_0 rfl rfl rfl ?_
  refine v_iload_n 2 1 dX12_note_1 rfl rfl rfl ?_
  obtain ⟨x1, h0, h⟩ := ob h
  refine v_cV 5 8 [.int l1] (rfl : kK 112 = 8) rfl (c_X12_isKeeper l1 _ h0) cl_X12_isKeeper gX12_note_X12_isKeeper rfl ⟨Nat.le_of_ble_eq_true rfl, Nat.le_of_ble_eq_true rfl⟩ rfl rfl (Nat.le_of_ble_eq_true rfl) dX12_note_2 rfl ?_
  refine v_if_eq 8 45 h dX12_note_5 rfl (by decide) (fun h => ?_) (fun h => ?_)
  · refine v_sub [0] rfl ?_
    exact q_X12_note_45 l1 l2 l3 l4 r τ σ h
  · refine v_iload_n 9 2 dX12_note_8 rfl rfl rfl ?_
    refine v_i2l 10 dX12_note_9 rfl ?_
    refine v_lconst 11 1 dX12_note_10 kc_l_1 rfl ?_
    refine v_ldc2 14 250 dX12_note_11 (mem_at 1 rfl) rfl ?_
    refine v_cS 17 [.long (Int32.toInt64 l2), .long 1, .long 250] (c_X12_in (Int32.toInt64 l2) 1 250) cl_X12_in gX12_note_X12_in ⟨Nat.le_of_ble_eq_true rfl, Nat.le_of_ble_eq_true rfl⟩ rfl rfl (Nat.le_of_ble_eq_true rfl) dX12_note_14 rfl ?_
    refine v_if_eq 20 45 h dX12_note_17 rfl (by decide) (fun h => ?_) (fun h => ?_)
    · refine v_sub [0] rfl ?_
      exact q_X12_note_45 l1 l2 l3 l4 r τ σ h
    · refine v_iload_n 21 3 dX12_note_20 rfl rfl rfl ?_
      refine v_i2l 22 dX12_note_21 rfl ?_
      refine v_lconst 23 0 dX12_note_22 kc_l_0 rfl ?_
      refine v_ldc2 26 99 dX12_note_23 (mem_at 2 rfl) rfl ?_
      refine v_cS 29 [.long (Int32.toInt64 l3), .long 0, .long 99] (c_X12_in (Int32.toInt64 l3) 0 99) cl_X12_in gX12_note_X12_in ⟨Nat.le_of_ble_eq_true rfl, Nat.le_of_ble_eq_true rfl⟩ rfl rfl (Nat.le_of_ble_eq_true rfl) dX12_note_26 rfl ?_
      refine v_if_eq 32 45 h dX12_note_29 rfl (by decide) (fun h => ?_) (fun h => ?_)
      · refine v_sub [0] rfl ?_
        exact q_X12_note_45 l1 l2 l3 l4 r τ σ h
      · refine v_iload 34 4 dX12_note_32 rfl rfl ?_
        refine v_i2l 35 dX12_note_34 rfl ?_
        refine v_lconst 36 1 dX12_note_35 kc_l_1 rfl ?_
        refine v_ldc2 39 250 dX12_note_36 (mem_at 1 rfl) rfl ?_
        refine v_cS 42 [.long (Int32.toInt64 l4), .long 1, .long 250] (c_X12_in (Int32.toInt64 l4) 1 250) cl_X12_in gX12_note_X12_in ⟨Nat.le_of_ble_eq_true rfl, Nat.le_of_ble_eq_true rfl⟩ rfl rfl (Nat.le_of_ble_eq_true rfl) dX12_note_39 rfl ?_
        refine v_if_ne 45 52 h dX12_note_42 rfl (by decide) (fun h => ?_) (fun h => ?_)
        · refine v_aload_n 53 0 dX12_note_52 rfl rfl rfl ?_
          refine vg_8_0 56 (rfl : kK 112 = 8) in_X12_note_8 (mem_at 3 rfl) dX12_note_53 rfl ?_
          refine v_bipush 58 62 dX12_note_56 kc_b_62 rfl ?_
          refine v_iald 59 h (rfl : kK 113 = 9) dX12_note_58 rfl (fun h => ?_)
          refine v_bipush 61 6 dX12_note_59 kc_b_6 rfl ?_
          refine v_icmp_ne 64 69 h dX12_note_61 rfl (by decide) (fun h => ?_) (fun h => ?_)
          · refine v_bipush 71 63 dX12_note_69 kc_b_63 rfl ?_
            refine v_iconst 72 4 dX12_note_71 kc_i_4 rfl ?_
            refine v_aload_n 73 0 dX12_note_72 rfl rfl rfl ?_
            refine vg_8_0 76 (rfl : kK 112 = 8) in_X12_note_8 (mem_at 3 rfl) dX12_note_73 rfl ?_
            refine v_bipush 78 62 dX12_note_76 kc_b_62 rfl ?_
            refine v_iald 79 h (rfl : kK 113 = 9) dX12_note_78 rfl (fun h => ?_)
            refine v_imul 80 dX12_note_79 rfl ?_
            refine v_iadd 81 dX12_note_80 rfl ?_
            refine v_istoreN 83 h dX12_note_81 (by decide) rfl (fun _ => rfl) (fun x4 h => ?_)
            refine v_aload_n 84 1 dX12_note_83 rfl rfl rfl ?_
            refine vg_8_0 87 (rfl : kK 112 = 8) in_X12_note_8 (mem_at 3 rfl) dX12_note_84 rfl ?_
            refine v_iload 89 0 dX12_note_87 rfl rfl ?_
            refine v_iload_n 90 2 dX12_note_89 rfl rfl rfl ?_
            refine v_iast 91 h (rfl : kK 113 = 9) dX12_note_90 rfl (fun s5 h => ?_)
            refine v_aload_n 92 1 dX12_note_91 rfl rfl rfl ?_
            refine vg_8_0 95 (rfl : kK 112 = 8) in_X12_note_8 (mem_at 3 rfl) dX12_note_92 rfl ?_
            refine v_iload 97 0 dX12_note_95 rfl rfl ?_
            refine v_iconst 98 1 dX12_note_97 kc_i_1 rfl ?_
            refine v_iadd 99 dX12_note_98 rfl ?_
            refine v_iload_n 100 3 dX12_note_99 rfl rfl rfl ?_
            refine v_iast 101 h (rfl : kK 113 = 9) dX12_note_100 rfl (fun s6 h => ?_)
            refine v_aload_n 102 1 dX12_note_101 rfl rfl rfl ?_
            refine vg_8_0 105 (rfl : kK 112 = 8) in_X12_note_8 (mem_at 3 rfl) dX12_note_102 rfl ?_
            refine v_iload 107 0 dX12_note_105 rfl rfl ?_
            refine v_iconst 108 2 dX12_note_107 kc_i_2 rfl ?_
            refine v_iadd 109 dX12_note_108 rfl ?_
            refine v_iload_n 110 4 dX12_note_109 rfl rfl rfl ?_
            refine v_iast 111 h (rfl : kK 113 = 9) dX12_note_110 rfl (fun s7 h => ?_)
            refine v_aload_n 112 1 dX12_note_111 rfl rfl rfl ?_
            refine vg_8_0 115 (rfl : kK 112 = 8) in_X12_note_8 (mem_at 3 rfl) dX12_note_112 rfl ?_
            refine v_iload 117 0 dX12_note_115 rfl rfl ?_
            refine v_iconst 118 3 dX12_note_117 kc_i_3 rfl ?_
            refine v_iadd 119 dX12_note_118 rfl ?_
            refine v_iload 121 5 dX12_note_119 rfl rfl ?_
            refine v_iast 122 h (rfl : kK 113 = 9) dX12_note_121 rfl (fun s8 h => ?_)
            refine v_aload_n 123 1 dX12_note_122 rfl rfl rfl ?_
            refine vg_8_0 126 (rfl : kK 112 = 8) in_X12_note_8 (mem_at 3 rfl) dX12_note_123 rfl ?_
            refine v_bipush 128 62 dX12_note_126 kc_b_62 rfl ?_
            refine v_dup2 129 dX12_note_128 rfl rfl rfl ?_
            refine v_iald 130 h (rfl : kK 113 = 9) dX12_note_129 rfl (fun h => ?_)
            refine v_iconst 131 1 dX12_note_130 kc_i_1 rfl ?_
            refine v_iadd 132 dX12_note_131 rfl ?_
            refine v_iast 133 h (rfl : kK 113 = 9) dX12_note_132 rfl (fun s9 h => ?_)
            refine v_aload_n 134 1 dX12_note_133 rfl rfl rfl ?_
            refine vg_8_0 137 (rfl : kK 112 = 8) in_X12_note_8 (mem_at 3 rfl) dX12_note_134 rfl ?_
            refine v_bipush 139 62 dX12_note_137 kc_b_62 rfl ?_
            refine v_iald 140 h (rfl : kK 113 = 9) dX12_note_139 rfl (fun h => ?_)
            exact v_iretS h rfl dX12_note_140
          · refine v_aload_n 65 0 dX12_note_64 rfl rfl rfl ?_
            obtain ⟨x10, s11, h0, h⟩ := ob2 h
            refine v_cV 68 8 [] (rfl : kK 112 = 8) rfl (c_X12_full _ _ h0) cl_X12_full gX12_note_X12_full rfl ⟨Nat.le_of_ble_eq_true rfl, Nat.le_of_ble_eq_true rfl⟩ rfl rfl (Nat.le_of_ble_eq_true rfl) dX12_note_65 rfl ?_
            exact v_iretS h rfl dX12_note_68
        · refine v_sub [0] rfl ?_
          exact q_X12_note_45 l1 l2 l3 l4 r τ σ h
-- public int of(int, int);
abbrev rm_X12_of : Room := { frames := 2, cells := 0, slots := 0, locals := 46 }
theorem cl_X12_of : Cl yX12_of wsX12_of cX12_of 3 (some .int) rm_X12_of 2 := ⟨⟨_, rfl⟩, rfl, rfl, by decide +kernel, by decide +kernel, by decide +kernel⟩
def b_X12_of_29 (l1 : Int32) (l2 : Int32) (σ : Sg) : Option (Int32 × Sg) := bnd (f_X12_bad σ (-2)) fun x2 s3 => (some (x2, s3))
def f_X12_of (σ : Sg) (l1 : Int32) (l2 : Int32) : Option (Int32 × Sg) := (f_X12_isKeeper σ l1).bind fun x1 => (if x1 = 0 then b_X12_of_29 l1 l2 σ else (if (f_X12_in (Int32.toInt64 l2) 0 5) = 0 then b_X12_of_29 l1 l2 σ else (f_X12_ofKeeper σ l1 l2).bind fun x4 => (some (x4, σ))))
set_option maxRecDepth 100000 in
set_option maxHeartbeats 4000000 in
theorem q_X12_of_29 {g : Cx} (l1 : Int32) (l2 : Int32) (r : Int32) (τ : Sg) : ∀ σ : Sg, b_X12_of_29 l1 l2 σ = some (r, τ) → V g cX12_of RX12 wsX12_of 3 (some .int) rm_X12_of (some (.int r)) τ σ 29 [(0, .ref (g.1 112))] [] := by
  intro σ h
  unfold b_X12_of_29 at h
  refine v_aload_n 30 0 dX12_of_29 rfl rfl rfl ?_
  refine v_bipush 32 (-2) dX12_of_30 kc_b_m2 rfl ?_
  obtain ⟨x2, s3, h0, h⟩ := ob2 h
  refine v_cV 35 8 [.int (-2)] (rfl : kK 112 = 8) rfl (c_X12_bad (-2) _ _ h0) cl_X12_bad gX12_of_X12_bad rfl ⟨Nat.le_of_ble_eq_true rfl, Nat.le_of_ble_eq_true rfl⟩ rfl rfl (Nat.le_of_ble_eq_true rfl) dX12_of_32 rfl ?_
  exact v_iretS h rfl dX12_of_35
set_option maxRecDepth 100000 in
set_option maxHeartbeats 4000000 in
theorem c_X12_of {g : Cx} {σ : Sg} (l1 : Int32) (l2 : Int32) (r : Int32) (τ : Sg) (h : f_X12_of σ l1 l2 = some (r, τ)) : ∀ l, MetF l yX12_of wsX12_of rm_X12_of g [.ref (g.1 112), .int l1, .int l2] σ (some (.int r)) τ := by
  refine MetF.of (own0 := RX12) (lv0 := [(0, .ref (g.1 112)), (1, .int l1), (2, .int l2)]) rfl cl_X12_of (by decide) (Nat.le_of_ble_eq_true rfl) rfl ?_
  unfold f_X12_of at h
  refine v_aload_n 1 0 dX12_of_0 rfl rfl rfl ?_
  refine v_iload_n 2 1 dX12_of_1 rfl rfl rfl ?_
  obtain ⟨x1, h0, h⟩ := ob h
  refine v_cV 5 8 [.int l1] (rfl : kK 112 = 8) rfl (c_X12_isKeeper l1 _ h0) cl_X12_isKeeper gX12_of_X12_isKeeper rfl ⟨Nat.le_of_ble_eq_true rfl, Nat.le_of_ble_eq_true rfl⟩ rfl rfl (Nat.le_of_ble_eq_true rfl) dX12_of_2 rfl ?_
  refine v_if_eq 8 29 h dX12_of_5 rfl (by decide) (fun h => ?_) (fun h => ?_)
  · refine v_sub [0] rfl ?_
    exact q_X12_of_29 l1 l2 r τ σ h
  · refine v_iload_n 9 2 dX12_of_8 rfl rfl rfl ?_
    refine v_i2l 10 dX12_of_9 rfl ?_
    refine v_lconst 11 0 dX12_of_10 kc_l_0 rfl ?_
    refine v_ldc2 14 5 dX12_of_11 (mem_at 1 rfl) rfl ?_
    refine v_cS 17 [.long (Int32.toInt64 l2), .long 0, .long 5] (c_X12_in (Int32.toInt64 l2) 0 5) cl_X12_in gX12_of_X12_in ⟨Nat.le_of_ble_eq_true rfl, Nat.le_of_ble_eq_true rfl⟩ rfl rfl (Nat.le_of_ble_eq_true rfl) dX12_of_14 rfl ?_
    refine v_if_eq 20 29 h dX12_of_17 rfl (by decide) (fun h => ?_) (fun h => ?_)
    · refine v_sub [0] rfl ?_
      exact q_X12_of_29 l1 l2 r τ σ h
    · refine v_aload_n 21 0 dX12_of_20 rfl rfl rfl ?_
      refine v_iload_n 22 1 dX12_of_21 rfl rfl rfl ?_
      refine v_iload_n 23 2 dX12_of_22 rfl rfl rfl ?_
      obtain ⟨x4, h0, h⟩ := ob h
      refine v_cV 26 8 [.int l1, .int l2] (rfl : kK 112 = 8) rfl (c_X12_ofKeeper l1 l2 _ h0) cl_X12_ofKeeper gX12_of_X12_ofKeeper rfl ⟨Nat.le_of_ble_eq_true rfl, Nat.le_of_ble_eq_true rfl⟩ rfl rfl (Nat.le_of_ble_eq_true rfl) dX12_of_23 rfl ?_
      refine v_goto 35 dX12_of_26 (by decide) ?_
      exact v_iretS h rfl dX12_of_35
-- public int off(int, int);
abbrev rm_X12_off : Room := { frames := 2, cells := 0, slots := 0, locals := 46 }
theorem cl_X12_off : Cl yX12_off wsX12_off cX12_off 6 (some .int) rm_X12_off 2 := ⟨⟨_, rfl⟩, rfl, rfl, by decide +kernel, by decide +kernel, by decide +kernel⟩
theorem in_X12_off_8 : ∀ w ∈ wsX120, w ∈ wsX12_off := fun w h => List.mem_cons_of_mem _ (List.mem_append_right _ h)
def b_X12_off_20 (l1 : Int32) (l2 : Int32) (σ : Sg) : Option (Int32 × Sg) := bnd (f_X12_bad σ (-2)) fun x2 s3 => (some (x2, s3))
def b_X12_off_40 (l1 : Int32) (l2 : Int32) : Nat → Sg → Int32 → Int32 → Option (Int32 × Sg)
  | 0, _, _, _ => none
  | f + 1, σ, l3, l4 => (if 100 ≤ l4 then (some ((-1), σ)) else (if inb (25 + l1) (kLen 113) = true then nam (l3 - (rI σ 113 (ix (25 + l1)))) fun x5 => (if l2 ≤ x5 then (some (l4, σ)) else (if (-l2) < x5 then (if inb (4 + l1) (kLen 113) = true then (if inb 2 (kLen 113) = true then nam (f_X12_goes (rI σ 113 (ix (4 + l1))) l3 ((rI σ 113 (ix 2)) + l4)) fun x6 => nam (l4 + 1) fun x7 => b_X12_off_40 l1 l2 f σ x6 x7 else none) else none) else (some (l4, σ)))) else none))
def f_X12_off (σ : Sg) (l1 : Int32) (l2 : Int32) : Option (Int32 × Sg) := (f_X12_isKeeper σ l1).bind fun x1 => (if x1 = 0 then b_X12_off_20 l1 l2 σ else (if (f_X12_in (Int32.toInt64 l2) 1 99) = 0 then b_X12_off_20 l1 l2 σ else (if inb (18 + l1) (kLen 113) = true then nam (rI σ 113 (ix (18 + l1))) fun x4 => b_X12_off_40 l1 l2 FU σ x4 0 else none)))
set_option maxRecDepth 100000 in
set_option maxHeartbeats 4000000 in
theorem q_X12_off_20 {g : Cx} (l1 : Int32) (l2 : Int32) (r : Int32) (τ : Sg) : ∀ σ : Sg, b_X12_off_20 l1 l2 σ = some (r, τ) → V g cX12_off RX12 wsX12_off 6 (some .int) rm_X12_off (some (.int r)) τ σ 20 [(0, .ref (g.1 112))] [] := by
  intro σ h
  unfold b_X12_off_20 at h
  refine v_aload_n 21 0 dX12_off_20 rfl rfl rfl ?_
  refine v_bipush 23 (-2) dX12_off_21 kc_b_m2 rfl ?_
  obtain ⟨x2, s3, h0, h⟩ := ob2 h
  refine v_cV 26 8 [.int (-2)] (rfl : kK 112 = 8) rfl (c_X12_bad (-2) _ _ h0) cl_X12_bad gX12_off_X12_bad rfl ⟨Nat.le_of_ble_eq_true rfl, Nat.le_of_ble_eq_true rfl⟩ rfl rfl (Nat.le_of_ble_eq_true rfl) dX12_off_23 rfl ?_
  exact v_iretS h rfl dX12_off_26
set_option maxRecDepth 100000 in
set_option maxHeartbeats 4000000 in
theorem q_X12_off_40 {g : Cx} (l1 : Int32) (l2 : Int32) (r : Int32) (τ : Sg) : ∀ f : Nat, ∀ σ : Sg, ∀ l3 : Int32, ∀ l4 : Int32, b_X12_off_40 l1 l2 f σ l3 l4 = some (r, τ) → V g cX12_off RX12 wsX12_off 6 (some .int) rm_X12_off (some (.int r)) τ σ 40 [(0, .ref (g.1 112)), (1, .int l1), (2, .int l2), (3, .int l3), (4, .int l4)] [] := by
  intro f
  induction f with
  | zero =>
    intro σ l3 l4 h
    cases h
  | succ f ih =>
    intro σ l3 l4 h
    rw [b_X12_off_40] at h
    refine v_iload 42 4 dX12_off_40 rfl rfl ?_
    refine v_bipush 44 100 dX12_off_42 kc_b_100 rfl ?_
    refine v_icmp_ge 47 104 h dX12_off_44 rfl (by decide) (fun h => ?_) (fun h => ?_)
    · refine v_iconst 105 (-1) dX12_off_104 kc_i_m1 rfl ?_
      exact v_iretS h rfl dX12_off_105
    · refine v_iload_n 48 3 dX12_off_47 rfl rfl rfl ?_
      refine v_aload_n 49 0 dX12_off_48 rfl rfl rfl ?_
      refine vg_8_0 52 (rfl : kK 112 = 8) in_X12_off_8 (mem_at 2 rfl) dX12_off_49 rfl ?_
      refine v_bipush 54 25 dX12_off_52 kc_b_25 rfl ?_
      refine v_iload_n 55 1 dX12_off_54 rfl rfl rfl ?_
      refine v_iadd 56 dX12_off_55 rfl ?_
      refine v_iald 57 h (rfl : kK 113 = 9) dX12_off_56 rfl (fun h => ?_)
      refine v_isub 58 dX12_off_57 rfl ?_
      refine v_istoreN 60 h dX12_off_58 (by decide) rfl (fun _ => rfl) (fun x5 h => ?_)
      refine v_iload 62 0 dX12_off_60 rfl rfl ?_
      refine v_iload_n 63 3 dX12_off_62 rfl rfl rfl ?_
      refine v_icmp_ge 66 73 h dX12_off_63 rfl (by decide) (fun h => ?_) (fun h => ?_)
      · refine v_iload 75 5 dX12_off_73 rfl rfl ?_
        exact v_iretS h rfl dX12_off_75
      · refine v_iload 68 0 dX12_off_66 rfl rfl ?_
        refine v_iload_n 69 3 dX12_off_68 rfl rfl rfl ?_
        refine v_ineg 70 dX12_off_69 rfl ?_
        refine v_icmp_gt 73 76 h dX12_off_70 rfl (by decide) (fun h => ?_) (fun h => ?_)
        · refine v_aload_n 77 1 dX12_off_76 rfl rfl rfl ?_
          refine vg_8_0 80 (rfl : kK 112 = 8) in_X12_off_8 (mem_at 2 rfl) dX12_off_77 rfl ?_
          refine v_iconst 81 4 dX12_off_80 kc_i_4 rfl ?_
          refine v_iload_n 82 2 dX12_off_81 rfl rfl rfl ?_
          refine v_iadd 83 dX12_off_82 rfl ?_
          refine v_iald 84 h (rfl : kK 113 = 9) dX12_off_83 rfl (fun h => ?_)
          refine v_iload_n 85 4 dX12_off_84 rfl rfl rfl ?_
          refine v_aload_n 86 1 dX12_off_85 rfl rfl rfl ?_
          refine vg_8_0 89 (rfl : kK 112 = 8) in_X12_off_8 (mem_at 2 rfl) dX12_off_86 rfl ?_
          refine v_iconst 90 2 dX12_off_89 kc_i_2 rfl ?_
          refine v_iald 91 h (rfl : kK 113 = 9) dX12_off_90 rfl (fun h => ?_)
          refine v_iload 93 5 dX12_off_91 rfl rfl ?_
          refine v_iadd 94 dX12_off_93 rfl ?_
          refine v_cS 97 [.int (rI σ 113 (ix (4 + l1))), .int l3, .int ((rI σ 113 (ix 2)) + l4)] (c_X12_goes (rI σ 113 (ix (4 + l1))) l3 ((rI σ 113 (ix 2)) + l4)) cl_X12_goes gX12_off_X12_goes ⟨Nat.le_of_ble_eq_true rfl, Nat.le_of_ble_eq_true rfl⟩ rfl rfl (Nat.le_of_ble_eq_true rfl) dX12_off_94 rfl ?_
          refine v_istoreN_n 98 h dX12_off_97 rfl (by decide) rfl (fun _ => rfl) (fun x6 h => ?_)
          refine v_iincN 101 5 h dX12_off_98 rfl kc_i_1 (by decide) rfl (fun _ => rfl) (fun x7 h => ?_)
          refine v_goto 40 dX12_off_101 (by decide) ?_
          refine v_sub [3, 4, 5, 1, 0] rfl ?_
          exact ih σ x6 x7 h
        · refine v_iload 75 5 dX12_off_73 rfl rfl ?_
          exact v_iretS h rfl dX12_off_75
set_option maxRecDepth 100000 in
set_option maxHeartbeats 4000000 in
theorem c_X12_off {g : Cx} {σ : Sg} (l1 : Int32) (l2 : Int32) (r : Int32) (τ : Sg) (h : f_X12_off σ l1 l2 = some (r, τ)) : ∀ l, MetF l yX12_off wsX12_off rm_X12_off g [.ref (g.1 112), .int l1, .int l2] σ (some (.int r)) τ := by
  refine MetF.of (own0 := RX12) (lv0 := [(0, .ref (g.1 112)), (1, .int l1), (2, .int l2)]) rfl cl_X12_off (by decide) (Nat.le_of_ble_eq_true rfl) rfl ?_
  unfold f_X12_off at h
  refine v_aload_n 1 0 dX12_off_0 rfl rfl rfl ?_
  refine v_iload_n 2 1 dX12_off_1 rfl rfl rfl ?_
  obtain ⟨x1, h0, h⟩ := ob h
  refine v_cV 5 8 [.int l1] (rfl : kK 112 = 8) rfl (c_X12_isKeeper l1 _ h0) cl_X12_isKeeper gX12_off_X12_isKeeper rfl ⟨Nat.le_of_ble_eq_true rfl, Nat.le_of_ble_eq_true rfl⟩ rfl rfl (Nat.le_of_ble_eq_true rfl) dX12_off_2 rfl ?_
  refine v_if_eq 8 20 h dX12_off_5 rfl (by decide) (fun h => ?_) (fun h => ?_)
  · refine v_sub [0] rfl ?_
    exact q_X12_off_20 l1 l2 r τ σ h
  · refine v_iload_n 9 2 dX12_off_8 rfl rfl rfl ?_
    refine v_i2l 10 dX12_off_9 rfl ?_
    refine v_lconst 11 1 dX12_off_10 kc_l_1 rfl ?_
    refine v_ldc2 14 99 dX12_off_11 (mem_at 1 rfl) rfl ?_
    refine v_cS 17 [.long (Int32.toInt64 l2), .long 1, .long 99] (c_X12_in (Int32.toInt64 l2) 1 99) cl_X12_in gX12_off_X12_in ⟨Nat.le_of_ble_eq_true rfl, Nat.le_of_ble_eq_true rfl⟩ rfl rfl (Nat.le_of_ble_eq_true rfl) dX12_off_14 rfl ?_
    refine v_if_ne 20 27 h dX12_off_17 rfl (by decide) (fun h => ?_) (fun h => ?_)
    · refine v_aload_n 28 0 dX12_off_27 rfl rfl rfl ?_
      refine vg_8_0 31 (rfl : kK 112 = 8) in_X12_off_8 (mem_at 2 rfl) dX12_off_28 rfl ?_
      refine v_bipush 33 18 dX12_off_31 kc_b_18 rfl ?_
      refine v_iload_n 34 1 dX12_off_33 rfl rfl rfl ?_
      refine v_iadd 35 dX12_off_34 rfl ?_
      refine v_iald 36 h (rfl : kK 113 = 9) dX12_off_35 rfl (fun h => ?_)
      refine v_istoreN_n 37 h dX12_off_36 rfl (by decide) rfl (fun _ => rfl) (fun x4 h => ?_)
      refine v_iconst 38 0 dX12_off_37 kc_i_0 rfl ?_
      refine v_istore 40 dX12_off_38 (by decide) rfl rfl ?_
      refine v_sub [2, 3, 4, 1, 0] rfl ?_
      exact q_X12_off_40 l1 l2 r τ FU σ x4 0 h
    · refine v_sub [0] rfl ?_
      exact q_X12_off_20 l1 l2 r τ σ h
-- public long part(int);
abbrev rm_X12_part : Room := { frames := 1, cells := 0, slots := 0, locals := 21 }
theorem cl_X12_part : Cl yX12_part wsX12_part cX12_part 2 (some .long) rm_X12_part 1 := ⟨⟨_, rfl⟩, rfl, rfl, by decide +kernel, by decide +kernel, by decide +kernel⟩
theorem in_X12_part_8 : ∀ w ∈ wsX120, w ∈ wsX12_part := fun w h => List.mem_cons_of_mem _ (List.mem_append_right _ h)
def f_X12_part (σ : Sg) (l1 : Int32) : Option (Int64 × Sg) := (if l1 = 0 then (some (rL σ 112 4, σ)) else (if l1 = 1 then (some (rL σ 112 5, σ)) else bnd (f_X12_bad σ (-2)) fun x1 s2 => (some (Int32.toInt64 x1, s2))))
set_option maxRecDepth 100000 in
set_option maxHeartbeats 4000000 in
theorem c_X12_part {g : Cx} {σ : Sg} (l1 : Int32) (r : Int64) (τ : Sg) (h : f_X12_part σ l1 = some (r, τ)) : ∀ l, MetF l yX12_part wsX12_part rm_X12_part g [.ref (g.1 112), .int l1] σ (some (.long r)) τ := by
  refine MetF.of (own0 := RX12) (lv0 := [(0, .ref (g.1 112)), (1, .int l1)]) rfl cl_X12_part (by decide) (Nat.le_of_ble_eq_true rfl) rfl ?_
  unfold f_X12_part at h
  refine v_iload_n 1 1 dX12_part_0 rfl rfl rfl ?_
  refine v_if_ne 4 11 h dX12_part_1 rfl (by decide) (fun h => ?_) (fun h => ?_)
  · refine v_iload_n 12 1 dX12_part_11 rfl rfl rfl ?_
    refine v_iconst 13 1 dX12_part_12 kc_i_1 rfl ?_
    refine v_icmp_ne 16 23 h dX12_part_13 rfl (by decide) (fun h => ?_) (fun h => ?_)
    · refine v_aload_n 24 0 dX12_part_23 rfl rfl rfl ?_
      refine v_bipush 26 (-2) dX12_part_24 kc_b_m2 rfl ?_
      obtain ⟨x1, s2, h0, h⟩ := ob2 h
      refine v_cV 29 8 [.int (-2)] (rfl : kK 112 = 8) rfl (c_X12_bad (-2) _ _ h0) cl_X12_bad gX12_part_X12_bad rfl ⟨Nat.le_of_ble_eq_true rfl, Nat.le_of_ble_eq_true rfl⟩ rfl rfl (Nat.le_of_ble_eq_true rfl) dX12_part_26 rfl ?_
      refine v_i2l 30 dX12_part_29 rfl ?_
      exact v_lretS h rfl dX12_part_30
    · refine v_aload_n 17 0 dX12_part_16 rfl rfl rfl ?_
      refine vg_8_5 20 (rfl : kK 112 = 8) in_X12_part_8 (mem_at 2 rfl) dX12_part_17 rfl ?_
      refine v_goto 30 dX12_part_20 (by decide) ?_
      exact v_lretS h rfl dX12_part_30
  · refine v_aload_n 5 0 dX12_part_4 rfl rfl rfl ?_
    refine vg_8_4 8 (rfl : kK 112 = 8) in_X12_part_8 (mem_at 1 rfl) dX12_part_5 rfl ?_
    refine v_goto 30 dX12_part_8 (by decide) ?_
    exact v_lretS h rfl dX12_part_30
-- private void takesWord();
abbrev rm_X12_takesWord : Room := { frames := 2, cells := 0, slots := 0, locals := 41 }
theorem cl_X12_takesWord : Cl yX12_takesWord wsX12_takesWord cX12_takesWord 1 none rm_X12_takesWord 0 := ⟨⟨_, rfl⟩, rfl, rfl, by decide +kernel, by decide +kernel, by decide +kernel⟩
theorem in_X12_takesWord_8 : ∀ w ∈ wsX120, w ∈ wsX12_takesWord := fun w h => List.mem_cons_of_mem _ (List.mem_append_right _ h)
def b_X12_takesWord_4 : Nat → Sg → Option Sg
  | 0, _ => none
  | f + 1, σ => (f_X12_byteAt σ (rI σ 112 7)).bind fun x2 => (if (f_X12_in (Int32.toInt64 x2) 97 122) = 0 then (some σ) else nam (stI σ 112 7 ((rI σ 112 7) + 1)) fun s3 => b_X12_takesWord_4 f s3)
def f_X12_takesWord (σ : Sg) : Option Sg := (f_X12_blanks σ).bind fun s1 => b_X12_takesWord_4 FU s1
set_option maxRecDepth 100000 in
set_option maxHeartbeats 4000000 in
theorem q_X12_takesWord_4 {g : Cx} (τ : Sg) : ∀ f : Nat, ∀ σ : Sg, b_X12_takesWord_4 f σ = some τ → V g cX12_takesWord RX12 wsX12_takesWord 1 none rm_X12_takesWord none τ σ 4 [(0, .ref (g.1 112))] [] := by
  intro f
  induction f with
  | zero =>
    intro σ h
    cases h
  | succ f ih =>
    intro σ h
    rw [b_X12_takesWord_4] at h
    refine v_aload_n 5 0 dX12_takesWord_4 rfl rfl rfl ?_
    refine v_aload_n 6 0 dX12_takesWord_5 rfl rfl rfl ?_
    refine vg_8_7 9 (rfl : kK 112 = 8) in_X12_takesWord_8 (mem_at 1 rfl) dX12_takesWord_6 rfl ?_
    obtain ⟨x2, h0, h⟩ := ob h
    refine v_cV 12 8 [.int (rI σ 112 7)] (rfl : kK 112 = 8) rfl (c_X12_byteAt (rI σ 112 7) _ h0) cl_X12_byteAt gX12_takesWord_X12_byteAt rfl ⟨Nat.le_of_ble_eq_true rfl, Nat.le_of_ble_eq_true rfl⟩ rfl rfl (Nat.le_of_ble_eq_true rfl) dX12_takesWord_9 rfl ?_
    refine v_i2l 13 dX12_takesWord_12 rfl ?_
    refine v_ldc2 16 97 dX12_takesWord_13 (mem_at 2 rfl) rfl ?_
    refine v_ldc2 19 122 dX12_takesWord_16 (mem_at 3 rfl) rfl ?_
    refine v_cS 22 [.long (Int32.toInt64 x2), .long 97, .long 122] (c_X12_in (Int32.toInt64 x2) 97 122) cl_X12_in gX12_takesWord_X12_in ⟨Nat.le_of_ble_eq_true rfl, Nat.le_of_ble_eq_true rfl⟩ rfl rfl (Nat.le_of_ble_eq_true rfl) dX12_takesWord_19 rfl ?_
    refine v_if_eq 25 38 h dX12_takesWord_22 rfl (by decide) (fun h => ?_) (fun h => ?_)
    · exact v_vretS h rfl dX12_takesWord_38
    · refine v_aload_n 26 0 dX12_takesWord_25 rfl rfl rfl ?_
      refine v_dup 27 dX12_takesWord_26 rfl rfl ?_
      refine vg_8_7 30 (rfl : kK 112 = 8) in_X12_takesWord_8 (mem_at 1 rfl) dX12_takesWord_27 rfl ?_
      refine v_iconst 31 1 dX12_takesWord_30 kc_i_1 rfl ?_
      refine v_iadd 32 dX12_takesWord_31 rfl ?_
      refine vp_8_7 35 h (rfl : kK 112 = 8) in_X12_takesWord_8 (mem_at 1 rfl) dX12_takesWord_32 rfl (fun s3 h => ?_)
      refine v_goto 4 dX12_takesWord_35 (by decide) ?_
      refine v_sub [0] rfl ?_
      exact ih s3 h
set_option maxRecDepth 100000 in
set_option maxHeartbeats 4000000 in
theorem c_X12_takesWord {g : Cx} {σ : Sg} (τ : Sg) (h : f_X12_takesWord σ = some τ) : ∀ l, MetF l yX12_takesWord wsX12_takesWord rm_X12_takesWord g [.ref (g.1 112)] σ none τ := by
  refine MetF.of (own0 := RX12) (lv0 := [(0, .ref (g.1 112))]) rfl cl_X12_takesWord (by decide) (Nat.le_of_ble_eq_true rfl) rfl ?_
  unfold f_X12_takesWord at h
  refine v_aload_n 1 0 dX12_takesWord_0 rfl rfl rfl ?_
  obtain ⟨s1, h0, h⟩ := ob h
  refine v_cV 4 8 [] (rfl : kK 112 = 8) rfl (c_X12_blanks _ h0) cl_X12_blanks gX12_takesWord_X12_blanks rfl ⟨Nat.le_of_ble_eq_true rfl, Nat.le_of_ble_eq_true rfl⟩ rfl rfl (Nat.le_of_ble_eq_true rfl) dX12_takesWord_1 rfl ?_
  refine v_sub [0] rfl ?_
  exact q_X12_takesWord_4 τ FU s1 h
-- private int wordOf();
abbrev rm_X12_wordOf : Room := { frames := 2, cells := 0, slots := 0, locals := 51 }
theorem cl_X12_wordOf : Cl yX12_wordOf wsX12_wordOf cX12_wordOf 1 (some .int) rm_X12_wordOf 0 := ⟨⟨_, rfl⟩, rfl, rfl, by decide +kernel, by decide +kernel, by decide +kernel⟩
def f_X12_wordOf (σ : Sg) : Option Int32 := (f_X12_isWord σ 109 97 114 107 101 116 0).bind fun x1 => (if x1 = 0 then (f_X12_isWord σ 107 101 101 112 101 114 0).bind fun x2 => (if x2 = 0 then (f_X12_isWord σ 109 111 111 100 0 0 0).bind fun x3 => (if x3 = 0 then (f_X12_isWord σ 98 97 108 97 110 99 101).bind fun x4 => (if x4 = 0 then (f_X12_isWord σ 100 97 121 115 0 0 0).bind fun x5 => (if x5 = 0 then (some (0)) else (some (5))) else (some (4))) else (some (3))) else (some (2))) else (some (1)))
set_option maxRecDepth 100000 in
set_option maxHeartbeats 4000000 in
theorem c_X12_wordOf {g : Cx} {σ : Sg} (r : Int32) (h : f_X12_wordOf σ = some r) : ∀ l, MetF l yX12_wordOf wsX12_wordOf rm_X12_wordOf g [.ref (g.1 112)] σ (some (.int r)) σ := by
  refine MetF.of (own0 := RX12) (lv0 := [(0, .ref (g.1 112))]) rfl cl_X12_wordOf (by decide) (Nat.le_of_ble_eq_true rfl) rfl ?_
  unfold f_X12_wordOf at h
  refine v_aload_n 1 0 dX12_wordOf_0 rfl rfl rfl ?_
  refine v_bipush 3 109 dX12_wordOf_1 kc_b_109 rfl ?_
  refine v_bipush 5 97 dX12_wordOf_3 kc_b_97 rfl ?_
  refine v_bipush 7 114 dX12_wordOf_5 kc_b_114 rfl ?_
  refine v_bipush 9 107 dX12_wordOf_7 kc_b_107 rfl ?_
  refine v_bipush 11 101 dX12_wordOf_9 kc_b_101 rfl ?_
  refine v_bipush 13 116 dX12_wordOf_11 kc_b_116 rfl ?_
  refine v_iconst 14 0 dX12_wordOf_13 kc_i_0 rfl ?_
  obtain ⟨x1, h0, h⟩ := ob h
  refine v_cV 17 8 [.int 109, .int 97, .int 114, .int 107, .int 101, .int 116, .int 0] (rfl : kK 112 = 8) rfl (c_X12_isWord 109 97 114 107 101 116 0 _ h0) cl_X12_isWord gX12_wordOf_X12_isWord rfl ⟨Nat.le_of_ble_eq_true rfl, Nat.le_of_ble_eq_true rfl⟩ rfl rfl (Nat.le_of_ble_eq_true rfl) dX12_wordOf_14 rfl ?_
  refine v_if_eq 20 24 h dX12_wordOf_17 rfl (by decide) (fun h => ?_) (fun h => ?_)
  · refine v_aload_n 25 0 dX12_wordOf_24 rfl rfl rfl ?_
    refine v_bipush 27 107 dX12_wordOf_25 kc_b_107 rfl ?_
    refine v_bipush 29 101 dX12_wordOf_27 kc_b_101 rfl ?_
    refine v_bipush 31 101 dX12_wordOf_29 kc_b_101 rfl ?_
    refine v_bipush 33 112 dX12_wordOf_31 kc_b_112 rfl ?_
    refine v_bipush 35 101 dX12_wordOf_33 kc_b_101 rfl ?_
    refine v_bipush 37 114 dX12_wordOf_35 kc_b_114 rfl ?_
    refine v_iconst 38 0 dX12_wordOf_37 kc_i_0 rfl ?_
    obtain ⟨x2, h0, h⟩ := ob h
    refine v_cV 41 8 [.int 107, .int 101, .int 101, .int 112, .int 101, .int 114, .int 0] (rfl : kK 112 = 8) rfl (c_X12_isWord 107 101 101 112 101 114 0 _ h0) cl_X12_isWord gX12_wordOf_X12_isWord rfl ⟨Nat.le_of_ble_eq_true rfl, Nat.le_of_ble_eq_true rfl⟩ rfl rfl (Nat.le_of_ble_eq_true rfl) dX12_wordOf_38 rfl ?_
    refine v_if_eq 44 48 h dX12_wordOf_41 rfl (by decide) (fun h => ?_) (fun h => ?_)
    · refine v_aload_n 49 0 dX12_wordOf_48 rfl rfl rfl ?_
      refine v_bipush 51 109 dX12_wordOf_49 kc_b_109 rfl ?_
      refine v_bipush 53 111 dX12_wordOf_51 kc_b_111 rfl ?_
      refine v_bipush 55 111 dX12_wordOf_53 kc_b_111 rfl ?_
      refine v_bipush 57 100 dX12_wordOf_55 kc_b_100 rfl ?_
      refine v_iconst 58 0 dX12_wordOf_57 kc_i_0 rfl ?_
      refine v_iconst 59 0 dX12_wordOf_58 kc_i_0 rfl ?_
      refine v_iconst 60 0 dX12_wordOf_59 kc_i_0 rfl ?_
      obtain ⟨x3, h0, h⟩ := ob h
      refine v_cV 63 8 [.int 109, .int 111, .int 111, .int 100, .int 0, .int 0, .int 0] (rfl : kK 112 = 8) rfl (c_X12_isWord 109 111 111 100 0 0 0 _ h0) cl_X12_isWord gX12_wordOf_X12_isWord rfl ⟨Nat.le_of_ble_eq_true rfl, Nat.le_of_ble_eq_true rfl⟩ rfl rfl (Nat.le_of_ble_eq_true rfl) dX12_wordOf_60 rfl ?_
      refine v_if_eq 66 70 h dX12_wordOf_63 rfl (by decide) (fun h => ?_) (fun h => ?_)
      · refine v_aload_n 71 0 dX12_wordOf_70 rfl rfl rfl ?_
        refine v_bipush 73 98 dX12_wordOf_71 kc_b_98 rfl ?_
        refine v_bipush 75 97 dX12_wordOf_73 kc_b_97 rfl ?_
        refine v_bipush 77 108 dX12_wordOf_75 kc_b_108 rfl ?_
        refine v_bipush 79 97 dX12_wordOf_77 kc_b_97 rfl ?_
        refine v_bipush 81 110 dX12_wordOf_79 kc_b_110 rfl ?_
        refine v_bipush 83 99 dX12_wordOf_81 kc_b_99 rfl ?_
        refine v_bipush 85 101 dX12_wordOf_83 kc_b_101 rfl ?_
        obtain ⟨x4, h0, h⟩ := ob h
        refine v_cV 88 8 [.int 98, .int 97, .int 108, .int 97, .int 110, .int 99, .int 101] (rfl : kK 112 = 8) rfl (c_X12_isWord 98 97 108 97 110 99 101 _ h0) cl_X12_isWord gX12_wordOf_X12_isWord rfl ⟨Nat.le_of_ble_eq_true rfl, Nat.le_of_ble_eq_true rfl⟩ rfl rfl (Nat.le_of_ble_eq_true rfl) dX12_wordOf_85 rfl ?_
        refine v_if_eq 91 95 h dX12_wordOf_88 rfl (by decide) (fun h => ?_) (fun h => ?_)
        · refine v_aload_n 96 0 dX12_wordOf_95 rfl rfl rfl ?_
          refine v_bipush 98 100 dX12_wordOf_96 kc_b_100 rfl ?_
          refine v_bipush 100 97 dX12_wordOf_98 kc_b_97 rfl ?_
          refine v_bipush 102 121 dX12_wordOf_100 kc_b_121 rfl ?_
          refine v_bipush 104 115 dX12_wordOf_102 kc_b_115 rfl ?_
          refine v_iconst 105 0 dX12_wordOf_104 kc_i_0 rfl ?_
          refine v_iconst 106 0 dX12_wordOf_105 kc_i_0 rfl ?_
          refine v_iconst 107 0 dX12_wordOf_106 kc_i_0 rfl ?_
          obtain ⟨x5, h0, h⟩ := ob h
          refine v_cV 110 8 [.int 100, .int 97, .int 121, .int 115, .int 0, .int 0, .int 0] (rfl : kK 112 = 8) rfl (c_X12_isWord 100 97 121 115 0 0 0 _ h0) cl_X12_isWord gX12_wordOf_X12_isWord rfl ⟨Nat.le_of_ble_eq_true rfl, Nat.le_of_ble_eq_true rfl⟩ rfl rfl (Nat.le_of_ble_eq_true rfl) dX12_wordOf_107 rfl ?_
          refine v_if_eq 113 117 h dX12_wordOf_110 rfl (by decide) (fun h => ?_) (fun h => ?_)
          · refine v_iconst 118 0 dX12_wordOf_117 kc_i_0 rfl ?_
            exact v_iretP h rfl dX12_wordOf_118
          · refine v_iconst 114 5 dX12_wordOf_113 kc_i_5 rfl ?_
            refine v_goto 118 dX12_wordOf_114 (by decide) ?_
            exact v_iretP h rfl dX12_wordOf_118
        · refine v_iconst 92 4 dX12_wordOf_91 kc_i_4 rfl ?_
          refine v_goto 118 dX12_wordOf_92 (by decide) ?_
          exact v_iretP h rfl dX12_wordOf_118
      · refine v_iconst 67 3 dX12_wordOf_66 kc_i_3 rfl ?_
        refine v_goto 118 dX12_wordOf_67 (by decide) ?_
        exact v_iretP h rfl dX12_wordOf_118
    · refine v_iconst 45 2 dX12_wordOf_44 kc_i_2 rfl ?_
      refine v_goto 118 dX12_wordOf_45 (by decide) ?_
      exact v_iretP h rfl dX12_wordOf_118
  · refine v_iconst 21 1 dX12_wordOf_20 kc_i_1 rfl ?_
    refine v_goto 118 dX12_wordOf_21 (by decide) ?_
    exact v_iretP h rfl dX12_wordOf_118
-- private boolean takesNumber(int, int);
abbrev rm_X12_takesNumber : Room := { frames := 2, cells := 0, slots := 0, locals := 41 }
theorem cl_X12_takesNumber : Cl yX12_takesNumber wsX12_takesNumber cX12_takesNumber 3 (some .boolean) rm_X12_takesNumber 2 := ⟨⟨_, rfl⟩, rfl, rfl, by decide +kernel, by decide +kernel, by decide +kernel⟩
theorem in_X12_takesNumber_8 : ∀ w ∈ wsX120, w ∈ wsX12_takesNumber := fun w h => List.mem_cons_of_mem _ (List.mem_append_right _ h)
def b_X12_takesNumber_70 (l1 : Int32) (l2 : Int32) (c9 : Sg → Option (Int32 × Sg)) (σ : Sg) (t0 : Int32) : Option (Int32 × Sg) := nam (stI σ 112 9 t0) fun s4 => nam (stI s4 112 7 ((rI s4 112 7) + 1)) fun s5 => c9 s5
def b_X12_takesNumber_9 (l1 : Int32) (l2 : Int32) : Nat → Sg → Option (Int32 × Sg)
  | 0, _ => none
  | f + 1, σ => (f_X12_byteAt σ (rI σ 112 7)).bind fun x3 => (if (f_X12_in (Int32.toInt64 x3) 48 57) = 0 then (if (f_X12_in (Int32.toInt64 ((rI σ 112 7) - (rI σ 112 8))) 1 2) = 0 then (some (0, σ)) else (if (f_X12_in (Int32.toInt64 (rI σ 112 9)) (Int32.toInt64 l1) (Int32.toInt64 l2)) = 0 then (some (0, σ)) else (some (1, σ)))) else (if 2 ≤ ((rI σ 112 7) - (rI σ 112 8)) then b_X12_takesNumber_70 l1 l2 (b_X12_takesNumber_9 l1 l2 f) σ (rI σ 112 9) else (f_X12_byteAt σ (rI σ 112 7)).bind fun x6 => b_X12_takesNumber_70 l1 l2 (b_X12_takesNumber_9 l1 l2 f) σ (((10 * (rI σ 112 9)) + x6) - 48)))
def f_X12_takesNumber (σ : Sg) (l1 : Int32) (l2 : Int32) : Option (Int32 × Sg) := (f_X12_blanks σ).bind fun s1 => nam (stI s1 112 9 0) fun s2 => b_X12_takesNumber_9 l1 l2 FU s2
set_option maxRecDepth 100000 in
set_option maxHeartbeats 4000000 in
theorem q_X12_takesNumber_70 {g : Cx} (l1 : Int32) (l2 : Int32) (r : Int32) (τ : Sg) (c9 : Sg → Option (Int32 × Sg)) (hc9 : ∀ σ : Sg, c9 σ = some (r, τ) → V g cX12_takesNumber RX12 wsX12_takesNumber 3 (some .boolean) rm_X12_takesNumber (some (.int r)) τ σ 9 [(0, .ref (g.1 112)), (1, .int l1), (2, .int l2)] []) : ∀ σ : Sg, ∀ t0 : Int32, b_X12_takesNumber_70 l1 l2 c9 σ t0 = some (r, τ) → V g cX12_takesNumber RX12 wsX12_takesNumber 3 (some .boolean) rm_X12_takesNumber (some (.int r)) τ σ 70 [(0, .ref (g.1 112)), (1, .int l1), (2, .int l2)] [.int t0, .ref (g.1 112)] := by
  intro σ t0 h
  unfold b_X12_takesNumber_70 at h
  refine vp_8_9 73 h (rfl : kK 112 = 8) in_X12_takesNumber_8 (mem_at 1 rfl) dX12_takesNumber_70 rfl (fun s4 h => ?_)
  refine v_aload_n 74 0 dX12_takesNumber_73 rfl rfl rfl ?_
  refine v_dup 75 dX12_takesNumber_74 rfl rfl ?_
  refine vg_8_7 78 (rfl : kK 112 = 8) in_X12_takesNumber_8 (mem_at 2 rfl) dX12_takesNumber_75 rfl ?_
  refine v_iconst 79 1 dX12_takesNumber_78 kc_i_1 rfl ?_
  refine v_iadd 80 dX12_takesNumber_79 rfl ?_
  refine vp_8_7 83 h (rfl : kK 112 = 8) in_X12_takesNumber_8 (mem_at 2 rfl) dX12_takesNumber_80 rfl (fun s5 h => ?_)
  refine v_goto 9 dX12_takesNumber_83 (by decide) ?_
  refine v_sub [0, 1, 2] rfl ?_
  exact hc9 s5 h
set_option maxRecDepth 100000 in
set_option maxHeartbeats 4000000 in
theorem q_X12_takesNumber_9 {g : Cx} (l1 : Int32) (l2 : Int32) (r : Int32) (τ : Sg) : ∀ f : Nat, ∀ σ : Sg, b_X12_takesNumber_9 l1 l2 f σ = some (r, τ) → V g cX12_takesNumber RX12 wsX12_takesNumber 3 (some .boolean) rm_X12_takesNumber (some (.int r)) τ σ 9 [(0, .ref (g.1 112)), (1, .int l1), (2, .int l2)] [] := by
  intro f
  induction f with
  | zero =>
    intro σ h
    cases h
  | succ f ih =>
    intro σ h
    rw [b_X12_takesNumber_9] at h
    refine v_aload_n 10 0 dX12_takesNumber_9 rfl rfl rfl ?_
    refine v_aload_n 11 0 dX12_takesNumber_10 rfl rfl rfl ?_
    refine vg_8_7 14 (rfl : kK 112 = 8) in_X12_takesNumber_8 (mem_at 2 rfl) dX12_takesNumber_11 rfl ?_
    obtain ⟨x3, h0, h⟩ := ob h
    refine v_cV 17 8 [.int (rI σ 112 7)] (rfl : kK 112 = 8) rfl (c_X12_byteAt (rI σ 112 7) _ h0) cl_X12_byteAt gX12_takesNumber_X12_byteAt rfl ⟨Nat.le_of_ble_eq_true rfl, Nat.le_of_ble_eq_true rfl⟩ rfl rfl (Nat.le_of_ble_eq_true rfl) dX12_takesNumber_14 rfl ?_
    refine v_i2l 18 dX12_takesNumber_17 rfl ?_
    refine v_ldc2 21 48 dX12_takesNumber_18 (mem_at 3 rfl) rfl ?_
    refine v_ldc2 24 57 dX12_takesNumber_21 (mem_at 4 rfl) rfl ?_
    refine v_cS 27 [.long (Int32.toInt64 x3), .long 48, .long 57] (c_X12_in (Int32.toInt64 x3) 48 57) cl_X12_in gX12_takesNumber_X12_in ⟨Nat.le_of_ble_eq_true rfl, Nat.le_of_ble_eq_true rfl⟩ rfl rfl (Nat.le_of_ble_eq_true rfl) dX12_takesNumber_24 rfl ?_
    refine v_if_eq 30 86 h dX12_takesNumber_27 rfl (by decide) (fun h => ?_) (fun h => ?_)
    · refine v_aload_n 87 0 dX12_takesNumber_86 rfl rfl rfl ?_
      refine vg_8_7 90 (rfl : kK 112 = 8) in_X12_takesNumber_8 (mem_at 2 rfl) dX12_takesNumber_87 rfl ?_
      refine v_aload_n 91 0 dX12_takesNumber_90 rfl rfl rfl ?_
      refine vg_8_8 94 (rfl : kK 112 = 8) in_X12_takesNumber_8 (mem_at 5 rfl) dX12_takesNumber_91 rfl ?_
      refine v_isub 95 dX12_takesNumber_94 rfl ?_
      refine v_i2l 96 dX12_takesNumber_95 rfl ?_
      refine v_lconst 97 1 dX12_takesNumber_96 kc_l_1 rfl ?_
      refine v_ldc2 100 2 dX12_takesNumber_97 (mem_at 6 rfl) rfl ?_
      refine v_cS 103 [.long (Int32.toInt64 ((rI σ 112 7) - (rI σ 112 8))), .long 1, .long 2] (c_X12_in (Int32.toInt64 ((rI σ 112 7) - (rI σ 112 8))) 1 2) cl_X12_in gX12_takesNumber_X12_in ⟨Nat.le_of_ble_eq_true rfl, Nat.le_of_ble_eq_true rfl⟩ rfl rfl (Nat.le_of_ble_eq_true rfl) dX12_takesNumber_100 rfl ?_
      refine v_if_eq 106 125 h dX12_takesNumber_103 rfl (by decide) (fun h => ?_) (fun h => ?_)
      · refine v_iconst 126 0 dX12_takesNumber_125 kc_i_0 rfl ?_
        exact v_zretS h rfl (Or.inl rfl) dX12_takesNumber_126
      · refine v_aload_n 107 0 dX12_takesNumber_106 rfl rfl rfl ?_
        refine vg_8_9 110 (rfl : kK 112 = 8) in_X12_takesNumber_8 (mem_at 1 rfl) dX12_takesNumber_107 rfl ?_
        refine v_i2l 111 dX12_takesNumber_110 rfl ?_
        refine v_iload_n 112 1 dX12_takesNumber_111 rfl rfl rfl ?_
        refine v_i2l 113 dX12_takesNumber_112 rfl ?_
        refine v_iload_n 114 2 dX12_takesNumber_113 rfl rfl rfl ?_
        refine v_i2l 115 dX12_takesNumber_114 rfl ?_
        refine v_cS 118 [.long (Int32.toInt64 (rI σ 112 9)), .long (Int32.toInt64 l1), .long (Int32.toInt64 l2)] (c_X12_in (Int32.toInt64 (rI σ 112 9)) (Int32.toInt64 l1) (Int32.toInt64 l2)) cl_X12_in gX12_takesNumber_X12_in ⟨Nat.le_of_ble_eq_true rfl, Nat.le_of_ble_eq_true rfl⟩ rfl rfl (Nat.le_of_ble_eq_true rfl) dX12_takesNumber_115 rfl ?_
        refine v_if_eq 121 125 h dX12_takesNumber_118 rfl (by decide) (fun h => ?_) (fun h => ?_)
        · refine v_iconst 126 0 dX12_takesNumber_125 kc_i_0 rfl ?_
          exact v_zretS h rfl (Or.inl rfl) dX12_takesNumber_126
        · refine v_iconst 122 1 dX12_takesNumber_121 kc_i_1 rfl ?_
          refine v_goto 126 dX12_takesNumber_122 (by decide) ?_
          exact v_zretS h rfl (Or.inr rfl) dX12_takesNumber_126
    · refine v_aload_n 31 0 dX12_takesNumber_30 rfl rfl rfl ?_
      refine v_aload_n 32 0 dX12_takesNumber_31 rfl rfl rfl ?_
      refine vg_8_7 35 (rfl : kK 112 = 8) in_X12_takesNumber_8 (mem_at 2 rfl) dX12_takesNumber_32 rfl ?_
      refine v_aload_n 36 0 dX12_takesNumber_35 rfl rfl rfl ?_
      refine vg_8_8 39 (rfl : kK 112 = 8) in_X12_takesNumber_8 (mem_at 5 rfl) dX12_takesNumber_36 rfl ?_
      refine v_isub 40 dX12_takesNumber_39 rfl ?_
      refine v_iconst 41 2 dX12_takesNumber_40 kc_i_2 rfl ?_
      refine v_icmp_ge 44 66 h dX12_takesNumber_41 rfl (by decide) (fun h => ?_) (fun h => ?_)
      · refine v_aload_n 67 0 dX12_takesNumber_66 rfl rfl rfl ?_
        refine vg_8_9 70 (rfl : kK 112 = 8) in_X12_takesNumber_8 (mem_at 1 rfl) dX12_takesNumber_67 rfl ?_
        refine v_sub [0, 1, 2] rfl ?_
        exact q_X12_takesNumber_70 l1 l2 r τ (b_X12_takesNumber_9 l1 l2 f) ih σ (rI σ 112 9) h
      · refine v_bipush 46 10 dX12_takesNumber_44 kc_b_10 rfl ?_
        refine v_aload_n 47 0 dX12_takesNumber_46 rfl rfl rfl ?_
        refine vg_8_9 50 (rfl : kK 112 = 8) in_X12_takesNumber_8 (mem_at 1 rfl) dX12_takesNumber_47 rfl ?_
        refine v_imul 51 dX12_takesNumber_50 rfl ?_
        refine v_aload_n 52 0 dX12_takesNumber_51 rfl rfl rfl ?_
        refine v_aload_n 53 0 dX12_takesNumber_52 rfl rfl rfl ?_
        refine vg_8_7 56 (rfl : kK 112 = 8) in_X12_takesNumber_8 (mem_at 2 rfl) dX12_takesNumber_53 rfl ?_
        obtain ⟨x6, h0, h⟩ := ob h
        refine v_cV 59 8 [.int (rI σ 112 7)] (rfl : kK 112 = 8) rfl (c_X12_byteAt (rI σ 112 7) _ h0) cl_X12_byteAt gX12_takesNumber_X12_byteAt rfl ⟨Nat.le_of_ble_eq_true rfl, Nat.le_of_ble_eq_true rfl⟩ rfl rfl (Nat.le_of_ble_eq_true rfl) dX12_takesNumber_56 rfl ?_
        refine v_iadd 60 dX12_takesNumber_59 rfl ?_
        refine v_bipush 62 48 dX12_takesNumber_60 kc_b_48 rfl ?_
        refine v_isub 63 dX12_takesNumber_62 rfl ?_
        refine v_goto 70 dX12_takesNumber_63 (by decide) ?_
        refine v_sub [0, 1, 2] rfl ?_
        exact q_X12_takesNumber_70 l1 l2 r τ (b_X12_takesNumber_9 l1 l2 f) ih σ (((10 * (rI σ 112 9)) + x6) - 48) h
set_option maxRecDepth 100000 in
set_option maxHeartbeats 4000000 in
theorem c_X12_takesNumber {g : Cx} {σ : Sg} (l1 : Int32) (l2 : Int32) (r : Int32) (τ : Sg) (h : f_X12_takesNumber σ l1 l2 = some (r, τ)) : ∀ l, MetF l yX12_takesNumber wsX12_takesNumber rm_X12_takesNumber g [.ref (g.1 112), .int l1, .int l2] σ (some (.int r)) τ := by
  refine MetF.of (own0 := RX12) (lv0 := [(0, .ref (g.1 112)), (1, .int l1), (2, .int l2)]) rfl cl_X12_takesNumber (by decide) (Nat.le_of_ble_eq_true rfl) rfl ?_
  unfold f_X12_takesNumber at h
  refine v_aload_n 1 0 dX12_takesNumber_0 rfl rfl rfl ?_
  obtain ⟨s1, h0, h⟩ := ob h
  refine v_cV 4 8 [] (rfl : kK 112 = 8) rfl (c_X12_blanks _ h0) cl_X12_blanks gX12_takesNumber_X12_blanks rfl ⟨Nat.le_of_ble_eq_true rfl, Nat.le_of_ble_eq_true rfl⟩ rfl rfl (Nat.le_of_ble_eq_true rfl) dX12_takesNumber_1 rfl ?_
  refine v_aload_n 5 0 dX12_takesNumber_4 rfl rfl rfl ?_
  refine v_iconst 6 0 dX12_takesNumber_5 kc_i_0 rfl ?_
  refine vp_8_9 9 h (rfl : kK 112 = 8) in_X12_takesNumber_8 (mem_at 1 rfl) dX12_takesNumber_6 rfl (fun s2 h => ?_)
  refine v_sub [0, 1, 2] rfl ?_
  exact q_X12_takesNumber_9 l1 l2 r τ FU s2 h
-- private boolean readsKeeper();
abbrev rm_X12_readsKeeper : Room := { frames := 3, cells := 0, slots := 0, locals := 63 }
theorem cl_X12_readsKeeper : Cl yX12_readsKeeper wsX12_readsKeeper cX12_readsKeeper 3 (some .boolean) rm_X12_readsKeeper 0 := ⟨⟨_, rfl⟩, rfl, rfl, by decide +kernel, by decide +kernel, by decide +kernel⟩
theorem in_X12_readsKeeper_8 : ∀ w ∈ wsX120, w ∈ wsX12_readsKeeper := fun w h => List.mem_cons_of_mem _ (List.mem_append_right _ h)
def f_X12_readsKeeper (σ : Sg) : Option (Int32 × Sg) := (if inb 723 (kLen 113) = true then (if (rI σ 113 (ix 723)) = 7 then (some (0, σ)) else bnd (f_X12_takesNumber σ 0 5) fun x1 s2 => (if x1 = 0 then (some (0, s2)) else nam (rI s2 112 9) fun x3 => bnd (f_X12_takesNumber s2 0 11) fun x4 s5 => (if x4 = 0 then (some (0, s5)) else nam (rI s5 112 9) fun x6 => bnd (f_X12_takesNumber s5 1 99) fun x7 s8 => (if x7 = 0 then (some (0, s8)) else (f_X12_adds s8 723 x3 x6 (rI s8 112 9)).bind fun s9 => (some (1, s9)))))) else none)
set_option maxRecDepth 100000 in
set_option maxHeartbeats 4000000 in
theorem c_X12_readsKeeper {g : Cx} {σ : Sg} (r : Int32) (τ : Sg) (h : f_X12_readsKeeper σ = some (r, τ)) : ∀ l, MetF l yX12_readsKeeper wsX12_readsKeeper rm_X12_readsKeeper g [.ref (g.1 112)] σ (some (.int r)) τ := by
  refine MetF.of (own0 := RX12) (lv0 := [(0, .ref (g.1 112))]) rfl cl_X12_readsKeeper (by decide) (Nat.le_of_ble_eq_true rfl) rfl ?_
  unfold f_X12_readsKeeper at h
  refine v_aload_n 1 0 dX12_readsKeeper_0 rfl rfl rfl ?_
  refine vg_8_0 4 (rfl : kK 112 = 8) in_X12_readsKeeper_8 (mem_at 1 rfl) dX12_readsKeeper_1 rfl ?_
  refine v_sipush 7 723 dX12_readsKeeper_4 kc_s_723 rfl ?_
  refine v_iald 8 h (rfl : kK 113 = 9) dX12_readsKeeper_7 rfl (fun h => ?_)
  refine v_bipush 10 7 dX12_readsKeeper_8 kc_b_7 rfl ?_
  refine v_icmp_eq 13 22 h dX12_readsKeeper_10 rfl (by decide) (fun h => ?_) (fun h => ?_)
  · refine v_iconst 23 0 dX12_readsKeeper_22 kc_i_0 rfl ?_
    exact v_zretS h rfl (Or.inl rfl) dX12_readsKeeper_23
  · refine v_aload_n 14 0 dX12_readsKeeper_13 rfl rfl rfl ?_
    refine v_iconst 15 0 dX12_readsKeeper_14 kc_i_0 rfl ?_
    refine v_iconst 16 5 dX12_readsKeeper_15 kc_i_5 rfl ?_
    obtain ⟨x1, s2, h0, h⟩ := ob2 h
    refine v_cV 19 8 [.int 0, .int 5] (rfl : kK 112 = 8) rfl (c_X12_takesNumber 0 5 _ _ h0) cl_X12_takesNumber gX12_readsKeeper_X12_takesNumber rfl ⟨Nat.le_of_ble_eq_true rfl, Nat.le_of_ble_eq_true rfl⟩ rfl rfl (Nat.le_of_ble_eq_true rfl) dX12_readsKeeper_16 rfl ?_
    refine v_if_ne 22 24 h dX12_readsKeeper_19 rfl (by decide) (fun h => ?_) (fun h => ?_)
    · refine v_aload_n 25 0 dX12_readsKeeper_24 rfl rfl rfl ?_
      refine vg_8_9 28 (rfl : kK 112 = 8) in_X12_readsKeeper_8 (mem_at 2 rfl) dX12_readsKeeper_25 rfl ?_
      refine v_istoreN_n 29 h dX12_readsKeeper_28 rfl (by decide) rfl (fun _ => rfl) (fun x3 h => ?_)
      refine v_aload_n 30 1 dX12_readsKeeper_29 rfl rfl rfl ?_
      refine v_iconst 31 0 dX12_readsKeeper_30 kc_i_0 rfl ?_
      refine v_bipush 33 11 dX12_readsKeeper_31 kc_b_11 rfl ?_
      obtain ⟨x4, s5, h0, h⟩ := ob2 h
      refine v_cV 36 8 [.int 0, .int 11] (rfl : kK 112 = 8) rfl (c_X12_takesNumber 0 11 _ _ h0) cl_X12_takesNumber gX12_readsKeeper_X12_takesNumber rfl ⟨Nat.le_of_ble_eq_true rfl, Nat.le_of_ble_eq_true rfl⟩ rfl rfl (Nat.le_of_ble_eq_true rfl) dX12_readsKeeper_33 rfl ?_
      refine v_if_ne 39 41 h dX12_readsKeeper_36 rfl (by decide) (fun h => ?_) (fun h => ?_)
      · refine v_aload_n 42 1 dX12_readsKeeper_41 rfl rfl rfl ?_
        refine vg_8_9 45 (rfl : kK 112 = 8) in_X12_readsKeeper_8 (mem_at 2 rfl) dX12_readsKeeper_42 rfl ?_
        refine v_istoreN_n 46 h dX12_readsKeeper_45 rfl (by decide) rfl (fun _ => rfl) (fun x6 h => ?_)
        refine v_aload_n 47 2 dX12_readsKeeper_46 rfl rfl rfl ?_
        refine v_iconst 48 1 dX12_readsKeeper_47 kc_i_1 rfl ?_
        refine v_bipush 50 99 dX12_readsKeeper_48 kc_b_99 rfl ?_
        obtain ⟨x7, s8, h0, h⟩ := ob2 h
        refine v_cV 53 8 [.int 1, .int 99] (rfl : kK 112 = 8) rfl (c_X12_takesNumber 1 99 _ _ h0) cl_X12_takesNumber gX12_readsKeeper_X12_takesNumber rfl ⟨Nat.le_of_ble_eq_true rfl, Nat.le_of_ble_eq_true rfl⟩ rfl rfl (Nat.le_of_ble_eq_true rfl) dX12_readsKeeper_50 rfl ?_
        refine v_if_ne 56 58 h dX12_readsKeeper_53 rfl (by decide) (fun h => ?_) (fun h => ?_)
        · refine v_aload_n 59 2 dX12_readsKeeper_58 rfl rfl rfl ?_
          refine v_sipush 62 723 dX12_readsKeeper_59 kc_s_723 rfl ?_
          refine v_iload_n 63 1 dX12_readsKeeper_62 rfl rfl rfl ?_
          refine v_iload_n 64 0 dX12_readsKeeper_63 rfl rfl rfl ?_
          refine v_aload_n 65 2 dX12_readsKeeper_64 rfl rfl rfl ?_
          refine vg_8_9 68 (rfl : kK 112 = 8) in_X12_readsKeeper_8 (mem_at 2 rfl) dX12_readsKeeper_65 rfl ?_
          obtain ⟨s9, h0, h⟩ := ob h
          refine v_cV 71 8 [.int 723, .int x3, .int x6, .int (rI s8 112 9)] (rfl : kK 112 = 8) rfl (c_X12_adds 723 x3 x6 (rI s8 112 9) _ h0) cl_X12_adds gX12_readsKeeper_X12_adds rfl ⟨Nat.le_of_ble_eq_true rfl, Nat.le_of_ble_eq_true rfl⟩ rfl rfl (Nat.le_of_ble_eq_true rfl) dX12_readsKeeper_68 rfl ?_
          refine v_iconst 72 1 dX12_readsKeeper_71 kc_i_1 rfl ?_
          exact v_zretS h rfl (Or.inr rfl) dX12_readsKeeper_72
        · refine v_iconst 57 0 dX12_readsKeeper_56 kc_i_0 rfl ?_
          exact v_zretS h rfl (Or.inl rfl) dX12_readsKeeper_57
      · refine v_iconst 40 0 dX12_readsKeeper_39 kc_i_0 rfl ?_
        exact v_zretS h rfl (Or.inl rfl) dX12_readsKeeper_40
    · refine v_iconst 23 0 dX12_readsKeeper_22 kc_i_0 rfl ?_
      exact v_zretS h rfl (Or.inl rfl) dX12_readsKeeper_23
-- private boolean readsMood();
abbrev rm_X12_readsMood : Room := { frames := 3, cells := 0, slots := 0, locals := 63 }
theorem cl_X12_readsMood : Cl yX12_readsMood wsX12_readsMood cX12_readsMood 2 (some .boolean) rm_X12_readsMood 0 := ⟨⟨_, rfl⟩, rfl, rfl, by decide +kernel, by decide +kernel, by decide +kernel⟩
theorem in_X12_readsMood_8 : ∀ w ∈ wsX120, w ∈ wsX12_readsMood := fun w h => List.mem_cons_of_mem _ (List.mem_append_right _ h)
def f_X12_readsMood (σ : Sg) : Option (Int32 × Sg) := (if inb 723 (kLen 113) = true then bnd (f_X12_takesNumber σ 0 ((rI σ 113 (ix 723)) - 1)) fun x1 s2 => (if x1 = 0 then (some (0, s2)) else nam (rI s2 112 9) fun x3 => bnd (f_X12_takesNumber s2 0 9) fun x4 s5 => (if x4 = 0 then (some (0, s5)) else (if inb (755 + x3) (kLen 113) = true then nam (stI s5 113 (ix (755 + x3)) (rI s5 112 9)) (fun s6 => (some (1, s6))) else none))) else none)
set_option maxRecDepth 100000 in
set_option maxHeartbeats 4000000 in
theorem c_X12_readsMood {g : Cx} {σ : Sg} (r : Int32) (τ : Sg) (h : f_X12_readsMood σ = some (r, τ)) : ∀ l, MetF l yX12_readsMood wsX12_readsMood rm_X12_readsMood g [.ref (g.1 112)] σ (some (.int r)) τ := by
  refine MetF.of (own0 := RX12) (lv0 := [(0, .ref (g.1 112))]) rfl cl_X12_readsMood (by decide) (Nat.le_of_ble_eq_true rfl) rfl ?_
  unfold f_X12_readsMood at h
  refine v_aload_n 1 0 dX12_readsMood_0 rfl rfl rfl ?_
  refine v_iconst 2 0 dX12_readsMood_1 kc_i_0 rfl ?_
  refine v_aload_n 3 0 dX12_readsMood_2 rfl rfl rfl ?_
  refine vg_8_0 6 (rfl : kK 112 = 8) in_X12_readsMood_8 (mem_at 1 rfl) dX12_readsMood_3 rfl ?_
  refine v_sipush 9 723 dX12_readsMood_6 kc_s_723 rfl ?_
  refine v_iald 10 h (rfl : kK 113 = 9) dX12_readsMood_9 rfl (fun h => ?_)
  refine v_iconst 11 1 dX12_readsMood_10 kc_i_1 rfl ?_
  refine v_isub 12 dX12_readsMood_11 rfl ?_
  obtain ⟨x1, s2, h0, h⟩ := ob2 h
  refine v_cV 15 8 [.int 0, .int ((rI σ 113 (ix 723)) - 1)] (rfl : kK 112 = 8) rfl (c_X12_takesNumber 0 ((rI σ 113 (ix 723)) - 1) _ _ h0) cl_X12_takesNumber gX12_readsMood_X12_takesNumber rfl ⟨Nat.le_of_ble_eq_true rfl, Nat.le_of_ble_eq_true rfl⟩ rfl rfl (Nat.le_of_ble_eq_true rfl) dX12_readsMood_12 rfl ?_
  refine v_if_ne 18 20 h dX12_readsMood_15 rfl (by decide) (fun h => ?_) (fun h => ?_)
  · refine v_aload_n 21 0 dX12_readsMood_20 rfl rfl rfl ?_
    refine vg_8_9 24 (rfl : kK 112 = 8) in_X12_readsMood_8 (mem_at 2 rfl) dX12_readsMood_21 rfl ?_
    refine v_istoreN_n 25 h dX12_readsMood_24 rfl (by decide) rfl (fun _ => rfl) (fun x3 h => ?_)
    refine v_aload_n 26 1 dX12_readsMood_25 rfl rfl rfl ?_
    refine v_iconst 27 0 dX12_readsMood_26 kc_i_0 rfl ?_
    refine v_bipush 29 9 dX12_readsMood_27 kc_b_9 rfl ?_
    obtain ⟨x4, s5, h0, h⟩ := ob2 h
    refine v_cV 32 8 [.int 0, .int 9] (rfl : kK 112 = 8) rfl (c_X12_takesNumber 0 9 _ _ h0) cl_X12_takesNumber gX12_readsMood_X12_takesNumber rfl ⟨Nat.le_of_ble_eq_true rfl, Nat.le_of_ble_eq_true rfl⟩ rfl rfl (Nat.le_of_ble_eq_true rfl) dX12_readsMood_29 rfl ?_
    refine v_if_ne 35 37 h dX12_readsMood_32 rfl (by decide) (fun h => ?_) (fun h => ?_)
    · refine v_aload_n 38 1 dX12_readsMood_37 rfl rfl rfl ?_
      refine vg_8_0 41 (rfl : kK 112 = 8) in_X12_readsMood_8 (mem_at 1 rfl) dX12_readsMood_38 rfl ?_
      refine v_sipush 44 755 dX12_readsMood_41 kc_s_755 rfl ?_
      refine v_iload_n 45 0 dX12_readsMood_44 rfl rfl rfl ?_
      refine v_iadd 46 dX12_readsMood_45 rfl ?_
      refine v_aload_n 47 1 dX12_readsMood_46 rfl rfl rfl ?_
      refine vg_8_9 50 (rfl : kK 112 = 8) in_X12_readsMood_8 (mem_at 2 rfl) dX12_readsMood_47 rfl ?_
      refine v_iast 51 h (rfl : kK 113 = 9) dX12_readsMood_50 rfl (fun s6 h => ?_)
      refine v_iconst 52 1 dX12_readsMood_51 kc_i_1 rfl ?_
      exact v_zretS h rfl (Or.inr rfl) dX12_readsMood_52
    · refine v_iconst 36 0 dX12_readsMood_35 kc_i_0 rfl ?_
      exact v_zretS h rfl (Or.inl rfl) dX12_readsMood_36
  · refine v_iconst 19 0 dX12_readsMood_18 kc_i_0 rfl ?_
    exact v_zretS h rfl (Or.inl rfl) dX12_readsMood_19
-- private boolean readsBalance();
abbrev rm_X12_readsBalance : Room := { frames := 3, cells := 0, slots := 0, locals := 63 }
theorem cl_X12_readsBalance : Cl yX12_readsBalance wsX12_readsBalance cX12_readsBalance 1 (some .boolean) rm_X12_readsBalance 0 := ⟨⟨_, rfl⟩, rfl, rfl, by decide +kernel, by decide +kernel, by decide +kernel⟩
theorem in_X12_readsBalance_8 : ∀ w ∈ wsX120, w ∈ wsX12_readsBalance := fun w h => List.mem_cons_of_mem _ (List.mem_append_right _ h)
def f_X12_readsBalance (σ : Sg) : Option (Int32 × Sg) := (if inb 724 (kLen 113) = true then (if (rI σ 113 (ix 724)) = 4 then (some (0, σ)) else bnd (f_X12_takesNumber σ 0 5) fun x1 s2 => (if x1 = 0 then (some (0, s2)) else (if inb 724 (kLen 113) = true then (if inb (762 + (rI s2 113 (ix 724))) (kLen 113) = true then nam (stI s2 113 (ix (762 + (rI s2 113 (ix 724)))) (rI s2 112 9)) (fun s3 => (if inb 724 (kLen 113) = true then (if inb 724 (kLen 113) = true then nam (stI s3 113 (ix 724) ((rI s3 113 (ix 724)) + 1)) (fun s4 => (some (1, s4))) else none) else none)) else none) else none))) else none)
set_option maxRecDepth 100000 in
set_option maxHeartbeats 4000000 in
theorem c_X12_readsBalance {g : Cx} {σ : Sg} (r : Int32) (τ : Sg) (h : f_X12_readsBalance σ = some (r, τ)) : ∀ l, MetF l yX12_readsBalance wsX12_readsBalance rm_X12_readsBalance g [.ref (g.1 112)] σ (some (.int r)) τ := by
  refine MetF.of (own0 := RX12) (lv0 := [(0, .ref (g.1 112))]) rfl cl_X12_readsBalance (by decide) (Nat.le_of_ble_eq_true rfl) rfl ?_
  unfold f_X12_readsBalance at h
  refine v_aload_n 1 0 dX12_readsBalance_0 rfl rfl rfl ?_
  refine vg_8_0 4 (rfl : kK 112 = 8) in_X12_readsBalance_8 (mem_at 1 rfl) dX12_readsBalance_1 rfl ?_
  refine v_sipush 7 724 dX12_readsBalance_4 kc_s_724 rfl ?_
  refine v_iald 8 h (rfl : kK 113 = 9) dX12_readsBalance_7 rfl (fun h => ?_)
  refine v_iconst 9 4 dX12_readsBalance_8 kc_i_4 rfl ?_
  refine v_icmp_eq 12 21 h dX12_readsBalance_9 rfl (by decide) (fun h => ?_) (fun h => ?_)
  · refine v_iconst 22 0 dX12_readsBalance_21 kc_i_0 rfl ?_
    exact v_zretS h rfl (Or.inl rfl) dX12_readsBalance_22
  · refine v_aload_n 13 0 dX12_readsBalance_12 rfl rfl rfl ?_
    refine v_iconst 14 0 dX12_readsBalance_13 kc_i_0 rfl ?_
    refine v_iconst 15 5 dX12_readsBalance_14 kc_i_5 rfl ?_
    obtain ⟨x1, s2, h0, h⟩ := ob2 h
    refine v_cV 18 8 [.int 0, .int 5] (rfl : kK 112 = 8) rfl (c_X12_takesNumber 0 5 _ _ h0) cl_X12_takesNumber gX12_readsBalance_X12_takesNumber rfl ⟨Nat.le_of_ble_eq_true rfl, Nat.le_of_ble_eq_true rfl⟩ rfl rfl (Nat.le_of_ble_eq_true rfl) dX12_readsBalance_15 rfl ?_
    refine v_if_ne 21 23 h dX12_readsBalance_18 rfl (by decide) (fun h => ?_) (fun h => ?_)
    · refine v_aload_n 24 0 dX12_readsBalance_23 rfl rfl rfl ?_
      refine vg_8_0 27 (rfl : kK 112 = 8) in_X12_readsBalance_8 (mem_at 1 rfl) dX12_readsBalance_24 rfl ?_
      refine v_sipush 30 762 dX12_readsBalance_27 kc_s_762 rfl ?_
      refine v_aload_n 31 0 dX12_readsBalance_30 rfl rfl rfl ?_
      refine vg_8_0 34 (rfl : kK 112 = 8) in_X12_readsBalance_8 (mem_at 1 rfl) dX12_readsBalance_31 rfl ?_
      refine v_sipush 37 724 dX12_readsBalance_34 kc_s_724 rfl ?_
      refine v_iald 38 h (rfl : kK 113 = 9) dX12_readsBalance_37 rfl (fun h => ?_)
      refine v_iadd 39 dX12_readsBalance_38 rfl ?_
      refine v_aload_n 40 0 dX12_readsBalance_39 rfl rfl rfl ?_
      refine vg_8_9 43 (rfl : kK 112 = 8) in_X12_readsBalance_8 (mem_at 2 rfl) dX12_readsBalance_40 rfl ?_
      refine v_iast 44 h (rfl : kK 113 = 9) dX12_readsBalance_43 rfl (fun s3 h => ?_)
      refine v_aload_n 45 0 dX12_readsBalance_44 rfl rfl rfl ?_
      refine vg_8_0 48 (rfl : kK 112 = 8) in_X12_readsBalance_8 (mem_at 1 rfl) dX12_readsBalance_45 rfl ?_
      refine v_sipush 51 724 dX12_readsBalance_48 kc_s_724 rfl ?_
      refine v_dup2 52 dX12_readsBalance_51 rfl rfl rfl ?_
      refine v_iald 53 h (rfl : kK 113 = 9) dX12_readsBalance_52 rfl (fun h => ?_)
      refine v_iconst 54 1 dX12_readsBalance_53 kc_i_1 rfl ?_
      refine v_iadd 55 dX12_readsBalance_54 rfl ?_
      refine v_iast 56 h (rfl : kK 113 = 9) dX12_readsBalance_55 rfl (fun s4 h => ?_)
      refine v_iconst 57 1 dX12_readsBalance_56 kc_i_1 rfl ?_
      exact v_zretS h rfl (Or.inr rfl) dX12_readsBalance_57
    · refine v_iconst 22 0 dX12_readsBalance_21 kc_i_0 rfl ?_
      exact v_zretS h rfl (Or.inl rfl) dX12_readsBalance_22
-- private boolean readsDays();
abbrev rm_X12_readsDays : Room := { frames := 3, cells := 0, slots := 0, locals := 66 }
theorem cl_X12_readsDays : Cl yX12_readsDays wsX12_readsDays cX12_readsDays 2 (some .boolean) rm_X12_readsDays 0 := ⟨⟨_, rfl⟩, rfl, rfl, by decide +kernel, by decide +kernel, by decide +kernel⟩
theorem in_X12_readsDays_8 : ∀ w ∈ wsX120, w ∈ wsX12_readsDays := fun w h => List.mem_cons_of_mem _ (List.mem_append_right _ h)
def b_X12_readsDays_14 : Nat → Sg → Int32 → Option (Int32 × Sg)
  | 0, _, _ => none
  | f + 1, σ, l1 => (if (rI σ 112 9) ≤ l1 then (some (1, σ)) else (f_X12_passes σ 723).bind fun s3 => nam (l1 + 1) fun x4 => b_X12_readsDays_14 f s3 x4)
def f_X12_readsDays (σ : Sg) : Option (Int32 × Sg) := bnd (f_X12_takesNumber σ 1 99) fun x1 s2 => (if x1 = 0 then (some (0, s2)) else b_X12_readsDays_14 FU s2 0)
set_option maxRecDepth 100000 in
set_option maxHeartbeats 4000000 in
theorem q_X12_readsDays_14 {g : Cx} (r : Int32) (τ : Sg) : ∀ f : Nat, ∀ σ : Sg, ∀ l1 : Int32, b_X12_readsDays_14 f σ l1 = some (r, τ) → V g cX12_readsDays RX12 wsX12_readsDays 2 (some .boolean) rm_X12_readsDays (some (.int r)) τ σ 14 [(0, .ref (g.1 112)), (1, .int l1)] [] := by
  intro f
  induction f with
  | zero =>
    intro σ l1 h
    cases h
  | succ f ih =>
    intro σ l1 h
    rw [b_X12_readsDays_14] at h
    refine v_iload_n 15 1 dX12_readsDays_14 rfl rfl rfl ?_
    refine v_aload_n 16 0 dX12_readsDays_15 rfl rfl rfl ?_
    refine vg_8_9 19 (rfl : kK 112 = 8) in_X12_readsDays_8 (mem_at 1 rfl) dX12_readsDays_16 rfl ?_
    refine v_icmp_ge 22 35 h dX12_readsDays_19 rfl (by decide) (fun h => ?_) (fun h => ?_)
    · refine v_iconst 36 1 dX12_readsDays_35 kc_i_1 rfl ?_
      exact v_zretS h rfl (Or.inr rfl) dX12_readsDays_36
    · refine v_aload_n 23 0 dX12_readsDays_22 rfl rfl rfl ?_
      refine v_sipush 26 723 dX12_readsDays_23 kc_s_723 rfl ?_
      obtain ⟨s3, h0, h⟩ := ob h
      refine v_cV 29 8 [.int 723] (rfl : kK 112 = 8) rfl (c_X12_passes 723 _ h0) cl_X12_passes gX12_readsDays_X12_passes rfl ⟨Nat.le_of_ble_eq_true rfl, Nat.le_of_ble_eq_true rfl⟩ rfl rfl (Nat.le_of_ble_eq_true rfl) dX12_readsDays_26 rfl ?_
      refine v_iincN 32 1 h dX12_readsDays_29 rfl kc_i_1 (by decide) rfl (fun _ => rfl) (fun x4 h => ?_)
      refine v_goto 14 dX12_readsDays_32 (by decide) ?_
      refine v_sub [1, 0] rfl ?_
      exact ih s3 x4 h
set_option maxRecDepth 100000 in
set_option maxHeartbeats 4000000 in
theorem c_X12_readsDays {g : Cx} {σ : Sg} (r : Int32) (τ : Sg) (h : f_X12_readsDays σ = some (r, τ)) : ∀ l, MetF l yX12_readsDays wsX12_readsDays rm_X12_readsDays g [.ref (g.1 112)] σ (some (.int r)) τ := by
  refine MetF.of (own0 := RX12) (lv0 := [(0, .ref (g.1 112))]) rfl cl_X12_readsDays (by decide) (Nat.le_of_ble_eq_true rfl) rfl ?_
  unfold f_X12_readsDays at h
  refine v_aload_n 1 0 dX12_readsDays_0 rfl rfl rfl ?_
  refine v_iconst 2 1 dX12_readsDays_1 kc_i_1 rfl ?_
  refine v_bipush 4 99 dX12_readsDays_2 kc_b_99 rfl ?_
  obtain ⟨x1, s2, h0, h⟩ := ob2 h
  refine v_cV 7 8 [.int 1, .int 99] (rfl : kK 112 = 8) rfl (c_X12_takesNumber 1 99 _ _ h0) cl_X12_takesNumber gX12_readsDays_X12_takesNumber rfl ⟨Nat.le_of_ble_eq_true rfl, Nat.le_of_ble_eq_true rfl⟩ rfl rfl (Nat.le_of_ble_eq_true rfl) dX12_readsDays_4 rfl ?_
  refine v_if_ne 10 12 h dX12_readsDays_7 rfl (by decide) (fun h => ?_) (fun h => ?_)
  · refine v_iconst 13 0 dX12_readsDays_12 kc_i_0 rfl ?_
    refine v_istore_n 14 dX12_readsDays_13 rfl (by decide) rfl rfl ?_
    refine v_sub [1, 0] rfl ?_
    exact q_X12_readsDays_14 r τ FU s2 0 h
  · refine v_iconst 11 0 dX12_readsDays_10 kc_i_0 rfl ?_
    exact v_zretS h rfl (Or.inl rfl) dX12_readsDays_11
-- private boolean takesEnd();
abbrev rm_X12_takesEnd : Room := { frames := 2, cells := 0, slots := 0, locals := 41 }
theorem cl_X12_takesEnd : Cl yX12_takesEnd wsX12_takesEnd cX12_takesEnd 1 (some .boolean) rm_X12_takesEnd 0 := ⟨⟨_, rfl⟩, rfl, rfl, by decide +kernel, by decide +kernel, by decide +kernel⟩
theorem in_X12_takesEnd_8 : ∀ w ∈ wsX120, w ∈ wsX12_takesEnd := fun w h => List.mem_cons_of_mem _ (List.mem_append_right _ h)
def f_X12_takesEnd (σ : Sg) : Option (Int32 × Sg) := (f_X12_blanks σ).bind fun s1 => nam (stI s1 112 7 ((rI s1 112 7) + 1)) fun s2 => (f_X12_byteAt s2 (rI s2 112 8)).bind fun x3 => (if x3 = 59 then (some (1, s2)) else (some (0, s2)))
set_option maxRecDepth 100000 in
set_option maxHeartbeats 4000000 in
theorem c_X12_takesEnd {g : Cx} {σ : Sg} (r : Int32) (τ : Sg) (h : f_X12_takesEnd σ = some (r, τ)) : ∀ l, MetF l yX12_takesEnd wsX12_takesEnd rm_X12_takesEnd g [.ref (g.1 112)] σ (some (.int r)) τ := by
  refine MetF.of (own0 := RX12) (lv0 := [(0, .ref (g.1 112))]) rfl cl_X12_takesEnd (by decide) (Nat.le_of_ble_eq_true rfl) rfl ?_
  unfold f_X12_takesEnd at h
  refine v_aload_n 1 0 dX12_takesEnd_0 rfl rfl rfl ?_
  obtain ⟨s1, h0, h⟩ := ob h
  refine v_cV 4 8 [] (rfl : kK 112 = 8) rfl (c_X12_blanks _ h0) cl_X12_blanks gX12_takesEnd_X12_blanks rfl ⟨Nat.le_of_ble_eq_true rfl, Nat.le_of_ble_eq_true rfl⟩ rfl rfl (Nat.le_of_ble_eq_true rfl) dX12_takesEnd_1 rfl ?_
  refine v_aload_n 5 0 dX12_takesEnd_4 rfl rfl rfl ?_
  refine v_dup 6 dX12_takesEnd_5 rfl rfl ?_
  refine vg_8_7 9 (rfl : kK 112 = 8) in_X12_takesEnd_8 (mem_at 1 rfl) dX12_takesEnd_6 rfl ?_
  refine v_iconst 10 1 dX12_takesEnd_9 kc_i_1 rfl ?_
  refine v_iadd 11 dX12_takesEnd_10 rfl ?_
  refine vp_8_7 14 h (rfl : kK 112 = 8) in_X12_takesEnd_8 (mem_at 1 rfl) dX12_takesEnd_11 rfl (fun s2 h => ?_)
  refine v_aload_n 15 0 dX12_takesEnd_14 rfl rfl rfl ?_
  refine v_aload_n 16 0 dX12_takesEnd_15 rfl rfl rfl ?_
  refine vg_8_8 19 (rfl : kK 112 = 8) in_X12_takesEnd_8 (mem_at 2 rfl) dX12_takesEnd_16 rfl ?_
  obtain ⟨x3, h0, h⟩ := ob h
  refine v_cV 22 8 [.int (rI s2 112 8)] (rfl : kK 112 = 8) rfl (c_X12_byteAt (rI s2 112 8) _ h0) cl_X12_byteAt gX12_takesEnd_X12_byteAt rfl ⟨Nat.le_of_ble_eq_true rfl, Nat.le_of_ble_eq_true rfl⟩ rfl rfl (Nat.le_of_ble_eq_true rfl) dX12_takesEnd_19 rfl ?_
  refine v_bipush 24 59 dX12_takesEnd_22 kc_b_59 rfl ?_
  refine v_icmp_ne 27 31 h dX12_takesEnd_24 rfl (by decide) (fun h => ?_) (fun h => ?_)
  · refine v_iconst 32 0 dX12_takesEnd_31 kc_i_0 rfl ?_
    exact v_zretS h rfl (Or.inl rfl) dX12_takesEnd_32
  · refine v_iconst 28 1 dX12_takesEnd_27 kc_i_1 rfl ?_
    refine v_goto 32 dX12_takesEnd_28 (by decide) ?_
    exact v_zretS h rfl (Or.inr rfl) dX12_takesEnd_32
-- private boolean readsItem(boolean);
abbrev rm_X12_readsItem : Room := { frames := 4, cells := 0, slots := 0, locals := 87 }
theorem cl_X12_readsItem : Cl yX12_readsItem wsX12_readsItem cX12_readsItem 4 (some .boolean) rm_X12_readsItem 1 := ⟨⟨_, rfl⟩, rfl, rfl, by decide +kernel, by decide +kernel, by decide +kernel⟩
def b_X12_readsItem_92 (l1 : Int32) (σ : Sg) (t0 : Int32) : Option (Int32 × Sg) := (if t0 = 0 then (some (0, σ)) else bnd (f_X12_takesEnd σ) fun x3 s4 => (if x3 = 0 then (some (0, s4)) else (some (1, s4))))
def b_X12_readsItem_87 (l1 : Int32) (σ : Sg) : Option (Int32 × Sg) := b_X12_readsItem_92 l1 σ 1
def b_X12_readsItem_91 (l1 : Int32) (σ : Sg) : Option (Int32 × Sg) := b_X12_readsItem_92 l1 σ 0
def b_X12_readsItem_20 (l1 : Int32) (σ : Sg) (l2 : Int32) (t0 : Int32) (t1 : Int32) : Option (Int32 × Sg) := (if t1 = t0 then (if l2 = 1 then b_X12_readsItem_87 l1 σ else (if l2 = 2 then bnd (f_X12_readsKeeper σ) fun x11 s12 => (if x11 = 0 then b_X12_readsItem_91 l1 s12 else b_X12_readsItem_87 l1 s12) else (if l2 = 3 then bnd (f_X12_readsMood σ) fun x9 s10 => (if x9 = 0 then b_X12_readsItem_91 l1 s10 else b_X12_readsItem_87 l1 s10) else (if l2 = 4 then bnd (f_X12_readsBalance σ) fun x7 s8 => (if x7 = 0 then b_X12_readsItem_91 l1 s8 else b_X12_readsItem_87 l1 s8) else (if l2 = 5 then bnd (f_X12_readsDays σ) fun x5 s6 => (if x5 = 0 then b_X12_readsItem_91 l1 s6 else b_X12_readsItem_87 l1 s6) else b_X12_readsItem_91 l1 σ))))) else (some (0, σ)))
def f_X12_readsItem (σ : Sg) (l1 : Int32) : Option (Int32 × Sg) := (f_X12_takesWord σ).bind fun s1 => (f_X12_wordOf s1).bind fun x2 => (if x2 = 1 then b_X12_readsItem_20 l1 s1 x2 1 l1 else b_X12_readsItem_20 l1 s1 x2 0 l1)
set_option maxRecDepth 100000 in
set_option maxHeartbeats 4000000 in
theorem q_X12_readsItem_92 {g : Cx} (l1 : Int32) (r : Int32) (τ : Sg) : ∀ σ : Sg, ∀ t0 : Int32, (t0 = 0 ∨ t0 = 1) → b_X12_readsItem_92 l1 σ t0 = some (r, τ) → V g cX12_readsItem RX12 wsX12_readsItem 4 (some .boolean) rm_X12_readsItem (some (.int r)) τ σ 92 [(0, .ref (g.1 112))] [.int t0] := by
  intro σ t0 hz0 h
  unfold b_X12_readsItem_92 at h
  refine v_istore_n 93 dX12_readsItem_92 rfl (by decide) rfl rfl ?_
  refine v_iload_n 94 0 dX12_readsItem_93 rfl rfl rfl ?_
  refine v_if_eq 97 108 h dX12_readsItem_94 rfl (by decide) (fun h => ?_) (fun h => ?_)
  · refine v_iconst 109 0 dX12_readsItem_108 kc_i_0 rfl ?_
    exact v_zretS h rfl (Or.inl rfl) dX12_readsItem_109
  · refine v_aload_n 98 1 dX12_readsItem_97 rfl rfl rfl ?_
    obtain ⟨x3, s4, h0, h⟩ := ob2 h
    refine v_cV 101 8 [] (rfl : kK 112 = 8) rfl (c_X12_takesEnd _ _ h0) cl_X12_takesEnd gX12_readsItem_X12_takesEnd rfl ⟨Nat.le_of_ble_eq_true rfl, Nat.le_of_ble_eq_true rfl⟩ rfl rfl (Nat.le_of_ble_eq_true rfl) dX12_readsItem_98 rfl ?_
    refine v_if_eq 104 108 h dX12_readsItem_101 rfl (by decide) (fun h => ?_) (fun h => ?_)
    · refine v_iconst 109 0 dX12_readsItem_108 kc_i_0 rfl ?_
      exact v_zretS h rfl (Or.inl rfl) dX12_readsItem_109
    · refine v_iconst 105 1 dX12_readsItem_104 kc_i_1 rfl ?_
      refine v_goto 109 dX12_readsItem_105 (by decide) ?_
      exact v_zretS h rfl (Or.inr rfl) dX12_readsItem_109
set_option maxRecDepth 100000 in
set_option maxHeartbeats 4000000 in
theorem q_X12_readsItem_87 {g : Cx} (l1 : Int32) (r : Int32) (τ : Sg) : ∀ σ : Sg, b_X12_readsItem_87 l1 σ = some (r, τ) → V g cX12_readsItem RX12 wsX12_readsItem 4 (some .boolean) rm_X12_readsItem (some (.int r)) τ σ 87 [(0, .ref (g.1 112))] [] := by
  intro σ h
  unfold b_X12_readsItem_87 at h
  refine v_iconst 88 1 dX12_readsItem_87 kc_i_1 rfl ?_
  refine v_goto 92 dX12_readsItem_88 (by decide) ?_
  refine v_sub [0] rfl ?_
  exact q_X12_readsItem_92 l1 r τ σ 1 (Or.inr rfl) h
set_option maxRecDepth 100000 in
set_option maxHeartbeats 4000000 in
theorem q_X12_readsItem_91 {g : Cx} (l1 : Int32) (r : Int32) (τ : Sg) : ∀ σ : Sg, b_X12_readsItem_91 l1 σ = some (r, τ) → V g cX12_readsItem RX12 wsX12_readsItem 4 (some .boolean) rm_X12_readsItem (some (.int r)) τ σ 91 [(0, .ref (g.1 112))] [] := by
  intro σ h
  unfold b_X12_readsItem_91 at h
  refine v_iconst 92 0 dX12_readsItem_91 kc_i_0 rfl ?_
  refine v_sub [0] rfl ?_
  exact q_X12_readsItem_92 l1 r τ σ 0 (Or.inl rfl) h
set_option maxRecDepth 100000 in
set_option maxHeartbeats 4000000 in
theorem q_X12_readsItem_20 {g : Cx} (l1 : Int32) (r : Int32) (τ : Sg) : ∀ σ : Sg, ∀ l2 : Int32, ∀ t0 : Int32, ∀ t1 : Int32, (t0 = 0 ∨ t0 = 1) → b_X12_readsItem_20 l1 σ l2 t0 t1 = some (r, τ) → V g cX12_readsItem RX12 wsX12_readsItem 4 (some .boolean) rm_X12_readsItem (some (.int r)) τ σ 20 [(0, .ref (g.1 112)), (2, .int l2)] [.int t0, .int t1] := by
  intro σ l2 t0 t1 hz0 h
  unfold b_X12_readsItem_20 at h
  refine v_icmp_eq 23 25 h dX12_readsItem_20 rfl (by decide) (fun h => ?_) (fun h => ?_)
  · refine v_iload_n 26 1 dX12_readsItem_25 rfl rfl rfl ?_
    refine v_iconst 27 1 dX12_readsItem_26 kc_i_1 rfl ?_
    refine v_icmp_eq 30 87 h dX12_readsItem_27 rfl (by decide) (fun h => ?_) (fun h => ?_)
    · refine v_sub [0] rfl ?_
      exact q_X12_readsItem_87 l1 r τ σ h
    · refine v_iload_n 31 1 dX12_readsItem_30 rfl rfl rfl ?_
      refine v_iconst 32 2 dX12_readsItem_31 kc_i_2 rfl ?_
      refine v_icmp_ne 35 45 h dX12_readsItem_32 rfl (by decide) (fun h => ?_) (fun h => ?_)
      · refine v_iload_n 46 1 dX12_readsItem_45 rfl rfl rfl ?_
        refine v_iconst 47 3 dX12_readsItem_46 kc_i_3 rfl ?_
        refine v_icmp_ne 50 60 h dX12_readsItem_47 rfl (by decide) (fun h => ?_) (fun h => ?_)
        · refine v_iload_n 61 1 dX12_readsItem_60 rfl rfl rfl ?_
          refine v_iconst 62 4 dX12_readsItem_61 kc_i_4 rfl ?_
          refine v_icmp_ne 65 75 h dX12_readsItem_62 rfl (by decide) (fun h => ?_) (fun h => ?_)
          · refine v_iload_n 76 1 dX12_readsItem_75 rfl rfl rfl ?_
            refine v_iconst 77 5 dX12_readsItem_76 kc_i_5 rfl ?_
            refine v_icmp_ne 80 91 h dX12_readsItem_77 rfl (by decide) (fun h => ?_) (fun h => ?_)
            · refine v_sub [0] rfl ?_
              exact q_X12_readsItem_91 l1 r τ σ h
            · refine v_aload_n 81 0 dX12_readsItem_80 rfl rfl rfl ?_
              obtain ⟨x5, s6, h0, h⟩ := ob2 h
              refine v_cV 84 8 [] (rfl : kK 112 = 8) rfl (c_X12_readsDays _ _ h0) cl_X12_readsDays gX12_readsItem_X12_readsDays rfl ⟨Nat.le_of_ble_eq_true rfl, Nat.le_of_ble_eq_true rfl⟩ rfl rfl (Nat.le_of_ble_eq_true rfl) dX12_readsItem_81 rfl ?_
              refine v_if_eq 87 91 h dX12_readsItem_84 rfl (by decide) (fun h => ?_) (fun h => ?_)
              · refine v_sub [0] rfl ?_
                exact q_X12_readsItem_91 l1 r τ s6 h
              · refine v_sub [0] rfl ?_
                exact q_X12_readsItem_87 l1 r τ s6 h
          · refine v_aload_n 66 0 dX12_readsItem_65 rfl rfl rfl ?_
            obtain ⟨x7, s8, h0, h⟩ := ob2 h
            refine v_cV 69 8 [] (rfl : kK 112 = 8) rfl (c_X12_readsBalance _ _ h0) cl_X12_readsBalance gX12_readsItem_X12_readsBalance rfl ⟨Nat.le_of_ble_eq_true rfl, Nat.le_of_ble_eq_true rfl⟩ rfl rfl (Nat.le_of_ble_eq_true rfl) dX12_readsItem_66 rfl ?_
            refine v_if_eq 72 91 h dX12_readsItem_69 rfl (by decide) (fun h => ?_) (fun h => ?_)
            · refine v_sub [0] rfl ?_
              exact q_X12_readsItem_91 l1 r τ s8 h
            · refine v_goto 87 dX12_readsItem_72 (by decide) ?_
              refine v_sub [0] rfl ?_
              exact q_X12_readsItem_87 l1 r τ s8 h
        · refine v_aload_n 51 0 dX12_readsItem_50 rfl rfl rfl ?_
          obtain ⟨x9, s10, h0, h⟩ := ob2 h
          refine v_cV 54 8 [] (rfl : kK 112 = 8) rfl (c_X12_readsMood _ _ h0) cl_X12_readsMood gX12_readsItem_X12_readsMood rfl ⟨Nat.le_of_ble_eq_true rfl, Nat.le_of_ble_eq_true rfl⟩ rfl rfl (Nat.le_of_ble_eq_true rfl) dX12_readsItem_51 rfl ?_
          refine v_if_eq 57 91 h dX12_readsItem_54 rfl (by decide) (fun h => ?_) (fun h => ?_)
          · refine v_sub [0] rfl ?_
            exact q_X12_readsItem_91 l1 r τ s10 h
          · refine v_goto 87 dX12_readsItem_57 (by decide) ?_
            refine v_sub [0] rfl ?_
            exact q_X12_readsItem_87 l1 r τ s10 h
      · refine v_aload_n 36 0 dX12_readsItem_35 rfl rfl rfl ?_
        obtain ⟨x11, s12, h0, h⟩ := ob2 h
        refine v_cV 39 8 [] (rfl : kK 112 = 8) rfl (c_X12_readsKeeper _ _ h0) cl_X12_readsKeeper gX12_readsItem_X12_readsKeeper rfl ⟨Nat.le_of_ble_eq_true rfl, Nat.le_of_ble_eq_true rfl⟩ rfl rfl (Nat.le_of_ble_eq_true rfl) dX12_readsItem_36 rfl ?_
        refine v_if_eq 42 91 h dX12_readsItem_39 rfl (by decide) (fun h => ?_) (fun h => ?_)
        · refine v_sub [0] rfl ?_
          exact q_X12_readsItem_91 l1 r τ s12 h
        · refine v_goto 87 dX12_readsItem_42 (by decide) ?_
          refine v_sub [0] rfl ?_
          exact q_X12_readsItem_87 l1 r τ s12 h
  · refine v_iconst 24 0 dX12_readsItem_23 kc_i_0 rfl ?_
    exact v_zretS h rfl (Or.inl rfl) dX12_readsItem_24
set_option maxRecDepth 100000 in
set_option maxHeartbeats 4000000 in
theorem c_X12_readsItem {g : Cx} {σ : Sg} (l1 : Int32) (r : Int32) (τ : Sg) (h : f_X12_readsItem σ l1 = some (r, τ)) : ∀ l, MetF l yX12_readsItem wsX12_readsItem rm_X12_readsItem g [.ref (g.1 112), .int l1] σ (some (.int r)) τ := by
  refine MetF.of (own0 := RX12) (lv0 := [(0, .ref (g.1 112)), (1, .int l1)]) rfl cl_X12_readsItem (by decide) (Nat.le_of_ble_eq_true rfl) rfl ?_
  unfold f_X12_readsItem at h
  refine v_aload_n 1 0 dX12_readsItem_0 rfl rfl rfl ?_
  obtain ⟨s1, h0, h⟩ := ob h
  refine v_cV 4 8 [] (rfl : kK 112 = 8) rfl (c_X12_takesWord _ h0) cl_X12_takesWord gX12_readsItem_X12_takesWord rfl ⟨Nat.le_of_ble_eq_true rfl, Nat.le_of_ble_eq_true rfl⟩ rfl rfl (Nat.le_of_ble_eq_true rfl) dX12_readsItem_1 rfl ?_
  refine v_aload_n 5 0 dX12_readsItem_4 rfl rfl rfl ?_
  obtain ⟨x2, h0, h⟩ := ob h
  refine v_cV 8 8 [] (rfl : kK 112 = 8) rfl (c_X12_wordOf _ h0) cl_X12_wordOf gX12_readsItem_X12_wordOf rfl ⟨Nat.le_of_ble_eq_true rfl, Nat.le_of_ble_eq_true rfl⟩ rfl rfl (Nat.le_of_ble_eq_true rfl) dX12_readsItem_5 rfl ?_
  refine v_istore_n 9 dX12_readsItem_8 rfl (by decide) rfl rfl ?_
  refine v_iload_n 10 2 dX12_readsItem_9 rfl rfl rfl ?_
  refine v_iload_n 11 0 dX12_readsItem_10 rfl rfl rfl ?_
  refine v_iconst 12 1 dX12_readsItem_11 kc_i_1 rfl ?_
  refine v_icmp_ne 15 19 h dX12_readsItem_12 rfl (by decide) (fun h => ?_) (fun h => ?_)
  · refine v_iconst 20 0 dX12_readsItem_19 kc_i_0 rfl ?_
    refine v_sub [1, 0] rfl ?_
    exact q_X12_readsItem_20 l1 r τ s1 x2 0 l1 (Or.inl rfl) h
  · refine v_iconst 16 1 dX12_readsItem_15 kc_i_1 rfl ?_
    refine v_goto 20 dX12_readsItem_16 (by decide) ?_
    refine v_sub [1, 0] rfl ?_
    exact q_X12_readsItem_20 l1 r τ s1 x2 1 l1 (Or.inr rfl) h
-- public int read();
abbrev rm_X12_read : Room := { frames := 5, cells := 0, slots := 0, locals := 110 }
theorem cl_X12_read : Cl yX12_read wsX12_read cX12_read 3 (some .int) rm_X12_read 0 := ⟨⟨_, rfl⟩, rfl, rfl, by decide +kernel, by decide +kernel, by decide +kernel⟩
theorem in_X12_read_8 : ∀ w ∈ wsX120, w ∈ wsX12_read := fun w h => List.mem_cons_of_mem _ (List.mem_append_right _ h)
def b_X12_read_67 (σ : Sg) (l1 : Int32) (l2 : Int32) : Option (Int32 × Sg) := (if l2 = 0 then (some ((-10) - (rI σ 112 8), σ)) else (f_X12_copy σ 723 0).bind fun s4 => (some (l1, s4)))
def b_X12_read_49 (c20 : Sg → Int32 → Int32 → Option (Int32 × Sg)) (σ : Sg) (l1 : Int32) (t0 : Int32) : Option (Int32 × Sg) := bnd (f_X12_readsItem σ t0) fun x5 s6 => nam (l1 + 1) fun x7 => (if x5 = 0 then c20 s6 x7 x5 else (f_X12_blanks s6).bind fun s8 => c20 s8 x7 x5)
def b_X12_read_39 (c20 : Sg → Int32 → Int32 → Option (Int32 × Sg)) (σ : Sg) (l1 : Int32) : Option (Int32 × Sg) := (if l1 = 0 then b_X12_read_49 c20 σ l1 1 else b_X12_read_49 c20 σ l1 0)
def b_X12_read_20 : Nat → Sg → Int32 → Int32 → Option (Int32 × Sg)
  | 0, _, _, _ => none
  | f + 1, σ, l1, l2 => (if l2 = 0 then b_X12_read_67 σ l1 l2 else (if (rI σ 112 8) < (rI σ 112 3) then b_X12_read_39 (b_X12_read_20 f) σ l1 else (if l1 = 0 then b_X12_read_39 (b_X12_read_20 f) σ l1 else b_X12_read_67 σ l1 l2)))
def f_X12_read (σ : Sg) : Option (Int32 × Sg) := (f_X12_empties σ 723).bind fun s1 => nam (stI s1 112 7 0) fun s2 => (f_X12_blanks s2).bind fun s3 => b_X12_read_20 FU s3 0 1
set_option maxRecDepth 100000 in
set_option maxHeartbeats 4000000 in
theorem q_X12_read_67 {g : Cx} (r : Int32) (τ : Sg) : ∀ σ : Sg, ∀ l1 : Int32, ∀ l2 : Int32, b_X12_read_67 σ l1 l2 = some (r, τ) → V g cX12_read RX12 wsX12_read 3 (some .int) rm_X12_read (some (.int r)) τ σ 67 [(0, .ref (g.1 112)), (1, .int l1), (2, .int l2)] [] := by
  intro σ l1 l2 h
  unfold b_X12_read_67 at h
  refine v_iload_n 68 2 dX12_read_67 rfl rfl rfl ?_
  refine v_if_ne 71 79 h dX12_read_68 rfl (by decide) (fun h => ?_) (fun h => ?_)
  · refine v_aload_n 80 0 dX12_read_79 rfl rfl rfl ?_
    refine v_sipush 83 723 dX12_read_80 kc_s_723 rfl ?_
    refine v_iconst 84 0 dX12_read_83 kc_i_0 rfl ?_
    obtain ⟨s4, h0, h⟩ := ob h
    refine v_cV 87 8 [.int 723, .int 0] (rfl : kK 112 = 8) rfl (c_X12_copy 723 0 _ h0) cl_X12_copy gX12_read_X12_copy rfl ⟨Nat.le_of_ble_eq_true rfl, Nat.le_of_ble_eq_true rfl⟩ rfl rfl (Nat.le_of_ble_eq_true rfl) dX12_read_84 rfl ?_
    refine v_iload_n 88 1 dX12_read_87 rfl rfl rfl ?_
    exact v_iretS h rfl dX12_read_88
  · refine v_bipush 73 (-10) dX12_read_71 kc_b_m10 rfl ?_
    refine v_aload_n 74 0 dX12_read_73 rfl rfl rfl ?_
    refine vg_8_8 77 (rfl : kK 112 = 8) in_X12_read_8 (mem_at 2 rfl) dX12_read_74 rfl ?_
    refine v_isub 78 dX12_read_77 rfl ?_
    exact v_iretS h rfl dX12_read_78
set_option maxRecDepth 100000 in
set_option maxHeartbeats 4000000 in
theorem q_X12_read_49 {g : Cx} (r : Int32) (τ : Sg) (c20 : Sg → Int32 → Int32 → Option (Int32 × Sg)) (hc20 : ∀ σ : Sg, ∀ l1 : Int32, ∀ l2 : Int32, c20 σ l1 l2 = some (r, τ) → V g cX12_read RX12 wsX12_read 3 (some .int) rm_X12_read (some (.int r)) τ σ 20 [(0, .ref (g.1 112)), (1, .int l1), (2, .int l2)] []) : ∀ σ : Sg, ∀ l1 : Int32, ∀ t0 : Int32, (t0 = 0 ∨ t0 = 1) → b_X12_read_49 c20 σ l1 t0 = some (r, τ) → V g cX12_read RX12 wsX12_read 3 (some .int) rm_X12_read (some (.int r)) τ σ 49 [(0, .ref (g.1 112)), (1, .int l1)] [.int t0, .ref (g.1 112)] := by
  intro σ l1 t0 hz0 h
  unfold b_X12_read_49 at h
  obtain ⟨x5, s6, h0, h⟩ := ob2 h
  refine v_cV 52 8 [.int t0] (rfl : kK 112 = 8) rfl (c_X12_readsItem t0 _ _ h0) cl_X12_readsItem gX12_read_X12_readsItem rfl ⟨Nat.le_of_ble_eq_true rfl, Nat.le_of_ble_eq_true rfl⟩ rfl rfl (Nat.le_of_ble_eq_true rfl) dX12_read_49 rfl ?_
  refine v_istore_n 53 dX12_read_52 rfl (by decide) rfl rfl ?_
  refine v_iincN 56 2 h dX12_read_53 rfl kc_i_1 (by decide) rfl (fun _ => rfl) (fun x7 h => ?_)
  refine v_iload_n 57 1 dX12_read_56 rfl rfl rfl ?_
  refine v_if_eq 60 20 h dX12_read_57 rfl (by decide) (fun h => ?_) (fun h => ?_)
  · refine v_sub [2, 0, 1] rfl ?_
    exact hc20 s6 x7 x5 h
  · refine v_aload_n 61 2 dX12_read_60 rfl rfl rfl ?_
    obtain ⟨s8, h0, h⟩ := ob h
    refine v_cV 64 8 [] (rfl : kK 112 = 8) rfl (c_X12_blanks _ h0) cl_X12_blanks gX12_read_X12_blanks rfl ⟨Nat.le_of_ble_eq_true rfl, Nat.le_of_ble_eq_true rfl⟩ rfl rfl (Nat.le_of_ble_eq_true rfl) dX12_read_61 rfl ?_
    refine v_goto 20 dX12_read_64 (by decide) ?_
    refine v_sub [2, 0, 1] rfl ?_
    exact hc20 s8 x7 x5 h
set_option maxRecDepth 100000 in
set_option maxHeartbeats 4000000 in
theorem q_X12_read_39 {g : Cx} (r : Int32) (τ : Sg) (c20 : Sg → Int32 → Int32 → Option (Int32 × Sg)) (hc20 : ∀ σ : Sg, ∀ l1 : Int32, ∀ l2 : Int32, c20 σ l1 l2 = some (r, τ) → V g cX12_read RX12 wsX12_read 3 (some .int) rm_X12_read (some (.int r)) τ σ 20 [(0, .ref (g.1 112)), (1, .int l1), (2, .int l2)] []) : ∀ σ : Sg, ∀ l1 : Int32, b_X12_read_39 c20 σ l1 = some (r, τ) → V g cX12_read RX12 wsX12_read 3 (some .int) rm_X12_read (some (.int r)) τ σ 39 [(0, .ref (g.1 112)), (1, .int l1)] [] := by
  intro σ l1 h
  unfold b_X12_read_39 at h
  refine v_aload_n 40 0 dX12_read_39 rfl rfl rfl ?_
  refine v_iload_n 41 1 dX12_read_40 rfl rfl rfl ?_
  refine v_if_ne 44 48 h dX12_read_41 rfl (by decide) (fun h => ?_) (fun h => ?_)
  · refine v_iconst 49 0 dX12_read_48 kc_i_0 rfl ?_
    refine v_sub [0, 1] rfl ?_
    exact q_X12_read_49 r τ c20 hc20 σ l1 0 (Or.inl rfl) h
  · refine v_iconst 45 1 dX12_read_44 kc_i_1 rfl ?_
    refine v_goto 49 dX12_read_45 (by decide) ?_
    refine v_sub [0, 1] rfl ?_
    exact q_X12_read_49 r τ c20 hc20 σ l1 1 (Or.inr rfl) h
set_option maxRecDepth 100000 in
set_option maxHeartbeats 4000000 in
theorem q_X12_read_20 {g : Cx} (r : Int32) (τ : Sg) : ∀ f : Nat, ∀ σ : Sg, ∀ l1 : Int32, ∀ l2 : Int32, b_X12_read_20 f σ l1 l2 = some (r, τ) → V g cX12_read RX12 wsX12_read 3 (some .int) rm_X12_read (some (.int r)) τ σ 20 [(0, .ref (g.1 112)), (1, .int l1), (2, .int l2)] [] := by
  intro f
  induction f with
  | zero =>
    intro σ l1 l2 h
    cases h
  | succ f ih =>
    intro σ l1 l2 h
    rw [b_X12_read_20] at h
    refine v_iload_n 21 2 dX12_read_20 rfl rfl rfl ?_
    refine v_if_eq 24 67 h dX12_read_21 rfl (by decide) (fun h => ?_) (fun h => ?_)
    · refine v_sub [0, 1, 2] rfl ?_
      exact q_X12_read_67 r τ σ l1 l2 h
    · refine v_aload_n 25 0 dX12_read_24 rfl rfl rfl ?_
      refine vg_8_8 28 (rfl : kK 112 = 8) in_X12_read_8 (mem_at 2 rfl) dX12_read_25 rfl ?_
      refine v_aload_n 29 0 dX12_read_28 rfl rfl rfl ?_
      refine vg_8_3 32 (rfl : kK 112 = 8) in_X12_read_8 (mem_at 3 rfl) dX12_read_29 rfl ?_
      refine v_icmp_lt 35 39 h dX12_read_32 rfl (by decide) (fun h => ?_) (fun h => ?_)
      · refine v_sub [0, 1] rfl ?_
        exact q_X12_read_39 r τ (b_X12_read_20 f) ih σ l1 h
      · refine v_iload_n 36 1 dX12_read_35 rfl rfl rfl ?_
        refine v_if_ne 39 67 h dX12_read_36 rfl (by decide) (fun h => ?_) (fun h => ?_)
        · refine v_sub [0, 1, 2] rfl ?_
          exact q_X12_read_67 r τ σ l1 l2 h
        · refine v_sub [0, 1] rfl ?_
          exact q_X12_read_39 r τ (b_X12_read_20 f) ih σ l1 h
set_option maxRecDepth 100000 in
set_option maxHeartbeats 4000000 in
theorem c_X12_read {g : Cx} {σ : Sg} (r : Int32) (τ : Sg) (h : f_X12_read σ = some (r, τ)) : ∀ l, MetF l yX12_read wsX12_read rm_X12_read g [.ref (g.1 112)] σ (some (.int r)) τ := by
  refine MetF.of (own0 := RX12) (lv0 := [(0, .ref (g.1 112))]) rfl cl_X12_read (by decide) (Nat.le_of_ble_eq_true rfl) rfl ?_
  unfold f_X12_read at h
  refine v_aload_n 1 0 dX12_read_0 rfl rfl rfl ?_
  refine v_sipush 4 723 dX12_read_1 kc_s_723 rfl ?_
  obtain ⟨s1, h0, h⟩ := ob h
  refine v_cV 7 8 [.int 723] (rfl : kK 112 = 8) rfl (c_X12_empties 723 _ h0) cl_X12_empties gX12_read_X12_empties rfl ⟨Nat.le_of_ble_eq_true rfl, Nat.le_of_ble_eq_true rfl⟩ rfl rfl (Nat.le_of_ble_eq_true rfl) dX12_read_4 rfl ?_
  refine v_aload_n 8 0 dX12_read_7 rfl rfl rfl ?_
  refine v_iconst 9 0 dX12_read_8 kc_i_0 rfl ?_
  refine vp_8_7 12 h (rfl : kK 112 = 8) in_X12_read_8 (mem_at 1 rfl) dX12_read_9 rfl (fun s2 h => ?_)
  refine v_iconst 13 0 dX12_read_12 kc_i_0 rfl ?_
  refine v_istore_n 14 dX12_read_13 rfl (by decide) rfl rfl ?_
  refine v_aload_n 15 1 dX12_read_14 rfl rfl rfl ?_
  obtain ⟨s3, h0, h⟩ := ob h
  refine v_cV 18 8 [] (rfl : kK 112 = 8) rfl (c_X12_blanks _ h0) cl_X12_blanks gX12_read_X12_blanks rfl ⟨Nat.le_of_ble_eq_true rfl, Nat.le_of_ble_eq_true rfl⟩ rfl rfl (Nat.le_of_ble_eq_true rfl) dX12_read_15 rfl ?_
  refine v_iconst 19 1 dX12_read_18 kc_i_1 rfl ?_
  refine v_istore_n 20 dX12_read_19 rfl (by decide) rfl rfl ?_
  refine v_sub [2, 1, 0] rfl ?_
  exact q_X12_read_20 r τ FU s3 0 1 h
-- public int reading(int, int, int);
abbrev rm_X12_reading : Room := { frames := 3, cells := 0, slots := 0, locals := 68 }
theorem cl_X12_reading : Cl yX12_reading wsX12_reading cX12_reading 5 (some .int) rm_X12_reading 3 := ⟨⟨_, rfl⟩, rfl, rfl, by decide +kernel, by decide +kernel, by decide +kernel⟩
theorem in_X12_reading_8 : ∀ w ∈ wsX120, w ∈ wsX12_reading := fun w h => List.mem_cons_of_mem _ (List.mem_append_right _ h)
def b_X12_reading_21 (l1 : Int32) (l2 : Int32) (l3 : Int32) (σ : Sg) : Option (Int32 × Sg) := bnd (f_X12_bad σ (-2)) fun x2 s3 => (some (x2, s3))
def f_X12_reading (σ : Sg) (l1 : Int32) (l2 : Int32) (l3 : Int32) : Option (Int32 × Sg) := (f_X12_arePans σ l1 l2).bind fun x1 => (if x1 = 0 then b_X12_reading_21 l1 l2 l3 σ else (if (f_X12_in (Int32.toInt64 l3) (-1) 1) = 0 then b_X12_reading_21 l1 l2 l3 σ else (if inb 43 (kLen 113) = true then (if (rI σ 113 (ix 43)) = 6 then bnd (f_X12_full σ) fun x9 s10 => (some (x9, s10)) else (if inb 43 (kLen 113) = true then nam (44 + (3 * (rI σ 113 (ix 43)))) fun x4 => (if inb x4 (kLen 113) = true then nam (stI σ 113 (ix x4) l1) (fun s5 => (if inb (x4 + 1) (kLen 113) = true then nam (stI s5 113 (ix (x4 + 1)) l2) (fun s6 => (if inb (x4 + 2) (kLen 113) = true then nam (stI s6 113 (ix (x4 + 2)) l3) (fun s7 => (if inb 43 (kLen 113) = true then (if inb 43 (kLen 113) = true then nam (stI s7 113 (ix 43) ((rI s7 113 (ix 43)) + 1)) (fun s8 => (if inb 43 (kLen 113) = true then (some (rI s8 113 (ix 43), s8)) else none)) else none) else none)) else none)) else none)) else none) else none)) else none)))
set_option maxRecDepth 100000 in
set_option maxHeartbeats 4000000 in
theorem q_X12_reading_21 {g : Cx} (l1 : Int32) (l2 : Int32) (l3 : Int32) (r : Int32) (τ : Sg) : ∀ σ : Sg, b_X12_reading_21 l1 l2 l3 σ = some (r, τ) → V g cX12_reading RX12 wsX12_reading 5 (some .int) rm_X12_reading (some (.int r)) τ σ 21 [(0, .ref (g.1 112))] [] := by
  intro σ h
  unfold b_X12_reading_21 at h
  refine v_aload_n 22 0 dX12_reading_21 rfl rfl rfl ?_
  refine v_bipush 24 (-2) dX12_reading_22 kc_b_m2 rfl ?_
  obtain ⟨x2, s3, h0, h⟩ := ob2 h
  refine v_cV 27 8 [.int (-2)] (rfl : kK 112 = 8) rfl (c_X12_bad (-2) _ _ h0) cl_X12_bad gX12_reading_X12_bad rfl ⟨Nat.le_of_ble_eq_true rfl, Nat.le_of_ble_eq_true rfl⟩ rfl rfl (Nat.le_of_ble_eq_true rfl) dX12_reading_24 rfl ?_
  exact v_iretS h rfl dX12_reading_27
set_option maxRecDepth 100000 in
set_option maxHeartbeats 4000000 in
theorem c_X12_reading {g : Cx} {σ : Sg} (l1 : Int32) (l2 : Int32) (l3 : Int32) (r : Int32) (τ : Sg) (h : f_X12_reading σ l1 l2 l3 = some (r, τ)) : ∀ l, MetF l yX12_reading wsX12_reading rm_X12_reading g [.ref (g.1 112), .int l1, .int l2, .int l3] σ (some (.int r)) τ := by
  refine MetF.of (own0 := RX12) (lv0 := [(0, .ref (g.1 112)), (1, .int l1), (2, .int l2), (3, .int l3)]) rfl cl_X12_reading (by decide) (Nat.le_of_ble_eq_true rfl) rfl ?_
  unfold f_X12_reading at h
  refine v_aload_n 1 0 dX12_reading_0 rfl rfl rfl ?_
  refine v_iload_n 2 1 dX12_reading_1 rfl rfl rfl ?_
  refine v_iload_n 3 2 dX12_reading_2 rfl rfl rfl ?_
  obtain ⟨x1, h0, h⟩ := ob h
  refine v_cV 6 8 [.int l1, .int l2] (rfl : kK 112 = 8) rfl (c_X12_arePans l1 l2 _ h0) cl_X12_arePans gX12_reading_X12_arePans rfl ⟨Nat.le_of_ble_eq_true rfl, Nat.le_of_ble_eq_true rfl⟩ rfl rfl (Nat.le_of_ble_eq_true rfl) dX12_reading_3 rfl ?_
  refine v_if_eq 9 21 h dX12_reading_6 rfl (by decide) (fun h => ?_) (fun h => ?_)
  · refine v_sub [0] rfl ?_
    exact q_X12_reading_21 l1 l2 l3 r τ σ h
  · refine v_iload_n 10 3 dX12_reading_9 rfl rfl rfl ?_
    refine v_i2l 11 dX12_reading_10 rfl ?_
    refine v_ldc2 14 (-1) dX12_reading_11 (mem_at 1 rfl) rfl ?_
    refine v_lconst 15 1 dX12_reading_14 kc_l_1 rfl ?_
    refine v_cS 18 [.long (Int32.toInt64 l3), .long (-1), .long 1] (c_X12_in (Int32.toInt64 l3) (-1) 1) cl_X12_in gX12_reading_X12_in ⟨Nat.le_of_ble_eq_true rfl, Nat.le_of_ble_eq_true rfl⟩ rfl rfl (Nat.le_of_ble_eq_true rfl) dX12_reading_15 rfl ?_
    refine v_if_ne 21 28 h dX12_reading_18 rfl (by decide) (fun h => ?_) (fun h => ?_)
    · refine v_aload_n 29 0 dX12_reading_28 rfl rfl rfl ?_
      refine vg_8_0 32 (rfl : kK 112 = 8) in_X12_reading_8 (mem_at 2 rfl) dX12_reading_29 rfl ?_
      refine v_bipush 34 43 dX12_reading_32 kc_b_43 rfl ?_
      refine v_iald 35 h (rfl : kK 113 = 9) dX12_reading_34 rfl (fun h => ?_)
      refine v_bipush 37 6 dX12_reading_35 kc_b_6 rfl ?_
      refine v_icmp_ne 40 45 h dX12_reading_37 rfl (by decide) (fun h => ?_) (fun h => ?_)
      · refine v_bipush 47 44 dX12_reading_45 kc_b_44 rfl ?_
        refine v_iconst 48 3 dX12_reading_47 kc_i_3 rfl ?_
        refine v_aload_n 49 0 dX12_reading_48 rfl rfl rfl ?_
        refine vg_8_0 52 (rfl : kK 112 = 8) in_X12_reading_8 (mem_at 2 rfl) dX12_reading_49 rfl ?_
        refine v_bipush 54 43 dX12_reading_52 kc_b_43 rfl ?_
        refine v_iald 55 h (rfl : kK 113 = 9) dX12_reading_54 rfl (fun h => ?_)
        refine v_imul 56 dX12_reading_55 rfl ?_
        refine v_iadd 57 dX12_reading_56 rfl ?_
        refine v_istoreN 59 h dX12_reading_57 (by decide) rfl (fun _ => rfl) (fun x4 h => ?_)
        refine v_aload_n 60 1 dX12_reading_59 rfl rfl rfl ?_
        refine vg_8_0 63 (rfl : kK 112 = 8) in_X12_reading_8 (mem_at 2 rfl) dX12_reading_60 rfl ?_
        refine v_iload 65 0 dX12_reading_63 rfl rfl ?_
        refine v_iload_n 66 2 dX12_reading_65 rfl rfl rfl ?_
        refine v_iast 67 h (rfl : kK 113 = 9) dX12_reading_66 rfl (fun s5 h => ?_)
        refine v_aload_n 68 1 dX12_reading_67 rfl rfl rfl ?_
        refine vg_8_0 71 (rfl : kK 112 = 8) in_X12_reading_8 (mem_at 2 rfl) dX12_reading_68 rfl ?_
        refine v_iload 73 0 dX12_reading_71 rfl rfl ?_
        refine v_iconst 74 1 dX12_reading_73 kc_i_1 rfl ?_
        refine v_iadd 75 dX12_reading_74 rfl ?_
        refine v_iload_n 76 3 dX12_reading_75 rfl rfl rfl ?_
        refine v_iast 77 h (rfl : kK 113 = 9) dX12_reading_76 rfl (fun s6 h => ?_)
        refine v_aload_n 78 1 dX12_reading_77 rfl rfl rfl ?_
        refine vg_8_0 81 (rfl : kK 112 = 8) in_X12_reading_8 (mem_at 2 rfl) dX12_reading_78 rfl ?_
        refine v_iload 83 0 dX12_reading_81 rfl rfl ?_
        refine v_iconst 84 2 dX12_reading_83 kc_i_2 rfl ?_
        refine v_iadd 85 dX12_reading_84 rfl ?_
        refine v_iload_n 86 4 dX12_reading_85 rfl rfl rfl ?_
        refine v_iast 87 h (rfl : kK 113 = 9) dX12_reading_86 rfl (fun s7 h => ?_)
        refine v_aload_n 88 1 dX12_reading_87 rfl rfl rfl ?_
        refine vg_8_0 91 (rfl : kK 112 = 8) in_X12_reading_8 (mem_at 2 rfl) dX12_reading_88 rfl ?_
        refine v_bipush 93 43 dX12_reading_91 kc_b_43 rfl ?_
        refine v_dup2 94 dX12_reading_93 rfl rfl rfl ?_
        refine v_iald 95 h (rfl : kK 113 = 9) dX12_reading_94 rfl (fun h => ?_)
        refine v_iconst 96 1 dX12_reading_95 kc_i_1 rfl ?_
        refine v_iadd 97 dX12_reading_96 rfl ?_
        refine v_iast 98 h (rfl : kK 113 = 9) dX12_reading_97 rfl (fun s8 h => ?_)
        refine v_aload_n 99 1 dX12_reading_98 rfl rfl rfl ?_
        refine vg_8_0 102 (rfl : kK 112 = 8) in_X12_reading_8 (mem_at 2 rfl) dX12_reading_99 rfl ?_
        refine v_bipush 104 43 dX12_reading_102 kc_b_43 rfl ?_
        refine v_iald 105 h (rfl : kK 113 = 9) dX12_reading_104 rfl (fun h => ?_)
        exact v_iretS h rfl dX12_reading_105
      · refine v_aload_n 41 0 dX12_reading_40 rfl rfl rfl ?_
        obtain ⟨x9, s10, h0, h⟩ := ob2 h
        refine v_cV 44 8 [] (rfl : kK 112 = 8) rfl (c_X12_full _ _ h0) cl_X12_full gX12_reading_X12_full rfl ⟨Nat.le_of_ble_eq_true rfl, Nat.le_of_ble_eq_true rfl⟩ rfl rfl (Nat.le_of_ble_eq_true rfl) dX12_reading_41 rfl ?_
        exact v_iretS h rfl dX12_reading_44
    · refine v_sub [0] rfl ?_
      exact q_X12_reading_21 l1 l2 l3 r τ σ h
-- public int refusals(int, int, int);
abbrev rm_X12_refusals : Room := { frames := 2, cells := 0, slots := 0, locals := 46 }
theorem cl_X12_refusals : Cl yX12_refusals wsX12_refusals cX12_refusals 14 (some .int) rm_X12_refusals 3 := ⟨⟨_, rfl⟩, rfl, rfl, by decide +kernel, by decide +kernel, by decide +kernel⟩
theorem in_X12_refusals_8 : ∀ w ∈ wsX120, w ∈ wsX12_refusals := fun w h => List.mem_cons_of_mem _ (List.mem_append_right _ h)
def b_X12_refusals_32 (l1 : Int32) (l2 : Int32) (l3 : Int32) (σ : Sg) : Option (Int32 × Sg) := bnd (f_X12_bad σ (-2)) fun x2 s3 => (some (x2, s3))
def b_X12_refusals_128 (l1 : Int32) (l2 : Int32) (l3 : Int32) : Nat → Sg → Int64 → Int64 → Int64 → Int64 → Option (Int32 × Sg)
  | 0, _, _, _, _, _ => none
  | f + 1, σ, l4, l6, l8, l10 => (if (lg_cmp l10 0) = 0 then if l8 = 0 then none else nam (stL σ 112 4 (l4 / l8)) fun s4 => if l8 = 0 then none else nam (stL s4 112 5 (l6 / l8)) fun s5 => (some (1, s5)) else if l10 = 0 then none else nam (l8 - l8 / l10 * l10) fun x6 => b_X12_refusals_128 l1 l2 l3 f σ l4 l6 l10 x6)
def b_X12_refusals_114 (l1 : Int32) (l2 : Int32) (l3 : Int32) (c48 : Sg → Int64 → Int64 → Int32 → Option (Int32 × Sg)) (σ : Sg) (l4 : Int64) (l6 : Int64) (l8 : Int32) : Option (Int32 × Sg) := nam (l8 + 1) fun x7 => c48 σ l4 l6 x7
def b_X12_refusals_103 (l1 : Int32) (l2 : Int32) (l3 : Int32) (c48 : Sg → Int64 → Int64 → Int32 → Option (Int32 × Sg)) (σ : Sg) (l6 : Int64) (l8 : Int32) (t0 : Int64) (t1 : Int64) : Option (Int32 × Sg) := nam (t1 * t0) fun x9 => nam (l6 * 10) fun x10 => b_X12_refusals_114 l1 l2 l3 c48 σ x9 x10 l8
def b_X12_refusals_48 (l1 : Int32) (l2 : Int32) (l3 : Int32) : Nat → Sg → Int64 → Int64 → Int32 → Option (Int32 × Sg)
  | 0, _, _, _, _ => none
  | f + 1, σ, l4, l6, l8 => (if inb 0 (kLen 113) = true then (if (rI σ 113 (ix 0)) ≤ l8 then b_X12_refusals_128 l1 l2 l3 FU σ l4 l6 l4 l6 else (if (f_X12_has l1 l8) = 0 then b_X12_refusals_114 l1 l2 l3 (b_X12_refusals_48 l1 l2 l3 f) σ l4 l6 l8 else (if inb 3 (kLen 113) = true then (if (f_X12_has (rI σ 113 (ix 3)) l8) = 0 then (f_X12_wouldLend σ l8 l2).bind fun x8 => (if x8 = 0 then b_X12_refusals_103 l1 l2 l3 (b_X12_refusals_48 l1 l2 l3 f) σ l6 l8 0 l4 else b_X12_refusals_103 l1 l2 l3 (b_X12_refusals_48 l1 l2 l3 f) σ l6 l8 (Int32.toInt64 (10 - l3)) l4) else b_X12_refusals_114 l1 l2 l3 (b_X12_refusals_48 l1 l2 l3 f) σ l4 l6 l8) else none))) else none)
def f_X12_refusals (σ : Sg) (l1 : Int32) (l2 : Int32) (l3 : Int32) : Option (Int32 × Sg) := (f_X12_areKeepers σ l1).bind fun x1 => (if x1 = 0 then b_X12_refusals_32 l1 l2 l3 σ else (if (f_X12_in (Int32.toInt64 l2) 0 9) = 0 then b_X12_refusals_32 l1 l2 l3 σ else (if (f_X12_in (Int32.toInt64 l3) 0 10) = 0 then b_X12_refusals_32 l1 l2 l3 σ else b_X12_refusals_48 l1 l2 l3 FU σ 1 1 0)))
set_option maxRecDepth 100000 in
set_option maxHeartbeats 4000000 in
theorem q_X12_refusals_32 {g : Cx} (l1 : Int32) (l2 : Int32) (l3 : Int32) (r : Int32) (τ : Sg) : ∀ σ : Sg, b_X12_refusals_32 l1 l2 l3 σ = some (r, τ) → V g cX12_refusals RX12 wsX12_refusals 14 (some .int) rm_X12_refusals (some (.int r)) τ σ 32 [(0, .ref (g.1 112))] [] := by
  intro σ h
  unfold b_X12_refusals_32 at h
  refine v_aload_n 33 0 dX12_refusals_32 rfl rfl rfl ?_
  refine v_bipush 35 (-2) dX12_refusals_33 kc_b_m2 rfl ?_
  obtain ⟨x2, s3, h0, h⟩ := ob2 h
  refine v_cV 38 8 [.int (-2)] (rfl : kK 112 = 8) rfl (c_X12_bad (-2) _ _ h0) cl_X12_bad gX12_refusals_X12_bad rfl ⟨Nat.le_of_ble_eq_true rfl, Nat.le_of_ble_eq_true rfl⟩ rfl rfl (Nat.le_of_ble_eq_true rfl) dX12_refusals_35 rfl ?_
  exact v_iretS h rfl dX12_refusals_38
set_option maxRecDepth 100000 in
set_option maxHeartbeats 4000000 in
theorem q_X12_refusals_128 {g : Cx} (l1 : Int32) (l2 : Int32) (l3 : Int32) (r : Int32) (τ : Sg) : ∀ f : Nat, ∀ σ : Sg, ∀ l4 : Int64, ∀ l6 : Int64, ∀ l8 : Int64, ∀ l10 : Int64, b_X12_refusals_128 l1 l2 l3 f σ l4 l6 l8 l10 = some (r, τ) → V g cX12_refusals RX12 wsX12_refusals 14 (some .int) rm_X12_refusals (some (.int r)) τ σ 128 [(0, .ref (g.1 112)), (4, .long l4), (6, .long l6), (8, .long l8), (10, .long l10)] [] := by
  intro f
  induction f with
  | zero =>
    intro σ l4 l6 l8 l10 h
    cases h
  | succ f ih =>
    intro σ l4 l6 l8 l10 h
    rw [b_X12_refusals_128] at h
    refine v_lload 130 4 dX12_refusals_128 rfl rfl ?_
    refine v_lconst 131 0 dX12_refusals_130 kc_l_0 rfl ?_
    refine v_lcmp 132 dX12_refusals_131 rfl ?_
    refine v_if_eq 135 153 h dX12_refusals_132 rfl (by decide) (fun h => ?_) (fun h => ?_)
    · refine v_aload_n 154 0 dX12_refusals_153 rfl rfl rfl ?_
      refine v_lload 156 1 dX12_refusals_154 rfl rfl ?_
      refine v_lload 158 3 dX12_refusals_156 rfl rfl ?_
      refine v_ldivC 159 h dX12_refusals_158 rfl (fun h => ?_)
      refine vp_8_4 162 h (rfl : kK 112 = 8) in_X12_refusals_8 (mem_at 4 rfl) dX12_refusals_159 rfl (fun s4 h => ?_)
      refine v_aload_n 163 0 dX12_refusals_162 rfl rfl rfl ?_
      refine v_lload 165 2 dX12_refusals_163 rfl rfl ?_
      refine v_lload 167 3 dX12_refusals_165 rfl rfl ?_
      refine v_ldivC 168 h dX12_refusals_167 rfl (fun h => ?_)
      refine vp_8_5 171 h (rfl : kK 112 = 8) in_X12_refusals_8 (mem_at 5 rfl) dX12_refusals_168 rfl (fun s5 h => ?_)
      refine v_iconst 172 1 dX12_refusals_171 kc_i_1 rfl ?_
      exact v_iretS h rfl dX12_refusals_172
    · refine v_lload 137 3 dX12_refusals_135 rfl rfl ?_
      refine v_lload 139 4 dX12_refusals_137 rfl rfl ?_
      refine v_lremC 140 h dX12_refusals_139 rfl (fun h => ?_)
      refine v_lstoreN 142 h dX12_refusals_140 (by decide) rfl (fun _ => rfl) (fun x6 h => ?_)
      refine v_lload 144 5 dX12_refusals_142 rfl rfl ?_
      refine v_lstore 146 dX12_refusals_144 (by decide) rfl rfl ?_
      refine v_lload 148 1 dX12_refusals_146 rfl rfl ?_
      refine v_lstore 150 dX12_refusals_148 (by decide) rfl rfl ?_
      refine v_goto 128 dX12_refusals_150 (by decide) ?_
      refine v_sub [3, 4, 5, 1, 0] rfl ?_
      exact ih σ l4 l6 l10 x6 h
set_option maxRecDepth 100000 in
set_option maxHeartbeats 4000000 in
theorem q_X12_refusals_114 {g : Cx} (l1 : Int32) (l2 : Int32) (l3 : Int32) (r : Int32) (τ : Sg) (c48 : Sg → Int64 → Int64 → Int32 → Option (Int32 × Sg)) (hc48 : ∀ σ : Sg, ∀ l4 : Int64, ∀ l6 : Int64, ∀ l8 : Int32, c48 σ l4 l6 l8 = some (r, τ) → V g cX12_refusals RX12 wsX12_refusals 14 (some .int) rm_X12_refusals (some (.int r)) τ σ 48 [(0, .ref (g.1 112)), (1, .int l1), (2, .int l2), (3, .int l3), (4, .long l4), (6, .long l6), (8, .int l8)] []) : ∀ σ : Sg, ∀ l4 : Int64, ∀ l6 : Int64, ∀ l8 : Int32, b_X12_refusals_114 l1 l2 l3 c48 σ l4 l6 l8 = some (r, τ) → V g cX12_refusals RX12 wsX12_refusals 14 (some .int) rm_X12_refusals (some (.int r)) τ σ 114 [(0, .ref (g.1 112)), (1, .int l1), (2, .int l2), (3, .int l3), (4, .long l4), (6, .long l6), (8, .int l8)] [] := by
  intro σ l4 l6 l8 h
  unfold b_X12_refusals_114 at h
  refine v_iincN 117 6 h dX12_refusals_114 rfl kc_i_1 (by decide) rfl (fun _ => rfl) (fun x7 h => ?_)
  refine v_goto 48 dX12_refusals_117 (by decide) ?_
  refine v_sub [1, 2, 3, 4, 5, 6, 0] rfl ?_
  exact hc48 σ l4 l6 x7 h
set_option maxRecDepth 100000 in
set_option maxHeartbeats 4000000 in
theorem q_X12_refusals_103 {g : Cx} (l1 : Int32) (l2 : Int32) (l3 : Int32) (r : Int32) (τ : Sg) (c48 : Sg → Int64 → Int64 → Int32 → Option (Int32 × Sg)) (hc48 : ∀ σ : Sg, ∀ l4 : Int64, ∀ l6 : Int64, ∀ l8 : Int32, c48 σ l4 l6 l8 = some (r, τ) → V g cX12_refusals RX12 wsX12_refusals 14 (some .int) rm_X12_refusals (some (.int r)) τ σ 48 [(0, .ref (g.1 112)), (1, .int l1), (2, .int l2), (3, .int l3), (4, .long l4), (6, .long l6), (8, .int l8)] []) : ∀ σ : Sg, ∀ l6 : Int64, ∀ l8 : Int32, ∀ t0 : Int64, ∀ t1 : Int64, b_X12_refusals_103 l1 l2 l3 c48 σ l6 l8 t0 t1 = some (r, τ) → V g cX12_refusals RX12 wsX12_refusals 14 (some .int) rm_X12_refusals (some (.int r)) τ σ 103 [(0, .ref (g.1 112)), (1, .int l1), (2, .int l2), (3, .int l3), (6, .long l6), (8, .int l8)] [.long t0, .long t1] := by
  intro σ l6 l8 t0 t1 h
  unfold b_X12_refusals_103 at h
  refine v_lmul 104 dX12_refusals_103 rfl ?_
  refine v_lstoreN 106 h dX12_refusals_104 (by decide) rfl (fun _ => rfl) (fun x9 h => ?_)
  refine v_lload 108 5 dX12_refusals_106 rfl rfl ?_
  refine v_ldc2 111 10 dX12_refusals_108 (mem_at 2 rfl) rfl ?_
  refine v_lmul 112 dX12_refusals_111 rfl ?_
  refine v_lstoreN 114 h dX12_refusals_112 (by decide) rfl (fun _ => rfl) (fun x10 h => ?_)
  refine v_sub [2, 3, 4, 5, 1, 0, 6] rfl ?_
  exact q_X12_refusals_114 l1 l2 l3 r τ c48 hc48 σ x9 x10 l8 h
set_option maxRecDepth 100000 in
set_option maxHeartbeats 4000000 in
theorem q_X12_refusals_48 {g : Cx} (l1 : Int32) (l2 : Int32) (l3 : Int32) (r : Int32) (τ : Sg) : ∀ f : Nat, ∀ σ : Sg, ∀ l4 : Int64, ∀ l6 : Int64, ∀ l8 : Int32, b_X12_refusals_48 l1 l2 l3 f σ l4 l6 l8 = some (r, τ) → V g cX12_refusals RX12 wsX12_refusals 14 (some .int) rm_X12_refusals (some (.int r)) τ σ 48 [(0, .ref (g.1 112)), (1, .int l1), (2, .int l2), (3, .int l3), (4, .long l4), (6, .long l6), (8, .int l8)] [] := by
  intro f
  induction f with
  | zero =>
    intro σ l4 l6 l8 h
    cases h
  | succ f ih =>
    intro σ l4 l6 l8 h
    rw [b_X12_refusals_48] at h
    refine v_iload 50 6 dX12_refusals_48 rfl rfl ?_
    refine v_aload_n 51 0 dX12_refusals_50 rfl rfl rfl ?_
    refine vg_8_0 54 (rfl : kK 112 = 8) in_X12_refusals_8 (mem_at 3 rfl) dX12_refusals_51 rfl ?_
    refine v_iconst 55 0 dX12_refusals_54 kc_i_0 rfl ?_
    refine v_iald 56 h (rfl : kK 113 = 9) dX12_refusals_55 rfl (fun h => ?_)
    refine v_icmp_ge 59 120 h dX12_refusals_56 rfl (by decide) (fun h => ?_) (fun h => ?_)
    · refine v_lload 122 4 dX12_refusals_120 rfl rfl ?_
      refine v_lstore 124 dX12_refusals_122 (by decide) rfl rfl ?_
      refine v_lload 126 6 dX12_refusals_124 rfl rfl ?_
      refine v_lstore 128 dX12_refusals_126 (by decide) rfl rfl ?_
      refine v_sub [2, 6, 7, 1, 0] rfl ?_
      exact q_X12_refusals_128 l1 l2 l3 r τ FU σ l4 l6 l4 l6 h
    · refine v_iload_n 60 1 dX12_refusals_59 rfl rfl rfl ?_
      refine v_iload 62 6 dX12_refusals_60 rfl rfl ?_
      refine v_cS 65 [.int l1, .int l8] (c_X12_has l1 l8) cl_X12_has gX12_refusals_X12_has ⟨Nat.le_of_ble_eq_true rfl, Nat.le_of_ble_eq_true rfl⟩ rfl rfl (Nat.le_of_ble_eq_true rfl) dX12_refusals_62 rfl ?_
      refine v_if_eq 68 114 h dX12_refusals_65 rfl (by decide) (fun h => ?_) (fun h => ?_)
      · refine v_sub [0, 1, 2, 3, 4, 5, 6] rfl ?_
        exact q_X12_refusals_114 l1 l2 l3 r τ (b_X12_refusals_48 l1 l2 l3 f) ih σ l4 l6 l8 h
      · refine v_aload_n 69 0 dX12_refusals_68 rfl rfl rfl ?_
        refine vg_8_0 72 (rfl : kK 112 = 8) in_X12_refusals_8 (mem_at 3 rfl) dX12_refusals_69 rfl ?_
        refine v_iconst 73 3 dX12_refusals_72 kc_i_3 rfl ?_
        refine v_iald 74 h (rfl : kK 113 = 9) dX12_refusals_73 rfl (fun h => ?_)
        refine v_iload 76 6 dX12_refusals_74 rfl rfl ?_
        refine v_cS 79 [.int (rI σ 113 (ix 3)), .int l8] (c_X12_has (rI σ 113 (ix 3)) l8) cl_X12_has gX12_refusals_X12_has ⟨Nat.le_of_ble_eq_true rfl, Nat.le_of_ble_eq_true rfl⟩ rfl rfl (Nat.le_of_ble_eq_true rfl) dX12_refusals_76 rfl ?_
        refine v_if_ne 82 114 h dX12_refusals_79 rfl (by decide) (fun h => ?_) (fun h => ?_)
        · refine v_sub [0, 1, 2, 3, 4, 5, 6] rfl ?_
          exact q_X12_refusals_114 l1 l2 l3 r τ (b_X12_refusals_48 l1 l2 l3 f) ih σ l4 l6 l8 h
        · refine v_lload 84 4 dX12_refusals_82 rfl rfl ?_
          refine v_aload_n 85 0 dX12_refusals_84 rfl rfl rfl ?_
          refine v_iload 87 6 dX12_refusals_85 rfl rfl ?_
          refine v_iload_n 88 2 dX12_refusals_87 rfl rfl rfl ?_
          obtain ⟨x8, h0, h⟩ := ob h
          refine v_cV 91 8 [.int l8, .int l2] (rfl : kK 112 = 8) rfl (c_X12_wouldLend l8 l2 _ h0) cl_X12_wouldLend gX12_refusals_X12_wouldLend rfl ⟨Nat.le_of_ble_eq_true rfl, Nat.le_of_ble_eq_true rfl⟩ rfl rfl (Nat.le_of_ble_eq_true rfl) dX12_refusals_88 rfl ?_
          refine v_if_eq 94 102 h dX12_refusals_91 rfl (by decide) (fun h => ?_) (fun h => ?_)
          · refine v_lconst 103 0 dX12_refusals_102 kc_l_0 rfl ?_
            refine v_sub [0, 1, 2, 3, 5, 6] rfl ?_
            exact q_X12_refusals_103 l1 l2 l3 r τ (b_X12_refusals_48 l1 l2 l3 f) ih σ l6 l8 0 l4 h
          · refine v_bipush 96 10 dX12_refusals_94 kc_b_10 rfl ?_
            refine v_iload_n 97 3 dX12_refusals_96 rfl rfl rfl ?_
            refine v_isub 98 dX12_refusals_97 rfl ?_
            refine v_i2l 99 dX12_refusals_98 rfl ?_
            refine v_goto 103 dX12_refusals_99 (by decide) ?_
            refine v_sub [0, 1, 2, 3, 5, 6] rfl ?_
            exact q_X12_refusals_103 l1 l2 l3 r τ (b_X12_refusals_48 l1 l2 l3 f) ih σ l6 l8 (Int32.toInt64 (10 - l3)) l4 h
set_option maxRecDepth 100000 in
set_option maxHeartbeats 4000000 in
theorem c_X12_refusals {g : Cx} {σ : Sg} (l1 : Int32) (l2 : Int32) (l3 : Int32) (r : Int32) (τ : Sg) (h : f_X12_refusals σ l1 l2 l3 = some (r, τ)) : ∀ l, MetF l yX12_refusals wsX12_refusals rm_X12_refusals g [.ref (g.1 112), .int l1, .int l2, .int l3] σ (some (.int r)) τ := by
  refine MetF.of (own0 := RX12) (lv0 := [(0, .ref (g.1 112)), (1, .int l1), (2, .int l2), (3, .int l3)]) rfl cl_X12_refusals (by decide) (Nat.le_of_ble_eq_true rfl) rfl ?_
  unfold f_X12_refusals at h
  refine v_aload_n 1 0 dX12_refusals_0 rfl rfl rfl ?_
  refine v_iload_n 2 1 dX12_refusals_1 rfl rfl rfl ?_
  obtain ⟨x1, h0, h⟩ := ob h
  refine v_cV 5 8 [.int l1] (rfl : kK 112 = 8) rfl (c_X12_areKeepers l1 _ h0) cl_X12_areKeepers gX12_refusals_X12_areKeepers rfl ⟨Nat.le_of_ble_eq_true rfl, Nat.le_of_ble_eq_true rfl⟩ rfl rfl (Nat.le_of_ble_eq_true rfl) dX12_refusals_2 rfl ?_
  refine v_if_eq 8 32 h dX12_refusals_5 rfl (by decide) (fun h => ?_) (fun h => ?_)
  · refine v_sub [0] rfl ?_
    exact q_X12_refusals_32 l1 l2 l3 r τ σ h
  · refine v_iload_n 9 2 dX12_refusals_8 rfl rfl rfl ?_
    refine v_i2l 10 dX12_refusals_9 rfl ?_
    refine v_lconst 11 0 dX12_refusals_10 kc_l_0 rfl ?_
    refine v_ldc2 14 9 dX12_refusals_11 (mem_at 1 rfl) rfl ?_
    refine v_cS 17 [.long (Int32.toInt64 l2), .long 0, .long 9] (c_X12_in (Int32.toInt64 l2) 0 9) cl_X12_in gX12_refusals_X12_in ⟨Nat.le_of_ble_eq_true rfl, Nat.le_of_ble_eq_true rfl⟩ rfl rfl (Nat.le_of_ble_eq_true rfl) dX12_refusals_14 rfl ?_
    refine v_if_eq 20 32 h dX12_refusals_17 rfl (by decide) (fun h => ?_) (fun h => ?_)
    · refine v_sub [0] rfl ?_
      exact q_X12_refusals_32 l1 l2 l3 r τ σ h
    · refine v_iload_n 21 3 dX12_refusals_20 rfl rfl rfl ?_
      refine v_i2l 22 dX12_refusals_21 rfl ?_
      refine v_lconst 23 0 dX12_refusals_22 kc_l_0 rfl ?_
      refine v_ldc2 26 10 dX12_refusals_23 (mem_at 2 rfl) rfl ?_
      refine v_cS 29 [.long (Int32.toInt64 l3), .long 0, .long 10] (c_X12_in (Int32.toInt64 l3) 0 10) cl_X12_in gX12_refusals_X12_in ⟨Nat.le_of_ble_eq_true rfl, Nat.le_of_ble_eq_true rfl⟩ rfl rfl (Nat.le_of_ble_eq_true rfl) dX12_refusals_26 rfl ?_
      refine v_if_ne 32 39 h dX12_refusals_29 rfl (by decide) (fun h => ?_) (fun h => ?_)
      · refine v_lconst 40 1 dX12_refusals_39 kc_l_1 rfl ?_
        refine v_lstore 42 dX12_refusals_40 (by decide) rfl rfl ?_
        refine v_lconst 43 1 dX12_refusals_42 kc_l_1 rfl ?_
        refine v_lstore 45 dX12_refusals_43 (by decide) rfl rfl ?_
        refine v_iconst 46 0 dX12_refusals_45 kc_i_0 rfl ?_
        refine v_istore 48 dX12_refusals_46 (by decide) rfl rfl ?_
        refine v_sub [3, 4, 5, 6, 2, 1, 0] rfl ?_
        exact q_X12_refusals_48 l1 l2 l3 r τ FU σ 1 1 0 h
      · refine v_sub [0] rfl ?_
        exact q_X12_refusals_32 l1 l2 l3 r τ σ h
-- private int shortest(int);
abbrev rm_X12_shortest : Room := { frames := 1, cells := 0, slots := 0, locals := 22 }
theorem cl_X12_shortest : Cl yX12_shortest wsX12_shortest cX12_shortest 9 (some .int) rm_X12_shortest 1 := ⟨⟨_, rfl⟩, rfl, rfl, by decide +kernel, by decide +kernel, by decide +kernel⟩
theorem in_X12_shortest_8 : ∀ w ∈ wsX120, w ∈ wsX12_shortest := fun w h => List.mem_cons_of_mem _ (List.mem_append_right _ h)
def b_X12_shortest_275 (l1 : Int32) (c25 : Sg → Int32 → Int32 → Int32 → Option (Int32 × Sg)) (σ : Sg) (l2 : Int32) (l3 : Int32) (l4 : Int32) : Option (Int32 × Sg) := c25 σ l2 l3 l4
def b_X12_shortest_204 (l1 : Int32) (c25 : Sg → Int32 → Int32 → Int32 → Option (Int32 × Sg)) (σ : Sg) (l2 : Int32) (l3 : Int32) (l4 : Int32) (l6 : Int32) (l7 : Int32) : Option (Int32 × Sg) := (if inb l4 (kLen 117) = true then nam (stI σ 117 (ix l4) l7) (fun s5 => (if inb 0 (kLen 113) = true then (if l7 = (rI s5 113 (ix 0)) then nam (l4 + (-1)) fun x9 => b_X12_shortest_275 l1 c25 s5 l2 l3 x9 else (if inb l4 (kLen 118) = true then (if inb (11 + l7) (kLen 113) = true then (if inb (l4 + 1) (kLen 118) = true then nam (stI s5 118 (ix (l4 + 1)) (((rI s5 118 (ix l4)) + 1) + (f_X12_goesRound l6 (rI s5 113 (ix (11 + l7)))))) (fun s6 => nam (l4 + 1) fun x7 => (if inb x7 (kLen 117) = true then nam (stI s6 117 (ix x7) (-1)) (fun s8 => b_X12_shortest_275 l1 c25 s8 l2 l3 x7) else none)) else none) else none) else none)) else none)) else none)
def b_X12_shortest_198 (l1 : Int32) (c25 : Sg → Int32 → Int32 → Int32 → Option (Int32 × Sg)) (c168 : Sg → Int32 → Int32 → Int32 → Int32 → Int32 → Int32 → Option (Int32 × Sg)) (σ : Sg) (l2 : Int32) (l3 : Int32) (l4 : Int32) (l5 : Int32) (l6 : Int32) (l7 : Int32) : Option (Int32 × Sg) := nam (l7 + 1) fun x10 => c168 σ l2 l3 l4 l5 l6 x10
def b_X12_shortest_168 (l1 : Int32) (c25 : Sg → Int32 → Int32 → Int32 → Option (Int32 × Sg)) : Nat → Sg → Int32 → Int32 → Int32 → Int32 → Int32 → Int32 → Option (Int32 × Sg)
  | 0, _, _, _, _, _, _, _ => none
  | f + 1, σ, l2, l3, l4, l5, l6, l7 => (if inb 0 (kLen 113) = true then (if (rI σ 113 (ix 0)) ≤ l7 then b_X12_shortest_204 l1 c25 σ l2 l3 l4 l6 l7 else (if (f_X12_has l1 l7) = 0 then b_X12_shortest_198 l1 c25 (b_X12_shortest_168 l1 c25 f) σ l2 l3 l4 l5 l6 l7 else (if (f_X12_has l5 l7) = 0 then b_X12_shortest_204 l1 c25 σ l2 l3 l4 l6 l7 else b_X12_shortest_198 l1 c25 (b_X12_shortest_168 l1 c25 f) σ l2 l3 l4 l5 l6 l7))) else none)
def b_X12_shortest_151 (l1 : Int32) (c25 : Sg → Int32 → Int32 → Int32 → Option (Int32 × Sg)) (σ : Sg) (l2 : Int32) (l3 : Int32) (l4 : Int32) : Option (Int32 × Sg) := nam (l4 + (-1)) fun x12 => b_X12_shortest_275 l1 c25 σ l2 l3 x12
def b_X12_shortest_125 (l1 : Int32) (c25 : Sg → Int32 → Int32 → Int32 → Option (Int32 × Sg)) : Nat → Sg → Int32 → Int32 → Int32 → Int32 → Option (Int32 × Sg)
  | 0, _, _, _, _, _ => none
  | f + 1, σ, l2, l3, l4, l8 => (if l2 ≤ l8 then b_X12_shortest_151 l1 c25 σ l2 l3 l4 else (if inb l8 (kLen 117) = true then (if inb l8 (kLen 119) = true then nam (stI σ 119 (ix l8) (rI σ 117 (ix l8))) (fun s13 => nam (l8 + 1) fun x14 => b_X12_shortest_125 l1 c25 f s13 l2 l3 l4 x14) else none) else none))
def b_X12_shortest_89 (l1 : Int32) (c25 : Sg → Int32 → Int32 → Int32 → Option (Int32 × Sg)) (σ : Sg) (l2 : Int32) (l3 : Int32) (l4 : Int32) (l5 : Int32) (t0 : Int32) : Option (Int32 × Sg) := (if l4 = l2 then (if inb l4 (kLen 118) = true then nam ((rI σ 118 (ix l4)) + (f_X12_goesRound t0 0)) fun x11 => (if l3 ≤ x11 then b_X12_shortest_151 l1 c25 σ l2 l3 l4 else b_X12_shortest_125 l1 c25 FU σ l2 x11 l4 0) else none) else (if inb l4 (kLen 117) = true then nam ((rI σ 117 (ix l4)) + 1) fun x4 => b_X12_shortest_168 l1 c25 FU σ l2 l3 l4 l5 t0 x4 else none))
def b_X12_shortest_36 (l1 : Int32) (c25 : Sg → Int32 → Int32 → Int32 → Option (Int32 × Sg)) : Nat → Sg → Int32 → Int32 → Int32 → Int32 → Int32 → Option (Int32 × Sg)
  | 0, _, _, _, _, _, _ => none
  | f + 1, σ, l2, l3, l4, l5, l6 => (if l4 ≤ l6 then (if l4 = 0 then b_X12_shortest_89 l1 c25 σ l2 l3 l4 l5 0 else (if inb (l4 - 1) (kLen 117) = true then (if inb (11 + (rI σ 117 (ix (l4 - 1)))) (kLen 113) = true then b_X12_shortest_89 l1 c25 σ l2 l3 l4 l5 (rI σ 113 (ix (11 + (rI σ 117 (ix (l4 - 1)))))) else none) else none)) else (if inb l6 (kLen 117) = true then nam (l5 ||| (1 <<< ((rI σ 117 (ix l6)) &&& 31))) fun x15 => nam (l6 + 1) fun x16 => b_X12_shortest_36 l1 c25 f σ l2 l3 l4 x15 x16 else none))
def b_X12_shortest_25 (l1 : Int32) : Nat → Sg → Int32 → Int32 → Int32 → Option (Int32 × Sg)
  | 0, _, _, _, _ => none
  | f + 1, σ, l2, l3, l4 => (if l4 < 0 then (some (l3, σ)) else b_X12_shortest_36 l1 (b_X12_shortest_25 l1 f) FU σ l2 l3 l4 0 0)
def f_X12_shortest (σ : Sg) (l1 : Int32) : Option (Int32 × Sg) := (f_X12_ones l1).bind fun x1 => (if inb 0 (kLen 117) = true then nam (stI σ 117 (ix 0) (-1)) (fun s2 => (if inb 0 (kLen 118) = true then nam (stI s2 118 (ix 0) 0) (fun s3 => b_X12_shortest_25 l1 FU s3 x1 1000000 0) else none)) else none)
set_option maxRecDepth 100000 in
set_option maxHeartbeats 4000000 in
theorem q_X12_shortest_275 {g : Cx} (l1 : Int32) (r : Int32) (τ : Sg) (c25 : Sg → Int32 → Int32 → Int32 → Option (Int32 × Sg)) (hc25 : ∀ σ : Sg, ∀ l2 : Int32, ∀ l3 : Int32, ∀ l4 : Int32, c25 σ l2 l3 l4 = some (r, τ) → V g cX12_shortest RX12 wsX12_shortest 9 (some .int) rm_X12_shortest (some (.int r)) τ σ 25 [(0, .ref (g.1 112)), (1, .int l1), (2, .int l2), (3, .int l3), (4, .int l4)] []) : ∀ σ : Sg, ∀ l2 : Int32, ∀ l3 : Int32, ∀ l4 : Int32, b_X12_shortest_275 l1 c25 σ l2 l3 l4 = some (r, τ) → V g cX12_shortest RX12 wsX12_shortest 9 (some .int) rm_X12_shortest (some (.int r)) τ σ 275 [(0, .ref (g.1 112)), (1, .int l1), (2, .int l2), (3, .int l3), (4, .int l4)] [] := by
  intro σ l2 l3 l4 h
  unfold b_X12_shortest_275 at h
  refine v_goto 25 dX12_shortest_275 (by decide) ?_
  refine v_sub [0, 1, 2, 3, 4] rfl ?_
  exact hc25 σ l2 l3 l4 h
set_option maxRecDepth 100000 in
set_option maxHeartbeats 4000000 in
theorem q_X12_shortest_204 {g : Cx} (l1 : Int32) (r : Int32) (τ : Sg) (c25 : Sg → Int32 → Int32 → Int32 → Option (Int32 × Sg)) (hc25 : ∀ σ : Sg, ∀ l2 : Int32, ∀ l3 : Int32, ∀ l4 : Int32, c25 σ l2 l3 l4 = some (r, τ) → V g cX12_shortest RX12 wsX12_shortest 9 (some .int) rm_X12_shortest (some (.int r)) τ σ 25 [(0, .ref (g.1 112)), (1, .int l1), (2, .int l2), (3, .int l3), (4, .int l4)] []) : ∀ σ : Sg, ∀ l2 : Int32, ∀ l3 : Int32, ∀ l4 : Int32, ∀ l6 : Int32, ∀ l7 : Int32, b_X12_shortest_204 l1 c25 σ l2 l3 l4 l6 l7 = some (r, τ) → V g cX12_shortest RX12 wsX12_shortest 9 (some .int) rm_X12_shortest (some (.int r)) τ σ 204 [(0, .ref (g.1 112)), (1, .int l1), (2, .int l2), (3, .int l3), (4, .int l4), (6, .int l6), (7, .int l7)] [] := by
  intro σ l2 l3 l4 l6 l7 h
  unfold b_X12_shortest_204 at h
  refine v_aload_n 205 0 dX12_shortest_204 rfl rfl rfl ?_
  refine vg_8_14 208 (rfl : kK 112 = 8) in_X12_shortest_8 (mem_at 2 rfl) dX12_shortest_205 rfl ?_
  refine v_iload 210 4 dX12_shortest_208 rfl rfl ?_
  refine v_iload 212 6 dX12_shortest_210 rfl rfl ?_
  refine v_iast 213 h (rfl : kK 117 = 9) dX12_shortest_212 rfl (fun s5 h => ?_)
  refine v_iload 215 6 dX12_shortest_213 rfl rfl ?_
  refine v_aload_n 216 0 dX12_shortest_215 rfl rfl rfl ?_
  refine vg_8_0 219 (rfl : kK 112 = 8) in_X12_shortest_8 (mem_at 4 rfl) dX12_shortest_216 rfl ?_
  refine v_iconst 220 0 dX12_shortest_219 kc_i_0 rfl ?_
  refine v_iald 221 h (rfl : kK 113 = 9) dX12_shortest_220 rfl (fun h => ?_)
  refine v_icmp_ne 224 230 h dX12_shortest_221 rfl (by decide) (fun h => ?_) (fun h => ?_)
  · refine v_aload_n 231 0 dX12_shortest_230 rfl rfl rfl ?_
    refine vg_8_15 234 (rfl : kK 112 = 8) in_X12_shortest_8 (mem_at 3 rfl) dX12_shortest_231 rfl ?_
    refine v_iload 236 4 dX12_shortest_234 rfl rfl ?_
    refine v_iconst 237 1 dX12_shortest_236 kc_i_1 rfl ?_
    refine v_iadd 238 dX12_shortest_237 rfl ?_
    refine v_aload_n 239 0 dX12_shortest_238 rfl rfl rfl ?_
    refine vg_8_15 242 (rfl : kK 112 = 8) in_X12_shortest_8 (mem_at 3 rfl) dX12_shortest_239 rfl ?_
    refine v_iload 244 4 dX12_shortest_242 rfl rfl ?_
    refine v_iald 245 h (rfl : kK 118 = 9) dX12_shortest_244 rfl (fun h => ?_)
    refine v_iconst 246 1 dX12_shortest_245 kc_i_1 rfl ?_
    refine v_iadd 247 dX12_shortest_246 rfl ?_
    refine v_iload 249 5 dX12_shortest_247 rfl rfl ?_
    refine v_aload_n 250 0 dX12_shortest_249 rfl rfl rfl ?_
    refine vg_8_0 253 (rfl : kK 112 = 8) in_X12_shortest_8 (mem_at 4 rfl) dX12_shortest_250 rfl ?_
    refine v_bipush 255 11 dX12_shortest_253 kc_b_11 rfl ?_
    refine v_iload 257 6 dX12_shortest_255 rfl rfl ?_
    refine v_iadd 258 dX12_shortest_257 rfl ?_
    refine v_iald 259 h (rfl : kK 113 = 9) dX12_shortest_258 rfl (fun h => ?_)
    refine v_cS 262 [.int l6, .int (rI s5 113 (ix (11 + l7)))] (c_X12_goesRound l6 (rI s5 113 (ix (11 + l7)))) cl_X12_goesRound gX12_shortest_X12_goesRound ⟨Nat.le_of_ble_eq_true rfl, Nat.le_of_ble_eq_true rfl⟩ rfl rfl (Nat.le_of_ble_eq_true rfl) dX12_shortest_259 rfl ?_
    refine v_iadd 263 dX12_shortest_262 rfl ?_
    refine v_iast 264 h (rfl : kK 118 = 9) dX12_shortest_263 rfl (fun s6 h => ?_)
    refine v_iincN 267 4 h dX12_shortest_264 rfl kc_i_1 (by decide) rfl (fun _ => rfl) (fun x7 h => ?_)
    refine v_aload_n 268 1 dX12_shortest_267 rfl rfl rfl ?_
    refine vg_8_14 271 (rfl : kK 112 = 8) in_X12_shortest_8 (mem_at 2 rfl) dX12_shortest_268 rfl ?_
    refine v_iload 273 0 dX12_shortest_271 rfl rfl ?_
    refine v_iconst 274 (-1) dX12_shortest_273 kc_i_m1 rfl ?_
    refine v_iast 275 h (rfl : kK 117 = 9) dX12_shortest_274 rfl (fun s8 h => ?_)
    refine v_sub [1, 2, 3, 4, 0] rfl ?_
    exact q_X12_shortest_275 l1 r τ c25 hc25 s8 l2 l3 x7 h
  · refine v_iincN 227 4 h dX12_shortest_224 rfl kc_i_m1 (by decide) rfl (fun _ => rfl) (fun x9 h => ?_)
    refine v_goto 275 dX12_shortest_227 (by decide) ?_
    refine v_sub [1, 2, 3, 4, 0] rfl ?_
    exact q_X12_shortest_275 l1 r τ c25 hc25 s5 l2 l3 x9 h
set_option maxRecDepth 100000 in
set_option maxHeartbeats 4000000 in
theorem q_X12_shortest_198 {g : Cx} (l1 : Int32) (r : Int32) (τ : Sg) (c25 : Sg → Int32 → Int32 → Int32 → Option (Int32 × Sg)) (c168 : Sg → Int32 → Int32 → Int32 → Int32 → Int32 → Int32 → Option (Int32 × Sg)) (hc25 : ∀ σ : Sg, ∀ l2 : Int32, ∀ l3 : Int32, ∀ l4 : Int32, c25 σ l2 l3 l4 = some (r, τ) → V g cX12_shortest RX12 wsX12_shortest 9 (some .int) rm_X12_shortest (some (.int r)) τ σ 25 [(0, .ref (g.1 112)), (1, .int l1), (2, .int l2), (3, .int l3), (4, .int l4)] []) (hc168 : ∀ σ : Sg, ∀ l2 : Int32, ∀ l3 : Int32, ∀ l4 : Int32, ∀ l5 : Int32, ∀ l6 : Int32, ∀ l7 : Int32, c168 σ l2 l3 l4 l5 l6 l7 = some (r, τ) → V g cX12_shortest RX12 wsX12_shortest 9 (some .int) rm_X12_shortest (some (.int r)) τ σ 168 [(0, .ref (g.1 112)), (1, .int l1), (2, .int l2), (3, .int l3), (4, .int l4), (5, .int l5), (6, .int l6), (7, .int l7)] []) : ∀ σ : Sg, ∀ l2 : Int32, ∀ l3 : Int32, ∀ l4 : Int32, ∀ l5 : Int32, ∀ l6 : Int32, ∀ l7 : Int32, b_X12_shortest_198 l1 c25 c168 σ l2 l3 l4 l5 l6 l7 = some (r, τ) → V g cX12_shortest RX12 wsX12_shortest 9 (some .int) rm_X12_shortest (some (.int r)) τ σ 198 [(0, .ref (g.1 112)), (1, .int l1), (2, .int l2), (3, .int l3), (4, .int l4), (5, .int l5), (6, .int l6), (7, .int l7)] [] := by
  intro σ l2 l3 l4 l5 l6 l7 h
  unfold b_X12_shortest_198 at h
  refine v_iincN 201 7 h dX12_shortest_198 rfl kc_i_1 (by decide) rfl (fun _ => rfl) (fun x10 h => ?_)
  refine v_goto 168 dX12_shortest_201 (by decide) ?_
  refine v_sub [1, 2, 3, 4, 5, 6, 7, 0] rfl ?_
  exact hc168 σ l2 l3 l4 l5 l6 x10 h
set_option maxRecDepth 100000 in
set_option maxHeartbeats 4000000 in
theorem q_X12_shortest_168 {g : Cx} (l1 : Int32) (r : Int32) (τ : Sg) (c25 : Sg → Int32 → Int32 → Int32 → Option (Int32 × Sg)) (hc25 : ∀ σ : Sg, ∀ l2 : Int32, ∀ l3 : Int32, ∀ l4 : Int32, c25 σ l2 l3 l4 = some (r, τ) → V g cX12_shortest RX12 wsX12_shortest 9 (some .int) rm_X12_shortest (some (.int r)) τ σ 25 [(0, .ref (g.1 112)), (1, .int l1), (2, .int l2), (3, .int l3), (4, .int l4)] []) : ∀ f : Nat, ∀ σ : Sg, ∀ l2 : Int32, ∀ l3 : Int32, ∀ l4 : Int32, ∀ l5 : Int32, ∀ l6 : Int32, ∀ l7 : Int32, b_X12_shortest_168 l1 c25 f σ l2 l3 l4 l5 l6 l7 = some (r, τ) → V g cX12_shortest RX12 wsX12_shortest 9 (some .int) rm_X12_shortest (some (.int r)) τ σ 168 [(0, .ref (g.1 112)), (1, .int l1), (2, .int l2), (3, .int l3), (4, .int l4), (5, .int l5), (6, .int l6), (7, .int l7)] [] := by
  intro f
  induction f with
  | zero =>
    intro σ l2 l3 l4 l5 l6 l7 h
    cases h
  | succ f ih =>
    intro σ l2 l3 l4 l5 l6 l7 h
    rw [b_X12_shortest_168] at h
    refine v_iload 170 7 dX12_shortest_168 rfl rfl ?_
    refine v_aload_n 171 0 dX12_shortest_170 rfl rfl rfl ?_
    refine vg_8_0 174 (rfl : kK 112 = 8) in_X12_shortest_8 (mem_at 4 rfl) dX12_shortest_171 rfl ?_
    refine v_iconst 175 0 dX12_shortest_174 kc_i_0 rfl ?_
    refine v_iald 176 h (rfl : kK 113 = 9) dX12_shortest_175 rfl (fun h => ?_)
    refine v_icmp_ge 179 204 h dX12_shortest_176 rfl (by decide) (fun h => ?_) (fun h => ?_)
    · refine v_sub [0, 1, 2, 3, 4, 6, 7] rfl ?_
      exact q_X12_shortest_204 l1 r τ c25 hc25 σ l2 l3 l4 l6 l7 h
    · refine v_iload_n 180 1 dX12_shortest_179 rfl rfl rfl ?_
      refine v_iload 182 7 dX12_shortest_180 rfl rfl ?_
      refine v_cS 185 [.int l1, .int l7] (c_X12_has l1 l7) cl_X12_has gX12_shortest_X12_has ⟨Nat.le_of_ble_eq_true rfl, Nat.le_of_ble_eq_true rfl⟩ rfl rfl (Nat.le_of_ble_eq_true rfl) dX12_shortest_182 rfl ?_
      refine v_if_eq 188 198 h dX12_shortest_185 rfl (by decide) (fun h => ?_) (fun h => ?_)
      · refine v_sub [0, 1, 2, 3, 4, 5, 6, 7] rfl ?_
        exact q_X12_shortest_198 l1 r τ c25 (b_X12_shortest_168 l1 c25 f) hc25 ih σ l2 l3 l4 l5 l6 l7 h
      · refine v_iload 190 5 dX12_shortest_188 rfl rfl ?_
        refine v_iload 192 7 dX12_shortest_190 rfl rfl ?_
        refine v_cS 195 [.int l5, .int l7] (c_X12_has l5 l7) cl_X12_has gX12_shortest_X12_has ⟨Nat.le_of_ble_eq_true rfl, Nat.le_of_ble_eq_true rfl⟩ rfl rfl (Nat.le_of_ble_eq_true rfl) dX12_shortest_192 rfl ?_
        refine v_if_eq 198 204 h dX12_shortest_195 rfl (by decide) (fun h => ?_) (fun h => ?_)
        · refine v_sub [0, 1, 2, 3, 4, 6, 7] rfl ?_
          exact q_X12_shortest_204 l1 r τ c25 hc25 σ l2 l3 l4 l6 l7 h
        · refine v_sub [0, 1, 2, 3, 4, 5, 6, 7] rfl ?_
          exact q_X12_shortest_198 l1 r τ c25 (b_X12_shortest_168 l1 c25 f) hc25 ih σ l2 l3 l4 l5 l6 l7 h
set_option maxRecDepth 100000 in
set_option maxHeartbeats 4000000 in
theorem q_X12_shortest_151 {g : Cx} (l1 : Int32) (r : Int32) (τ : Sg) (c25 : Sg → Int32 → Int32 → Int32 → Option (Int32 × Sg)) (hc25 : ∀ σ : Sg, ∀ l2 : Int32, ∀ l3 : Int32, ∀ l4 : Int32, c25 σ l2 l3 l4 = some (r, τ) → V g cX12_shortest RX12 wsX12_shortest 9 (some .int) rm_X12_shortest (some (.int r)) τ σ 25 [(0, .ref (g.1 112)), (1, .int l1), (2, .int l2), (3, .int l3), (4, .int l4)] []) : ∀ σ : Sg, ∀ l2 : Int32, ∀ l3 : Int32, ∀ l4 : Int32, b_X12_shortest_151 l1 c25 σ l2 l3 l4 = some (r, τ) → V g cX12_shortest RX12 wsX12_shortest 9 (some .int) rm_X12_shortest (some (.int r)) τ σ 151 [(0, .ref (g.1 112)), (1, .int l1), (2, .int l2), (3, .int l3), (4, .int l4)] [] := by
  intro σ l2 l3 l4 h
  unfold b_X12_shortest_151 at h
  refine v_iincN 154 4 h dX12_shortest_151 rfl kc_i_m1 (by decide) rfl (fun _ => rfl) (fun x12 h => ?_)
  refine v_goto 275 dX12_shortest_154 (by decide) ?_
  refine v_sub [1, 2, 3, 4, 0] rfl ?_
  exact q_X12_shortest_275 l1 r τ c25 hc25 σ l2 l3 x12 h
set_option maxRecDepth 100000 in
set_option maxHeartbeats 4000000 in
theorem q_X12_shortest_125 {g : Cx} (l1 : Int32) (r : Int32) (τ : Sg) (c25 : Sg → Int32 → Int32 → Int32 → Option (Int32 × Sg)) (hc25 : ∀ σ : Sg, ∀ l2 : Int32, ∀ l3 : Int32, ∀ l4 : Int32, c25 σ l2 l3 l4 = some (r, τ) → V g cX12_shortest RX12 wsX12_shortest 9 (some .int) rm_X12_shortest (some (.int r)) τ σ 25 [(0, .ref (g.1 112)), (1, .int l1), (2, .int l2), (3, .int l3), (4, .int l4)] []) : ∀ f : Nat, ∀ σ : Sg, ∀ l2 : Int32, ∀ l3 : Int32, ∀ l4 : Int32, ∀ l8 : Int32, b_X12_shortest_125 l1 c25 f σ l2 l3 l4 l8 = some (r, τ) → V g cX12_shortest RX12 wsX12_shortest 9 (some .int) rm_X12_shortest (some (.int r)) τ σ 125 [(0, .ref (g.1 112)), (1, .int l1), (2, .int l2), (3, .int l3), (4, .int l4), (8, .int l8)] [] := by
  intro f
  induction f with
  | zero =>
    intro σ l2 l3 l4 l8 h
    cases h
  | succ f ih =>
    intro σ l2 l3 l4 l8 h
    rw [b_X12_shortest_125] at h
    refine v_iload 127 5 dX12_shortest_125 rfl rfl ?_
    refine v_iload_n 128 2 dX12_shortest_127 rfl rfl rfl ?_
    refine v_icmp_ge 131 151 h dX12_shortest_128 rfl (by decide) (fun h => ?_) (fun h => ?_)
    · refine v_sub [0, 1, 2, 3, 4] rfl ?_
      exact q_X12_shortest_151 l1 r τ c25 hc25 σ l2 l3 l4 h
    · refine v_aload_n 132 0 dX12_shortest_131 rfl rfl rfl ?_
      refine vg_8_16 135 (rfl : kK 112 = 8) in_X12_shortest_8 (mem_at 5 rfl) dX12_shortest_132 rfl ?_
      refine v_iload 137 5 dX12_shortest_135 rfl rfl ?_
      refine v_aload_n 138 0 dX12_shortest_137 rfl rfl rfl ?_
      refine vg_8_14 141 (rfl : kK 112 = 8) in_X12_shortest_8 (mem_at 2 rfl) dX12_shortest_138 rfl ?_
      refine v_iload 143 5 dX12_shortest_141 rfl rfl ?_
      refine v_iald 144 h (rfl : kK 117 = 9) dX12_shortest_143 rfl (fun h => ?_)
      refine v_iast 145 h (rfl : kK 119 = 9) dX12_shortest_144 rfl (fun s13 h => ?_)
      refine v_iincN 148 5 h dX12_shortest_145 rfl kc_i_1 (by decide) rfl (fun _ => rfl) (fun x14 h => ?_)
      refine v_goto 125 dX12_shortest_148 (by decide) ?_
      refine v_sub [1, 2, 3, 4, 5, 0] rfl ?_
      exact ih s13 l2 l3 l4 x14 h
set_option maxRecDepth 100000 in
set_option maxHeartbeats 4000000 in
theorem q_X12_shortest_89 {g : Cx} (l1 : Int32) (r : Int32) (τ : Sg) (c25 : Sg → Int32 → Int32 → Int32 → Option (Int32 × Sg)) (hc25 : ∀ σ : Sg, ∀ l2 : Int32, ∀ l3 : Int32, ∀ l4 : Int32, c25 σ l2 l3 l4 = some (r, τ) → V g cX12_shortest RX12 wsX12_shortest 9 (some .int) rm_X12_shortest (some (.int r)) τ σ 25 [(0, .ref (g.1 112)), (1, .int l1), (2, .int l2), (3, .int l3), (4, .int l4)] []) : ∀ σ : Sg, ∀ l2 : Int32, ∀ l3 : Int32, ∀ l4 : Int32, ∀ l5 : Int32, ∀ t0 : Int32, b_X12_shortest_89 l1 c25 σ l2 l3 l4 l5 t0 = some (r, τ) → V g cX12_shortest RX12 wsX12_shortest 9 (some .int) rm_X12_shortest (some (.int r)) τ σ 89 [(0, .ref (g.1 112)), (1, .int l1), (2, .int l2), (3, .int l3), (4, .int l4), (5, .int l5)] [.int t0] := by
  intro σ l2 l3 l4 l5 t0 h
  unfold b_X12_shortest_89 at h
  refine v_istore 91 dX12_shortest_89 (by decide) rfl rfl ?_
  refine v_iload 93 5 dX12_shortest_91 rfl rfl ?_
  refine v_iload_n 94 3 dX12_shortest_93 rfl rfl rfl ?_
  refine v_icmp_ne 97 157 h dX12_shortest_94 rfl (by decide) (fun h => ?_) (fun h => ?_)
  · refine v_aload_n 158 1 dX12_shortest_157 rfl rfl rfl ?_
    refine vg_8_14 161 (rfl : kK 112 = 8) in_X12_shortest_8 (mem_at 2 rfl) dX12_shortest_158 rfl ?_
    refine v_iload 163 5 dX12_shortest_161 rfl rfl ?_
    refine v_iald 164 h (rfl : kK 117 = 9) dX12_shortest_163 rfl (fun h => ?_)
    refine v_iconst 165 1 dX12_shortest_164 kc_i_1 rfl ?_
    refine v_iadd 166 dX12_shortest_165 rfl ?_
    refine v_istoreN 168 h dX12_shortest_166 (by decide) rfl (fun _ => rfl) (fun x4 h => ?_)
    refine v_sub [2, 3, 4, 5, 6, 7, 1, 0] rfl ?_
    exact q_X12_shortest_168 l1 r τ c25 hc25 FU σ l2 l3 l4 l5 t0 x4 h
  · refine v_aload_n 98 1 dX12_shortest_97 rfl rfl rfl ?_
    refine vg_8_15 101 (rfl : kK 112 = 8) in_X12_shortest_8 (mem_at 3 rfl) dX12_shortest_98 rfl ?_
    refine v_iload 103 5 dX12_shortest_101 rfl rfl ?_
    refine v_iald 104 h (rfl : kK 118 = 9) dX12_shortest_103 rfl (fun h => ?_)
    refine v_iload 106 0 dX12_shortest_104 rfl rfl ?_
    refine v_iconst 107 0 dX12_shortest_106 kc_i_0 rfl ?_
    refine v_cS 110 [.int t0, .int 0] (c_X12_goesRound t0 0) cl_X12_goesRound gX12_shortest_X12_goesRound ⟨Nat.le_of_ble_eq_true rfl, Nat.le_of_ble_eq_true rfl⟩ rfl rfl (Nat.le_of_ble_eq_true rfl) dX12_shortest_107 rfl ?_
    refine v_iadd 111 dX12_shortest_110 rfl ?_
    refine v_istoreN 113 h dX12_shortest_111 (by decide) rfl (fun _ => rfl) (fun x11 h => ?_)
    refine v_iload 115 0 dX12_shortest_113 rfl rfl ?_
    refine v_iload_n 116 5 dX12_shortest_115 rfl rfl rfl ?_
    refine v_icmp_ge 119 151 h dX12_shortest_116 rfl (by decide) (fun h => ?_) (fun h => ?_)
    · refine v_sub [2, 3, 4, 5, 6] rfl ?_
      exact q_X12_shortest_151 l1 r τ c25 hc25 σ l2 l3 l4 h
    · refine v_iload 121 0 dX12_shortest_119 rfl rfl ?_
      refine v_istore_n 122 dX12_shortest_121 rfl (by decide) rfl rfl ?_
      refine v_iconst 123 0 dX12_shortest_122 kc_i_0 rfl ?_
      refine v_istore 125 dX12_shortest_123 (by decide) rfl rfl ?_
      refine v_sub [4, 5, 6, 1, 7, 0] rfl ?_
      exact q_X12_shortest_125 l1 r τ c25 hc25 FU σ l2 x11 l4 0 h
set_option maxRecDepth 100000 in
set_option maxHeartbeats 4000000 in
theorem q_X12_shortest_36 {g : Cx} (l1 : Int32) (r : Int32) (τ : Sg) (c25 : Sg → Int32 → Int32 → Int32 → Option (Int32 × Sg)) (hc25 : ∀ σ : Sg, ∀ l2 : Int32, ∀ l3 : Int32, ∀ l4 : Int32, c25 σ l2 l3 l4 = some (r, τ) → V g cX12_shortest RX12 wsX12_shortest 9 (some .int) rm_X12_shortest (some (.int r)) τ σ 25 [(0, .ref (g.1 112)), (1, .int l1), (2, .int l2), (3, .int l3), (4, .int l4)] []) : ∀ f : Nat, ∀ σ : Sg, ∀ l2 : Int32, ∀ l3 : Int32, ∀ l4 : Int32, ∀ l5 : Int32, ∀ l6 : Int32, b_X12_shortest_36 l1 c25 f σ l2 l3 l4 l5 l6 = some (r, τ) → V g cX12_shortest RX12 wsX12_shortest 9 (some .int) rm_X12_shortest (some (.int r)) τ σ 36 [(0, .ref (g.1 112)), (1, .int l1), (2, .int l2), (3, .int l3), (4, .int l4), (5, .int l5), (6, .int l6)] [] := by
  intro f
  induction f with
  | zero =>
    intro σ l2 l3 l4 l5 l6 h
    cases h
  | succ f ih =>
    intro σ l2 l3 l4 l5 l6 h
    rw [b_X12_shortest_36] at h
    refine v_iload 38 6 dX12_shortest_36 rfl rfl ?_
    refine v_iload 40 4 dX12_shortest_38 rfl rfl ?_
    refine v_icmp_ge 43 63 h dX12_shortest_40 rfl (by decide) (fun h => ?_) (fun h => ?_)
    · refine v_iload 65 4 dX12_shortest_63 rfl rfl ?_
      refine v_if_ne 68 72 h dX12_shortest_65 rfl (by decide) (fun h => ?_) (fun h => ?_)
      · refine v_aload_n 73 0 dX12_shortest_72 rfl rfl rfl ?_
        refine vg_8_0 76 (rfl : kK 112 = 8) in_X12_shortest_8 (mem_at 4 rfl) dX12_shortest_73 rfl ?_
        refine v_bipush 78 11 dX12_shortest_76 kc_b_11 rfl ?_
        refine v_aload_n 79 0 dX12_shortest_78 rfl rfl rfl ?_
        refine vg_8_14 82 (rfl : kK 112 = 8) in_X12_shortest_8 (mem_at 2 rfl) dX12_shortest_79 rfl ?_
        refine v_iload 84 4 dX12_shortest_82 rfl rfl ?_
        refine v_iconst 85 1 dX12_shortest_84 kc_i_1 rfl ?_
        refine v_isub 86 dX12_shortest_85 rfl ?_
        refine v_iald 87 h (rfl : kK 117 = 9) dX12_shortest_86 rfl (fun h => ?_)
        refine v_iadd 88 dX12_shortest_87 rfl ?_
        refine v_iald 89 h (rfl : kK 113 = 9) dX12_shortest_88 rfl (fun h => ?_)
        refine v_sub [0, 1, 2, 3, 4, 5] rfl ?_
        exact q_X12_shortest_89 l1 r τ c25 hc25 σ l2 l3 l4 l5 (rI σ 113 (ix (11 + (rI σ 117 (ix (l4 - 1)))))) h
      · refine v_iconst 69 0 dX12_shortest_68 kc_i_0 rfl ?_
        refine v_goto 89 dX12_shortest_69 (by decide) ?_
        refine v_sub [0, 1, 2, 3, 4, 5] rfl ?_
        exact q_X12_shortest_89 l1 r τ c25 hc25 σ l2 l3 l4 l5 0 h
    · refine v_iload 45 5 dX12_shortest_43 rfl rfl ?_
      refine v_iconst 46 1 dX12_shortest_45 kc_i_1 rfl ?_
      refine v_aload_n 47 0 dX12_shortest_46 rfl rfl rfl ?_
      refine vg_8_14 50 (rfl : kK 112 = 8) in_X12_shortest_8 (mem_at 2 rfl) dX12_shortest_47 rfl ?_
      refine v_iload 52 6 dX12_shortest_50 rfl rfl ?_
      refine v_iald 53 h (rfl : kK 117 = 9) dX12_shortest_52 rfl (fun h => ?_)
      refine v_ishl 54 dX12_shortest_53 rfl ?_
      refine v_ior 55 dX12_shortest_54 rfl ?_
      refine v_istoreN 57 h dX12_shortest_55 (by decide) rfl (fun _ => rfl) (fun x15 h => ?_)
      refine v_iincN 60 6 h dX12_shortest_57 rfl kc_i_1 (by decide) rfl (fun _ => rfl) (fun x16 h => ?_)
      refine v_goto 36 dX12_shortest_60 (by decide) ?_
      refine v_sub [2, 3, 4, 5, 6, 1, 0] rfl ?_
      exact ih σ l2 l3 l4 x15 x16 h
set_option maxRecDepth 100000 in
set_option maxHeartbeats 4000000 in
theorem q_X12_shortest_25 {g : Cx} (l1 : Int32) (r : Int32) (τ : Sg) : ∀ f : Nat, ∀ σ : Sg, ∀ l2 : Int32, ∀ l3 : Int32, ∀ l4 : Int32, b_X12_shortest_25 l1 f σ l2 l3 l4 = some (r, τ) → V g cX12_shortest RX12 wsX12_shortest 9 (some .int) rm_X12_shortest (some (.int r)) τ σ 25 [(0, .ref (g.1 112)), (1, .int l1), (2, .int l2), (3, .int l3), (4, .int l4)] [] := by
  intro f
  induction f with
  | zero =>
    intro σ l2 l3 l4 h
    cases h
  | succ f ih =>
    intro σ l2 l3 l4 h
    rw [b_X12_shortest_25] at h
    refine v_iload 27 4 dX12_shortest_25 rfl rfl ?_
    refine v_if_lt 30 278 h dX12_shortest_27 rfl (by decide) (fun h => ?_) (fun h => ?_)
    · refine v_iload_n 279 3 dX12_shortest_278 rfl rfl rfl ?_
      exact v_iretS h rfl dX12_shortest_279
    · refine v_iconst 31 0 dX12_shortest_30 kc_i_0 rfl ?_
      refine v_istore 33 dX12_shortest_31 (by decide) rfl rfl ?_
      refine v_iconst 34 0 dX12_shortest_33 kc_i_0 rfl ?_
      refine v_istore 36 dX12_shortest_34 (by decide) rfl rfl ?_
      refine v_sub [2, 3, 4, 5, 6, 1, 0] rfl ?_
      exact q_X12_shortest_36 l1 r τ (b_X12_shortest_25 l1 f) ih FU σ l2 l3 l4 0 0 h
set_option maxRecDepth 100000 in
set_option maxHeartbeats 4000000 in
theorem c_X12_shortest {g : Cx} {σ : Sg} (l1 : Int32) (r : Int32) (τ : Sg) (h : f_X12_shortest σ l1 = some (r, τ)) : ∀ l, MetF l yX12_shortest wsX12_shortest rm_X12_shortest g [.ref (g.1 112), .int l1] σ (some (.int r)) τ := by
  refine MetF.of (own0 := RX12) (lv0 := [(0, .ref (g.1 112)), (1, .int l1)]) rfl cl_X12_shortest (by decide) (Nat.le_of_ble_eq_true rfl) rfl ?_
  unfold f_X12_shortest at h
  refine v_iload_n 1 1 dX12_shortest_0 rfl rfl rfl ?_
  obtain ⟨x1, h0, h⟩ := ob h
  refine v_cS 4 [.int l1] (c_X12_ones l1 _ h0) cl_X12_ones gX12_shortest_X12_ones ⟨Nat.le_of_ble_eq_true rfl, Nat.le_of_ble_eq_true rfl⟩ rfl rfl (Nat.le_of_ble_eq_true rfl) dX12_shortest_1 rfl ?_
  refine v_istore_n 5 dX12_shortest_4 rfl (by decide) rfl rfl ?_
  refine v_ldc 7 1000000 dX12_shortest_5 (mem_at 1 rfl) rfl ?_
  refine v_istore_n 8 dX12_shortest_7 rfl (by decide) rfl rfl ?_
  refine v_iconst 9 0 dX12_shortest_8 kc_i_0 rfl ?_
  refine v_istore 11 dX12_shortest_9 (by decide) rfl rfl ?_
  refine v_aload_n 12 3 dX12_shortest_11 rfl rfl rfl ?_
  refine vg_8_14 15 (rfl : kK 112 = 8) in_X12_shortest_8 (mem_at 2 rfl) dX12_shortest_12 rfl ?_
  refine v_iconst 16 0 dX12_shortest_15 kc_i_0 rfl ?_
  refine v_iconst 17 (-1) dX12_shortest_16 kc_i_m1 rfl ?_
  refine v_iast 18 h (rfl : kK 117 = 9) dX12_shortest_17 rfl (fun s2 h => ?_)
  refine v_aload_n 19 3 dX12_shortest_18 rfl rfl rfl ?_
  refine vg_8_15 22 (rfl : kK 112 = 8) in_X12_shortest_8 (mem_at 3 rfl) dX12_shortest_19 rfl ?_
  refine v_iconst 23 0 dX12_shortest_22 kc_i_0 rfl ?_
  refine v_iconst 24 0 dX12_shortest_23 kc_i_0 rfl ?_
  refine v_iast 25 h (rfl : kK 118 = 9) dX12_shortest_24 rfl (fun s3 h => ?_)
  refine v_sub [3, 4, 2, 1, 0] rfl ?_
  exact q_X12_shortest_25 l1 r τ FU s3 x1 1000000 0 h
-- public int round(int, int);
abbrev rm_X12_round : Room := { frames := 2, cells := 0, slots := 0, locals := 50 }
theorem cl_X12_round : Cl yX12_round wsX12_round cX12_round 4 (some .int) rm_X12_round 2 := ⟨⟨_, rfl⟩, rfl, rfl, by decide +kernel, by decide +kernel, by decide +kernel⟩
theorem in_X12_round_8 : ∀ w ∈ wsX120, w ∈ wsX12_round := fun w h => List.mem_cons_of_mem _ (List.mem_append_right _ h)
def b_X12_round_17 (l1 : Int32) (l2 : Int32) (σ : Sg) : Option (Int32 × Sg) := bnd (f_X12_bad σ (-10)) fun x2 s3 => (some (x2, s3))
def f_X12_round (σ : Sg) (l1 : Int32) (l2 : Int32) : Option (Int32 × Sg) := (f_X12_areKeepers σ l1).bind fun x1 => (if x1 = 0 then b_X12_round_17 l1 l2 σ else (if l1 = 0 then b_X12_round_17 l1 l2 σ else (if (-1) ≤ l2 then bnd (f_X12_shortest σ l1) fun x4 s5 => (if l2 = (-1) then (some (x4, s5)) else (f_X12_ones l1).bind fun x6 => (if x6 ≤ l2 then (some ((-5), s5)) else (if inb l2 (kLen 119) = true then (some (rI s5 119 (ix l2), s5)) else none))) else b_X12_round_17 l1 l2 σ)))
set_option maxRecDepth 100000 in
set_option maxHeartbeats 4000000 in
theorem q_X12_round_17 {g : Cx} (l1 : Int32) (l2 : Int32) (r : Int32) (τ : Sg) : ∀ σ : Sg, b_X12_round_17 l1 l2 σ = some (r, τ) → V g cX12_round RX12 wsX12_round 4 (some .int) rm_X12_round (some (.int r)) τ σ 17 [(0, .ref (g.1 112))] [] := by
  intro σ h
  unfold b_X12_round_17 at h
  refine v_aload_n 18 0 dX12_round_17 rfl rfl rfl ?_
  refine v_bipush 20 (-10) dX12_round_18 kc_b_m10 rfl ?_
  obtain ⟨x2, s3, h0, h⟩ := ob2 h
  refine v_cV 23 8 [.int (-10)] (rfl : kK 112 = 8) rfl (c_X12_bad (-10) _ _ h0) cl_X12_bad gX12_round_X12_bad rfl ⟨Nat.le_of_ble_eq_true rfl, Nat.le_of_ble_eq_true rfl⟩ rfl rfl (Nat.le_of_ble_eq_true rfl) dX12_round_20 rfl ?_
  exact v_iretS h rfl dX12_round_23
set_option maxRecDepth 100000 in
set_option maxHeartbeats 4000000 in
theorem c_X12_round {g : Cx} {σ : Sg} (l1 : Int32) (l2 : Int32) (r : Int32) (τ : Sg) (h : f_X12_round σ l1 l2 = some (r, τ)) : ∀ l, MetF l yX12_round wsX12_round rm_X12_round g [.ref (g.1 112), .int l1, .int l2] σ (some (.int r)) τ := by
  refine MetF.of (own0 := RX12) (lv0 := [(0, .ref (g.1 112)), (1, .int l1), (2, .int l2)]) rfl cl_X12_round (by decide) (Nat.le_of_ble_eq_true rfl) rfl ?_
  unfold f_X12_round at h
  refine v_aload_n 1 0 dX12_round_0 rfl rfl rfl ?_
  refine v_iload_n 2 1 dX12_round_1 rfl rfl rfl ?_
  obtain ⟨x1, h0, h⟩ := ob h
  refine v_cV 5 8 [.int l1] (rfl : kK 112 = 8) rfl (c_X12_areKeepers l1 _ h0) cl_X12_areKeepers gX12_round_X12_areKeepers rfl ⟨Nat.le_of_ble_eq_true rfl, Nat.le_of_ble_eq_true rfl⟩ rfl rfl (Nat.le_of_ble_eq_true rfl) dX12_round_2 rfl ?_
  refine v_if_eq 8 17 h dX12_round_5 rfl (by decide) (fun h => ?_) (fun h => ?_)
  · refine v_sub [0] rfl ?_
    exact q_X12_round_17 l1 l2 r τ σ h
  · refine v_iload_n 9 1 dX12_round_8 rfl rfl rfl ?_
    refine v_if_eq 12 17 h dX12_round_9 rfl (by decide) (fun h => ?_) (fun h => ?_)
    · refine v_sub [0] rfl ?_
      exact q_X12_round_17 l1 l2 r τ σ h
    · refine v_iload_n 13 2 dX12_round_12 rfl rfl rfl ?_
      refine v_iconst 14 (-1) dX12_round_13 kc_i_m1 rfl ?_
      refine v_icmp_ge 17 24 h dX12_round_14 rfl (by decide) (fun h => ?_) (fun h => ?_)
      · refine v_aload_n 25 0 dX12_round_24 rfl rfl rfl ?_
        refine v_iload_n 26 1 dX12_round_25 rfl rfl rfl ?_
        obtain ⟨x4, s5, h0, h⟩ := ob2 h
        refine v_cV 29 8 [.int l1] (rfl : kK 112 = 8) rfl (c_X12_shortest l1 _ _ h0) cl_X12_shortest gX12_round_X12_shortest rfl ⟨Nat.le_of_ble_eq_true rfl, Nat.le_of_ble_eq_true rfl⟩ rfl rfl (Nat.le_of_ble_eq_true rfl) dX12_round_26 rfl ?_
        refine v_istore_n 30 dX12_round_29 rfl (by decide) rfl rfl ?_
        refine v_iload_n 31 3 dX12_round_30 rfl rfl rfl ?_
        refine v_iconst 32 (-1) dX12_round_31 kc_i_m1 rfl ?_
        refine v_icmp_ne 35 39 h dX12_round_32 rfl (by decide) (fun h => ?_) (fun h => ?_)
        · refine v_iload_n 40 3 dX12_round_39 rfl rfl rfl ?_
          refine v_iload_n 41 2 dX12_round_40 rfl rfl rfl ?_
          obtain ⟨x6, h0, h⟩ := ob h
          refine v_cS 44 [.int l1] (c_X12_ones l1 _ h0) cl_X12_ones gX12_round_X12_ones ⟨Nat.le_of_ble_eq_true rfl, Nat.le_of_ble_eq_true rfl⟩ rfl rfl (Nat.le_of_ble_eq_true rfl) dX12_round_41 rfl ?_
          refine v_icmp_ge 47 56 h dX12_round_44 rfl (by decide) (fun h => ?_) (fun h => ?_)
          · refine v_bipush 58 (-5) dX12_round_56 kc_b_m5 rfl ?_
            exact v_iretS h rfl dX12_round_58
          · refine v_aload_n 48 1 dX12_round_47 rfl rfl rfl ?_
            refine vg_8_16 51 (rfl : kK 112 = 8) in_X12_round_8 (mem_at 1 rfl) dX12_round_48 rfl ?_
            refine v_iload_n 52 3 dX12_round_51 rfl rfl rfl ?_
            refine v_iald 53 h (rfl : kK 119 = 9) dX12_round_52 rfl (fun h => ?_)
            refine v_goto 58 dX12_round_53 (by decide) ?_
            exact v_iretS h rfl dX12_round_58
        · refine v_iload_n 36 0 dX12_round_35 rfl rfl rfl ?_
          refine v_goto 58 dX12_round_36 (by decide) ?_
          exact v_iretS h rfl dX12_round_58
      · refine v_sub [0] rfl ?_
        exact q_X12_round_17 l1 l2 r τ σ h
-- public int status(int);
abbrev rm_X12_status : Room := { frames := 1, cells := 0, slots := 0, locals := 25 }
theorem cl_X12_status : Cl yX12_status wsX12_status cX12_status 2 (some .int) rm_X12_status 1 := ⟨⟨_, rfl⟩, rfl, rfl, by decide +kernel, by decide +kernel, by decide +kernel⟩
theorem in_X12_status_8 : ∀ w ∈ wsX120, w ∈ wsX12_status := fun w h => List.mem_cons_of_mem _ (List.mem_append_right _ h)
def f_X12_status (σ : Sg) (l1 : Int32) : Option (Int32 × Sg) := (if (f_X12_in (Int32.toInt64 l1) 0 2) = 0 then bnd (f_X12_bad σ (-1)) fun x1 s2 => (some (x1, s2)) else (if inb l1 (kLen 116) = true then (some (rI σ 116 (ix l1), σ)) else none))
set_option maxRecDepth 100000 in
set_option maxHeartbeats 4000000 in
theorem c_X12_status {g : Cx} {σ : Sg} (l1 : Int32) (r : Int32) (τ : Sg) (h : f_X12_status σ l1 = some (r, τ)) : ∀ l, MetF l yX12_status wsX12_status rm_X12_status g [.ref (g.1 112), .int l1] σ (some (.int r)) τ := by
  refine MetF.of (own0 := RX12) (lv0 := [(0, .ref (g.1 112)), (1, .int l1)]) rfl cl_X12_status (by decide) (Nat.le_of_ble_eq_true rfl) rfl ?_
  unfold f_X12_status at h
  refine v_iload_n 1 1 dX12_status_0 rfl rfl rfl ?_
  refine v_i2l 2 dX12_status_1 rfl ?_
  refine v_lconst 3 0 dX12_status_2 kc_l_0 rfl ?_
  refine v_ldc2 6 2 dX12_status_3 (mem_at 1 rfl) rfl ?_
  refine v_cS 9 [.long (Int32.toInt64 l1), .long 0, .long 2] (c_X12_in (Int32.toInt64 l1) 0 2) cl_X12_in gX12_status_X12_in ⟨Nat.le_of_ble_eq_true rfl, Nat.le_of_ble_eq_true rfl⟩ rfl rfl (Nat.le_of_ble_eq_true rfl) dX12_status_6 rfl ?_
  refine v_if_eq 12 21 h dX12_status_9 rfl (by decide) (fun h => ?_) (fun h => ?_)
  · refine v_aload_n 22 0 dX12_status_21 rfl rfl rfl ?_
    refine v_iconst 23 (-1) dX12_status_22 kc_i_m1 rfl ?_
    obtain ⟨x1, s2, h0, h⟩ := ob2 h
    refine v_cV 26 8 [.int (-1)] (rfl : kK 112 = 8) rfl (c_X12_bad (-1) _ _ h0) cl_X12_bad gX12_status_X12_bad rfl ⟨Nat.le_of_ble_eq_true rfl, Nat.le_of_ble_eq_true rfl⟩ rfl rfl (Nat.le_of_ble_eq_true rfl) dX12_status_23 rfl ?_
    exact v_iretS h rfl dX12_status_26
  · refine v_aload_n 13 0 dX12_status_12 rfl rfl rfl ?_
    refine vg_8_6 16 (rfl : kK 112 = 8) in_X12_status_8 (mem_at 2 rfl) dX12_status_13 rfl ?_
    refine v_iload_n 17 1 dX12_status_16 rfl rfl rfl ?_
    refine v_iald 18 h (rfl : kK 116 = 9) dX12_status_17 rfl (fun h => ?_)
    refine v_goto 26 dX12_status_18 (by decide) ?_
    exact v_iretS h rfl dX12_status_26
-- private int thenOf(int, int);
abbrev rm_X12_thenOf : Room := { frames := 2, cells := 0, slots := 0, locals := 43 }
theorem cl_X12_thenOf : Cl yX12_thenOf wsX12_thenOf cX12_thenOf 5 (some .int) rm_X12_thenOf 2 := ⟨⟨_, rfl⟩, rfl, rfl, by decide +kernel, by decide +kernel, by decide +kernel⟩
theorem in_X12_thenOf_8 : ∀ w ∈ wsX120, w ∈ wsX12_thenOf := fun w h => List.mem_cons_of_mem _ (List.mem_append_right _ h)
def b_X12_thenOf_13 (σ : Sg) (l1 : Int32) (l2 : Int32) : Nat → Int32 → Int32 → Option Int32
  | 0, _, _ => none
  | f + 1, l3, l4 => (if l2 ≤ l4 then (some (l3)) else (if inb (4 + l1) (kLen 113) = true then (if inb 2 (kLen 113) = true then nam (f_X12_goes (rI σ 113 (ix (4 + l1))) l3 ((rI σ 113 (ix 2)) + l4)) fun x2 => nam (l4 + 1) fun x3 => b_X12_thenOf_13 σ l1 l2 f x2 x3 else none) else none))
def f_X12_thenOf (σ : Sg) (l1 : Int32) (l2 : Int32) : Option Int32 := (if inb (18 + l1) (kLen 113) = true then nam (rI σ 113 (ix (18 + l1))) fun x1 => b_X12_thenOf_13 σ l1 l2 FU x1 0 else none)
set_option maxRecDepth 100000 in
set_option maxHeartbeats 4000000 in
theorem q_X12_thenOf_13 {g : Cx} (σ : Sg) (l1 : Int32) (l2 : Int32) (r : Int32) : ∀ f : Nat, ∀ l3 : Int32, ∀ l4 : Int32, b_X12_thenOf_13 σ l1 l2 f l3 l4 = some r → V g cX12_thenOf RX12 wsX12_thenOf 5 (some .int) rm_X12_thenOf (some (.int r)) σ σ 13 [(0, .ref (g.1 112)), (1, .int l1), (2, .int l2), (3, .int l3), (4, .int l4)] [] := by
  intro f
  induction f with
  | zero =>
    intro l3 l4 h
    cases h
  | succ f ih =>
    intro l3 l4 h
    rw [b_X12_thenOf_13] at h
    refine v_iload 15 4 dX12_thenOf_13 rfl rfl ?_
    refine v_iload_n 16 2 dX12_thenOf_15 rfl rfl rfl ?_
    refine v_icmp_ge 19 47 h dX12_thenOf_16 rfl (by decide) (fun h => ?_) (fun h => ?_)
    · refine v_iload_n 48 3 dX12_thenOf_47 rfl rfl rfl ?_
      exact v_iretP h rfl dX12_thenOf_48
    · refine v_aload_n 20 0 dX12_thenOf_19 rfl rfl rfl ?_
      refine vg_8_0 23 (rfl : kK 112 = 8) in_X12_thenOf_8 (mem_at 1 rfl) dX12_thenOf_20 rfl ?_
      refine v_iconst 24 4 dX12_thenOf_23 kc_i_4 rfl ?_
      refine v_iload_n 25 1 dX12_thenOf_24 rfl rfl rfl ?_
      refine v_iadd 26 dX12_thenOf_25 rfl ?_
      refine v_iald 27 h (rfl : kK 113 = 9) dX12_thenOf_26 rfl (fun h => ?_)
      refine v_iload_n 28 3 dX12_thenOf_27 rfl rfl rfl ?_
      refine v_aload_n 29 0 dX12_thenOf_28 rfl rfl rfl ?_
      refine vg_8_0 32 (rfl : kK 112 = 8) in_X12_thenOf_8 (mem_at 1 rfl) dX12_thenOf_29 rfl ?_
      refine v_iconst 33 2 dX12_thenOf_32 kc_i_2 rfl ?_
      refine v_iald 34 h (rfl : kK 113 = 9) dX12_thenOf_33 rfl (fun h => ?_)
      refine v_iload 36 4 dX12_thenOf_34 rfl rfl ?_
      refine v_iadd 37 dX12_thenOf_36 rfl ?_
      refine v_cS 40 [.int (rI σ 113 (ix (4 + l1))), .int l3, .int ((rI σ 113 (ix 2)) + l4)] (c_X12_goes (rI σ 113 (ix (4 + l1))) l3 ((rI σ 113 (ix 2)) + l4)) cl_X12_goes gX12_thenOf_X12_goes ⟨Nat.le_of_ble_eq_true rfl, Nat.le_of_ble_eq_true rfl⟩ rfl rfl (Nat.le_of_ble_eq_true rfl) dX12_thenOf_37 rfl ?_
      refine v_istoreN_n 41 h dX12_thenOf_40 rfl (by decide) rfl (fun _ => rfl) (fun x2 h => ?_)
      refine v_iincN 44 4 h dX12_thenOf_41 rfl kc_i_1 (by decide) rfl (fun _ => rfl) (fun x3 h => ?_)
      refine v_goto 13 dX12_thenOf_44 (by decide) ?_
      refine v_sub [2, 3, 4, 1, 0] rfl ?_
      exact ih x2 x3 h
set_option maxRecDepth 100000 in
set_option maxHeartbeats 4000000 in
theorem c_X12_thenOf {g : Cx} {σ : Sg} (l1 : Int32) (l2 : Int32) (r : Int32) (h : f_X12_thenOf σ l1 l2 = some r) : ∀ l, MetF l yX12_thenOf wsX12_thenOf rm_X12_thenOf g [.ref (g.1 112), .int l1, .int l2] σ (some (.int r)) σ := by
  refine MetF.of (own0 := RX12) (lv0 := [(0, .ref (g.1 112)), (1, .int l1), (2, .int l2)]) rfl cl_X12_thenOf (by decide) (Nat.le_of_ble_eq_true rfl) rfl ?_
  unfold f_X12_thenOf at h
  refine v_aload_n 1 0 dX12_thenOf_0 rfl rfl rfl ?_
  refine vg_8_0 4 (rfl : kK 112 = 8) in_X12_thenOf_8 (mem_at 1 rfl) dX12_thenOf_1 rfl ?_
  refine v_bipush 6 18 dX12_thenOf_4 kc_b_18 rfl ?_
  refine v_iload_n 7 1 dX12_thenOf_6 rfl rfl rfl ?_
  refine v_iadd 8 dX12_thenOf_7 rfl ?_
  refine v_iald 9 h (rfl : kK 113 = 9) dX12_thenOf_8 rfl (fun h => ?_)
  refine v_istoreN_n 10 h dX12_thenOf_9 rfl (by decide) rfl (fun _ => rfl) (fun x1 h => ?_)
  refine v_iconst 11 0 dX12_thenOf_10 kc_i_0 rfl ?_
  refine v_istore 13 dX12_thenOf_11 (by decide) rfl rfl ?_
  refine v_sub [2, 3, 4, 1, 0] rfl ?_
  exact q_X12_thenOf_13 σ l1 l2 r FU x1 0 h
-- public int then(int, int);
abbrev rm_X12_then : Room := { frames := 3, cells := 0, slots := 0, locals := 67 }
theorem cl_X12_then : Cl yX12_then wsX12_then cX12_then 3 (some .int) rm_X12_then 2 := ⟨⟨_, rfl⟩, rfl, rfl, by decide +kernel, by decide +kernel, by decide +kernel⟩
def b_X12_then_29 (l1 : Int32) (l2 : Int32) (σ : Sg) : Option (Int32 × Sg) := bnd (f_X12_bad σ (-2)) fun x2 s3 => (some (x2, s3))
def f_X12_then (σ : Sg) (l1 : Int32) (l2 : Int32) : Option (Int32 × Sg) := (f_X12_isKeeper σ l1).bind fun x1 => (if x1 = 0 then b_X12_then_29 l1 l2 σ else (if (f_X12_in (Int32.toInt64 l2) 0 99) = 0 then b_X12_then_29 l1 l2 σ else (f_X12_thenOf σ l1 l2).bind fun x4 => (some (x4, σ))))
set_option maxRecDepth 100000 in
set_option maxHeartbeats 4000000 in
theorem q_X12_then_29 {g : Cx} (l1 : Int32) (l2 : Int32) (r : Int32) (τ : Sg) : ∀ σ : Sg, b_X12_then_29 l1 l2 σ = some (r, τ) → V g cX12_then RX12 wsX12_then 3 (some .int) rm_X12_then (some (.int r)) τ σ 29 [(0, .ref (g.1 112))] [] := by
  intro σ h
  unfold b_X12_then_29 at h
  refine v_aload_n 30 0 dX12_then_29 rfl rfl rfl ?_
  refine v_bipush 32 (-2) dX12_then_30 kc_b_m2 rfl ?_
  obtain ⟨x2, s3, h0, h⟩ := ob2 h
  refine v_cV 35 8 [.int (-2)] (rfl : kK 112 = 8) rfl (c_X12_bad (-2) _ _ h0) cl_X12_bad gX12_then_X12_bad rfl ⟨Nat.le_of_ble_eq_true rfl, Nat.le_of_ble_eq_true rfl⟩ rfl rfl (Nat.le_of_ble_eq_true rfl) dX12_then_32 rfl ?_
  exact v_iretS h rfl dX12_then_35
set_option maxRecDepth 100000 in
set_option maxHeartbeats 4000000 in
theorem c_X12_then {g : Cx} {σ : Sg} (l1 : Int32) (l2 : Int32) (r : Int32) (τ : Sg) (h : f_X12_then σ l1 l2 = some (r, τ)) : ∀ l, MetF l yX12_then wsX12_then rm_X12_then g [.ref (g.1 112), .int l1, .int l2] σ (some (.int r)) τ := by
  refine MetF.of (own0 := RX12) (lv0 := [(0, .ref (g.1 112)), (1, .int l1), (2, .int l2)]) rfl cl_X12_then (by decide) (Nat.le_of_ble_eq_true rfl) rfl ?_
  unfold f_X12_then at h
  refine v_aload_n 1 0 dX12_then_0 rfl rfl rfl ?_
  refine v_iload_n 2 1 dX12_then_1 rfl rfl rfl ?_
  obtain ⟨x1, h0, h⟩ := ob h
  refine v_cV 5 8 [.int l1] (rfl : kK 112 = 8) rfl (c_X12_isKeeper l1 _ h0) cl_X12_isKeeper gX12_then_X12_isKeeper rfl ⟨Nat.le_of_ble_eq_true rfl, Nat.le_of_ble_eq_true rfl⟩ rfl rfl (Nat.le_of_ble_eq_true rfl) dX12_then_2 rfl ?_
  refine v_if_eq 8 29 h dX12_then_5 rfl (by decide) (fun h => ?_) (fun h => ?_)
  · refine v_sub [0] rfl ?_
    exact q_X12_then_29 l1 l2 r τ σ h
  · refine v_iload_n 9 2 dX12_then_8 rfl rfl rfl ?_
    refine v_i2l 10 dX12_then_9 rfl ?_
    refine v_lconst 11 0 dX12_then_10 kc_l_0 rfl ?_
    refine v_ldc2 14 99 dX12_then_11 (mem_at 1 rfl) rfl ?_
    refine v_cS 17 [.long (Int32.toInt64 l2), .long 0, .long 99] (c_X12_in (Int32.toInt64 l2) 0 99) cl_X12_in gX12_then_X12_in ⟨Nat.le_of_ble_eq_true rfl, Nat.le_of_ble_eq_true rfl⟩ rfl rfl (Nat.le_of_ble_eq_true rfl) dX12_then_14 rfl ?_
    refine v_if_eq 20 29 h dX12_then_17 rfl (by decide) (fun h => ?_) (fun h => ?_)
    · refine v_sub [0] rfl ?_
      exact q_X12_then_29 l1 l2 r τ σ h
    · refine v_aload_n 21 0 dX12_then_20 rfl rfl rfl ?_
      refine v_iload_n 22 1 dX12_then_21 rfl rfl rfl ?_
      refine v_iload_n 23 2 dX12_then_22 rfl rfl rfl ?_
      obtain ⟨x4, h0, h⟩ := ob h
      refine v_cV 26 8 [.int l1, .int l2] (rfl : kK 112 = 8) rfl (c_X12_thenOf l1 l2 _ h0) cl_X12_thenOf gX12_then_X12_thenOf rfl ⟨Nat.le_of_ble_eq_true rfl, Nat.le_of_ble_eq_true rfl⟩ rfl rfl (Nat.le_of_ble_eq_true rfl) dX12_then_23 rfl ?_
      refine v_goto 35 dX12_then_26 (by decide) ?_
      exact v_iretS h rfl dX12_then_35
-- public int tipped(int, int, int, int);
abbrev rm_X12_tipped : Room := { frames := 2, cells := 0, slots := 0, locals := 46 }
theorem cl_X12_tipped : Cl yX12_tipped wsX12_tipped cX12_tipped 6 (some .int) rm_X12_tipped 4 := ⟨⟨_, rfl⟩, rfl, rfl, by decide +kernel, by decide +kernel, by decide +kernel⟩
theorem in_X12_tipped_8 : ∀ w ∈ wsX120, w ∈ wsX12_tipped := fun w h => List.mem_cons_of_mem _ (List.mem_append_right _ h)
def b_X12_tipped_45 (l1 : Int32) (l2 : Int32) (l3 : Int32) (l4 : Int32) (σ : Sg) : Option (Int32 × Sg) := bnd (f_X12_bad σ (-2)) fun x2 s3 => (some (x2, s3))
def f_X12_tipped (σ : Sg) (l1 : Int32) (l2 : Int32) (l3 : Int32) (l4 : Int32) : Option (Int32 × Sg) := (f_X12_isBalance σ l1).bind fun x1 => (if x1 = 0 then b_X12_tipped_45 l1 l2 l3 l4 σ else (if (f_X12_in (Int32.toInt64 l2) 0 999) = 0 then b_X12_tipped_45 l1 l2 l3 l4 σ else (if (f_X12_in (Int32.toInt64 l3) 0 999) = 0 then b_X12_tipped_45 l1 l2 l3 l4 σ else (if (f_X12_in (Int32.toInt64 l4) (-1) 1) = 0 then b_X12_tipped_45 l1 l2 l3 l4 σ else (if inb 87 (kLen 113) = true then (if (rI σ 113 (ix 87)) = 6 then bnd (f_X12_full σ) fun x10 s11 => (some (x10, s11)) else (if inb 87 (kLen 113) = true then nam (88 + (4 * (rI σ 113 (ix 87)))) fun x4 => (if inb x4 (kLen 113) = true then nam (stI σ 113 (ix x4) l1) (fun s5 => (if inb (x4 + 1) (kLen 113) = true then nam (stI s5 113 (ix (x4 + 1)) l2) (fun s6 => (if inb (x4 + 2) (kLen 113) = true then nam (stI s6 113 (ix (x4 + 2)) l3) (fun s7 => (if inb (x4 + 3) (kLen 113) = true then nam (stI s7 113 (ix (x4 + 3)) l4) (fun s8 => (if inb 87 (kLen 113) = true then (if inb 87 (kLen 113) = true then nam (stI s8 113 (ix 87) ((rI s8 113 (ix 87)) + 1)) (fun s9 => (if inb 87 (kLen 113) = true then (some (rI s9 113 (ix 87), s9)) else none)) else none) else none)) else none)) else none)) else none)) else none) else none)) else none)))))
set_option maxRecDepth 100000 in
set_option maxHeartbeats 4000000 in
theorem q_X12_tipped_45 {g : Cx} (l1 : Int32) (l2 : Int32) (l3 : Int32) (l4 : Int32) (r : Int32) (τ : Sg) : ∀ σ : Sg, b_X12_tipped_45 l1 l2 l3 l4 σ = some (r, τ) → V g cX12_tipped RX12 wsX12_tipped 6 (some .int) rm_X12_tipped (some (.int r)) τ σ 45 [(0, .ref (g.1 112))] [] := by
  intro σ h
  unfold b_X12_tipped_45 at h
  refine v_aload_n 46 0 dX12_tipped_45 rfl rfl rfl ?_
  refine v_bipush 48 (-2) dX12_tipped_46 kc_b_m2 rfl ?_
  obtain ⟨x2, s3, h0, h⟩ := ob2 h
  refine v_cV 51 8 [.int (-2)] (rfl : kK 112 = 8) rfl (c_X12_bad (-2) _ _ h0) cl_X12_bad gX12_tipped_X12_bad rfl ⟨Nat.le_of_ble_eq_true rfl, Nat.le_of_ble_eq_true rfl⟩ rfl rfl (Nat.le_of_ble_eq_true rfl) dX12_tipped_48 rfl ?_
  exact v_iretS h rfl dX12_tipped_51
set_option maxRecDepth 100000 in
set_option maxHeartbeats 4000000 in
theorem c_X12_tipped {g : Cx} {σ : Sg} (l1 : Int32) (l2 : Int32) (l3 : Int32) (l4 : Int32) (r : Int32) (τ : Sg) (h : f_X12_tipped σ l1 l2 l3 l4 = some (r, τ)) : ∀ l, MetF l yX12_tipped wsX12_tipped rm_X12_tipped g [.ref (g.1 112), .int l1, .int l2, .int l3, .int l4] σ (some (.int r)) τ := by
  refine MetF.of (own0 := RX12) (lv0 := [(0, .ref (g.1 112)), (1, .int l1), (2, .int l2), (3, .int l3), (4, .int l4)]) rfl cl_X12_tipped (by decide) (Nat.le_of_ble_eq_true rfl) rfl ?_
  unfold f_X12_tipped at h
  refine v_aload_n 1 0 dX12_tipped_0 rfl rfl rfl ?_
  refine v_iload_n 2 1 dX12_tipped_1 rfl rfl rfl ?_
  obtain ⟨x1, h0, h⟩ := ob h
  refine v_cV 5 8 [.int l1] (rfl : kK 112 = 8) rfl (c_X12_isBalance l1 _ h0) cl_X12_isBalance gX12_tipped_X12_isBalance rfl ⟨Nat.le_of_ble_eq_true rfl, Nat.le_of_ble_eq_true rfl⟩ rfl rfl (Nat.le_of_ble_eq_true rfl) dX12_tipped_2 rfl ?_
  refine v_if_eq 8 45 h dX12_tipped_5 rfl (by decide) (fun h => ?_) (fun h => ?_)
  · refine v_sub [0] rfl ?_
    exact q_X12_tipped_45 l1 l2 l3 l4 r τ σ h
  · refine v_iload_n 9 2 dX12_tipped_8 rfl rfl rfl ?_
    refine v_i2l 10 dX12_tipped_9 rfl ?_
    refine v_lconst 11 0 dX12_tipped_10 kc_l_0 rfl ?_
    refine v_ldc2 14 999 dX12_tipped_11 (mem_at 1 rfl) rfl ?_
    refine v_cS 17 [.long (Int32.toInt64 l2), .long 0, .long 999] (c_X12_in (Int32.toInt64 l2) 0 999) cl_X12_in gX12_tipped_X12_in ⟨Nat.le_of_ble_eq_true rfl, Nat.le_of_ble_eq_true rfl⟩ rfl rfl (Nat.le_of_ble_eq_true rfl) dX12_tipped_14 rfl ?_
    refine v_if_eq 20 45 h dX12_tipped_17 rfl (by decide) (fun h => ?_) (fun h => ?_)
    · refine v_sub [0] rfl ?_
      exact q_X12_tipped_45 l1 l2 l3 l4 r τ σ h
    · refine v_iload_n 21 3 dX12_tipped_20 rfl rfl rfl ?_
      refine v_i2l 22 dX12_tipped_21 rfl ?_
      refine v_lconst 23 0 dX12_tipped_22 kc_l_0 rfl ?_
      refine v_ldc2 26 999 dX12_tipped_23 (mem_at 1 rfl) rfl ?_
      refine v_cS 29 [.long (Int32.toInt64 l3), .long 0, .long 999] (c_X12_in (Int32.toInt64 l3) 0 999) cl_X12_in gX12_tipped_X12_in ⟨Nat.le_of_ble_eq_true rfl, Nat.le_of_ble_eq_true rfl⟩ rfl rfl (Nat.le_of_ble_eq_true rfl) dX12_tipped_26 rfl ?_
      refine v_if_eq 32 45 h dX12_tipped_29 rfl (by decide) (fun h => ?_) (fun h => ?_)
      · refine v_sub [0] rfl ?_
        exact q_X12_tipped_45 l1 l2 l3 l4 r τ σ h
      · refine v_iload 34 4 dX12_tipped_32 rfl rfl ?_
        refine v_i2l 35 dX12_tipped_34 rfl ?_
        refine v_ldc2 38 (-1) dX12_tipped_35 (mem_at 2 rfl) rfl ?_
        refine v_lconst 39 1 dX12_tipped_38 kc_l_1 rfl ?_
        refine v_cS 42 [.long (Int32.toInt64 l4), .long (-1), .long 1] (c_X12_in (Int32.toInt64 l4) (-1) 1) cl_X12_in gX12_tipped_X12_in ⟨Nat.le_of_ble_eq_true rfl, Nat.le_of_ble_eq_true rfl⟩ rfl rfl (Nat.le_of_ble_eq_true rfl) dX12_tipped_39 rfl ?_
        refine v_if_ne 45 52 h dX12_tipped_42 rfl (by decide) (fun h => ?_) (fun h => ?_)
        · refine v_aload_n 53 0 dX12_tipped_52 rfl rfl rfl ?_
          refine vg_8_0 56 (rfl : kK 112 = 8) in_X12_tipped_8 (mem_at 3 rfl) dX12_tipped_53 rfl ?_
          refine v_bipush 58 87 dX12_tipped_56 kc_b_87 rfl ?_
          refine v_iald 59 h (rfl : kK 113 = 9) dX12_tipped_58 rfl (fun h => ?_)
          refine v_bipush 61 6 dX12_tipped_59 kc_b_6 rfl ?_
          refine v_icmp_ne 64 69 h dX12_tipped_61 rfl (by decide) (fun h => ?_) (fun h => ?_)
          · refine v_bipush 71 88 dX12_tipped_69 kc_b_88 rfl ?_
            refine v_iconst 72 4 dX12_tipped_71 kc_i_4 rfl ?_
            refine v_aload_n 73 0 dX12_tipped_72 rfl rfl rfl ?_
            refine vg_8_0 76 (rfl : kK 112 = 8) in_X12_tipped_8 (mem_at 3 rfl) dX12_tipped_73 rfl ?_
            refine v_bipush 78 87 dX12_tipped_76 kc_b_87 rfl ?_
            refine v_iald 79 h (rfl : kK 113 = 9) dX12_tipped_78 rfl (fun h => ?_)
            refine v_imul 80 dX12_tipped_79 rfl ?_
            refine v_iadd 81 dX12_tipped_80 rfl ?_
            refine v_istoreN 83 h dX12_tipped_81 (by decide) rfl (fun _ => rfl) (fun x4 h => ?_)
            refine v_aload_n 84 1 dX12_tipped_83 rfl rfl rfl ?_
            refine vg_8_0 87 (rfl : kK 112 = 8) in_X12_tipped_8 (mem_at 3 rfl) dX12_tipped_84 rfl ?_
            refine v_iload 89 0 dX12_tipped_87 rfl rfl ?_
            refine v_iload_n 90 2 dX12_tipped_89 rfl rfl rfl ?_
            refine v_iast 91 h (rfl : kK 113 = 9) dX12_tipped_90 rfl (fun s5 h => ?_)
            refine v_aload_n 92 1 dX12_tipped_91 rfl rfl rfl ?_
            refine vg_8_0 95 (rfl : kK 112 = 8) in_X12_tipped_8 (mem_at 3 rfl) dX12_tipped_92 rfl ?_
            refine v_iload 97 0 dX12_tipped_95 rfl rfl ?_
            refine v_iconst 98 1 dX12_tipped_97 kc_i_1 rfl ?_
            refine v_iadd 99 dX12_tipped_98 rfl ?_
            refine v_iload_n 100 3 dX12_tipped_99 rfl rfl rfl ?_
            refine v_iast 101 h (rfl : kK 113 = 9) dX12_tipped_100 rfl (fun s6 h => ?_)
            refine v_aload_n 102 1 dX12_tipped_101 rfl rfl rfl ?_
            refine vg_8_0 105 (rfl : kK 112 = 8) in_X12_tipped_8 (mem_at 3 rfl) dX12_tipped_102 rfl ?_
            refine v_iload 107 0 dX12_tipped_105 rfl rfl ?_
            refine v_iconst 108 2 dX12_tipped_107 kc_i_2 rfl ?_
            refine v_iadd 109 dX12_tipped_108 rfl ?_
            refine v_iload_n 110 4 dX12_tipped_109 rfl rfl rfl ?_
            refine v_iast 111 h (rfl : kK 113 = 9) dX12_tipped_110 rfl (fun s7 h => ?_)
            refine v_aload_n 112 1 dX12_tipped_111 rfl rfl rfl ?_
            refine vg_8_0 115 (rfl : kK 112 = 8) in_X12_tipped_8 (mem_at 3 rfl) dX12_tipped_112 rfl ?_
            refine v_iload 117 0 dX12_tipped_115 rfl rfl ?_
            refine v_iconst 118 3 dX12_tipped_117 kc_i_3 rfl ?_
            refine v_iadd 119 dX12_tipped_118 rfl ?_
            refine v_iload 121 5 dX12_tipped_119 rfl rfl ?_
            refine v_iast 122 h (rfl : kK 113 = 9) dX12_tipped_121 rfl (fun s8 h => ?_)
            refine v_aload_n 123 1 dX12_tipped_122 rfl rfl rfl ?_
            refine vg_8_0 126 (rfl : kK 112 = 8) in_X12_tipped_8 (mem_at 3 rfl) dX12_tipped_123 rfl ?_
            refine v_bipush 128 87 dX12_tipped_126 kc_b_87 rfl ?_
            refine v_dup2 129 dX12_tipped_128 rfl rfl rfl ?_
            refine v_iald 130 h (rfl : kK 113 = 9) dX12_tipped_129 rfl (fun h => ?_)
            refine v_iconst 131 1 dX12_tipped_130 kc_i_1 rfl ?_
            refine v_iadd 132 dX12_tipped_131 rfl ?_
            refine v_iast 133 h (rfl : kK 113 = 9) dX12_tipped_132 rfl (fun s9 h => ?_)
            refine v_aload_n 134 1 dX12_tipped_133 rfl rfl rfl ?_
            refine vg_8_0 137 (rfl : kK 112 = 8) in_X12_tipped_8 (mem_at 3 rfl) dX12_tipped_134 rfl ?_
            refine v_bipush 139 87 dX12_tipped_137 kc_b_87 rfl ?_
            refine v_iald 140 h (rfl : kK 113 = 9) dX12_tipped_139 rfl (fun h => ?_)
            exact v_iretS h rfl dX12_tipped_140
          · refine v_aload_n 65 0 dX12_tipped_64 rfl rfl rfl ?_
            obtain ⟨x10, s11, h0, h⟩ := ob2 h
            refine v_cV 68 8 [] (rfl : kK 112 = 8) rfl (c_X12_full _ _ h0) cl_X12_full gX12_tipped_X12_full rfl ⟨Nat.le_of_ble_eq_true rfl, Nat.le_of_ble_eq_true rfl⟩ rfl rfl (Nat.le_of_ble_eq_true rfl) dX12_tipped_65 rfl ?_
            exact v_iretS h rfl dX12_tipped_68
        · refine v_sub [0] rfl ?_
          exact q_X12_tipped_45 l1 l2 l3 l4 r τ σ h
-- public int tips(int, int, int);
abbrev rm_X12_tips : Room := { frames := 3, cells := 0, slots := 0, locals := 68 }
theorem cl_X12_tips : Cl yX12_tips wsX12_tips cX12_tips 4 (some .int) rm_X12_tips 3 := ⟨⟨_, rfl⟩, rfl, rfl, by decide +kernel, by decide +kernel, by decide +kernel⟩
theorem in_X12_tips_8 : ∀ w ∈ wsX120, w ∈ wsX12_tips := fun w h => List.mem_cons_of_mem _ (List.mem_append_right _ h)
def b_X12_tips_17 (l1 : Int32) (l2 : Int32) (l3 : Int32) (σ : Sg) : Option (Int32 × Sg) := bnd (f_X12_bad σ (-2)) fun x2 s3 => (some (x2, s3))
def f_X12_tips (σ : Sg) (l1 : Int32) (l2 : Int32) (l3 : Int32) : Option (Int32 × Sg) := (f_X12_isBalance σ l1).bind fun x1 => (if x1 = 0 then b_X12_tips_17 l1 l2 l3 σ else (f_X12_arePans σ l2 l3).bind fun x4 => (if x4 = 0 then b_X12_tips_17 l1 l2 l3 σ else (if inb (39 + l1) (kLen 113) = true then (f_X12_sumOf σ 18 l2).bind fun x5 => (f_X12_sumOf σ 18 l3).bind fun x6 => (some (f_X12_tipOf (rI σ 113 (ix (39 + l1))) x5 x6, σ)) else none)))
set_option maxRecDepth 100000 in
set_option maxHeartbeats 4000000 in
theorem q_X12_tips_17 {g : Cx} (l1 : Int32) (l2 : Int32) (l3 : Int32) (r : Int32) (τ : Sg) : ∀ σ : Sg, b_X12_tips_17 l1 l2 l3 σ = some (r, τ) → V g cX12_tips RX12 wsX12_tips 4 (some .int) rm_X12_tips (some (.int r)) τ σ 17 [(0, .ref (g.1 112))] [] := by
  intro σ h
  unfold b_X12_tips_17 at h
  refine v_aload_n 18 0 dX12_tips_17 rfl rfl rfl ?_
  refine v_bipush 20 (-2) dX12_tips_18 kc_b_m2 rfl ?_
  obtain ⟨x2, s3, h0, h⟩ := ob2 h
  refine v_cV 23 8 [.int (-2)] (rfl : kK 112 = 8) rfl (c_X12_bad (-2) _ _ h0) cl_X12_bad gX12_tips_X12_bad rfl ⟨Nat.le_of_ble_eq_true rfl, Nat.le_of_ble_eq_true rfl⟩ rfl rfl (Nat.le_of_ble_eq_true rfl) dX12_tips_20 rfl ?_
  exact v_iretS h rfl dX12_tips_23
set_option maxRecDepth 100000 in
set_option maxHeartbeats 4000000 in
theorem c_X12_tips {g : Cx} {σ : Sg} (l1 : Int32) (l2 : Int32) (l3 : Int32) (r : Int32) (τ : Sg) (h : f_X12_tips σ l1 l2 l3 = some (r, τ)) : ∀ l, MetF l yX12_tips wsX12_tips rm_X12_tips g [.ref (g.1 112), .int l1, .int l2, .int l3] σ (some (.int r)) τ := by
  refine MetF.of (own0 := RX12) (lv0 := [(0, .ref (g.1 112)), (1, .int l1), (2, .int l2), (3, .int l3)]) rfl cl_X12_tips (by decide) (Nat.le_of_ble_eq_true rfl) rfl ?_
  unfold f_X12_tips at h
  refine v_aload_n 1 0 dX12_tips_0 rfl rfl rfl ?_
  refine v_iload_n 2 1 dX12_tips_1 rfl rfl rfl ?_
  obtain ⟨x1, h0, h⟩ := ob h
  refine v_cV 5 8 [.int l1] (rfl : kK 112 = 8) rfl (c_X12_isBalance l1 _ h0) cl_X12_isBalance gX12_tips_X12_isBalance rfl ⟨Nat.le_of_ble_eq_true rfl, Nat.le_of_ble_eq_true rfl⟩ rfl rfl (Nat.le_of_ble_eq_true rfl) dX12_tips_2 rfl ?_
  refine v_if_eq 8 17 h dX12_tips_5 rfl (by decide) (fun h => ?_) (fun h => ?_)
  · refine v_sub [0] rfl ?_
    exact q_X12_tips_17 l1 l2 l3 r τ σ h
  · refine v_aload_n 9 0 dX12_tips_8 rfl rfl rfl ?_
    refine v_iload_n 10 2 dX12_tips_9 rfl rfl rfl ?_
    refine v_iload_n 11 3 dX12_tips_10 rfl rfl rfl ?_
    obtain ⟨x4, h0, h⟩ := ob h
    refine v_cV 14 8 [.int l2, .int l3] (rfl : kK 112 = 8) rfl (c_X12_arePans l2 l3 _ h0) cl_X12_arePans gX12_tips_X12_arePans rfl ⟨Nat.le_of_ble_eq_true rfl, Nat.le_of_ble_eq_true rfl⟩ rfl rfl (Nat.le_of_ble_eq_true rfl) dX12_tips_11 rfl ?_
    refine v_if_ne 17 24 h dX12_tips_14 rfl (by decide) (fun h => ?_) (fun h => ?_)
    · refine v_aload_n 25 0 dX12_tips_24 rfl rfl rfl ?_
      refine vg_8_0 28 (rfl : kK 112 = 8) in_X12_tips_8 (mem_at 1 rfl) dX12_tips_25 rfl ?_
      refine v_bipush 30 39 dX12_tips_28 kc_b_39 rfl ?_
      refine v_iload_n 31 1 dX12_tips_30 rfl rfl rfl ?_
      refine v_iadd 32 dX12_tips_31 rfl ?_
      refine v_iald 33 h (rfl : kK 113 = 9) dX12_tips_32 rfl (fun h => ?_)
      refine v_aload_n 34 0 dX12_tips_33 rfl rfl rfl ?_
      refine v_bipush 36 18 dX12_tips_34 kc_b_18 rfl ?_
      refine v_iload_n 37 2 dX12_tips_36 rfl rfl rfl ?_
      obtain ⟨x5, h0, h⟩ := ob h
      refine v_cV 40 8 [.int 18, .int l2] (rfl : kK 112 = 8) rfl (c_X12_sumOf 18 l2 _ h0) cl_X12_sumOf gX12_tips_X12_sumOf rfl ⟨Nat.le_of_ble_eq_true rfl, Nat.le_of_ble_eq_true rfl⟩ rfl rfl (Nat.le_of_ble_eq_true rfl) dX12_tips_37 rfl ?_
      refine v_aload_n 41 0 dX12_tips_40 rfl rfl rfl ?_
      refine v_bipush 43 18 dX12_tips_41 kc_b_18 rfl ?_
      refine v_iload_n 44 3 dX12_tips_43 rfl rfl rfl ?_
      obtain ⟨x6, h0, h⟩ := ob h
      refine v_cV 47 8 [.int 18, .int l3] (rfl : kK 112 = 8) rfl (c_X12_sumOf 18 l3 _ h0) cl_X12_sumOf gX12_tips_X12_sumOf rfl ⟨Nat.le_of_ble_eq_true rfl, Nat.le_of_ble_eq_true rfl⟩ rfl rfl (Nat.le_of_ble_eq_true rfl) dX12_tips_44 rfl ?_
      refine v_cS 50 [.int (rI σ 113 (ix (39 + l1))), .int x5, .int x6] (c_X12_tipOf (rI σ 113 (ix (39 + l1))) x5 x6) cl_X12_tipOf gX12_tips_X12_tipOf ⟨Nat.le_of_ble_eq_true rfl, Nat.le_of_ble_eq_true rfl⟩ rfl rfl (Nat.le_of_ble_eq_true rfl) dX12_tips_47 rfl ?_
      exact v_iretS h rfl dX12_tips_50
    · refine v_sub [0] rfl ?_
      exact q_X12_tips_17 l1 l2 l3 r τ σ h
-- public int type(int);
abbrev rm_X12_type : Room := { frames := 1, cells := 0, slots := 0, locals := 25 }
theorem cl_X12_type : Cl yX12_type wsX12_type cX12_type 2 (some .int) rm_X12_type 1 := ⟨⟨_, rfl⟩, rfl, rfl, by decide +kernel, by decide +kernel, by decide +kernel⟩
theorem in_X12_type_8 : ∀ w ∈ wsX120, w ∈ wsX12_type := fun w h => List.mem_cons_of_mem _ (List.mem_append_right _ h)
def f_X12_type (σ : Sg) (l1 : Int32) : Option (Int32 × Sg) := (if (f_X12_in (Int32.toInt64 l1) 0 127) = 0 then bnd (f_X12_bad σ (-2)) fun x5 s6 => (some (x5, s6)) else (if (rI σ 112 3) = 150 then bnd (f_X12_full σ) fun x3 s4 => (some (x3, s4)) else (if inb (rI σ 112 3) (kLen 115) = true then nam (stI σ 115 (ix (rI σ 112 3)) l1) (fun s1 => nam (stI s1 112 3 ((rI s1 112 3) + 1)) fun s2 => (some (rI s2 112 3, s2))) else none)))
set_option maxRecDepth 100000 in
set_option maxHeartbeats 4000000 in
theorem c_X12_type {g : Cx} {σ : Sg} (l1 : Int32) (r : Int32) (τ : Sg) (h : f_X12_type σ l1 = some (r, τ)) : ∀ l, MetF l yX12_type wsX12_type rm_X12_type g [.ref (g.1 112), .int l1] σ (some (.int r)) τ := by
  refine MetF.of (own0 := RX12) (lv0 := [(0, .ref (g.1 112)), (1, .int l1)]) rfl cl_X12_type (by decide) (Nat.le_of_ble_eq_true rfl) rfl ?_
  unfold f_X12_type at h
  refine v_iload_n 1 1 dX12_type_0 rfl rfl rfl ?_
  refine v_i2l 2 dX12_type_1 rfl ?_
  refine v_lconst 3 0 dX12_type_2 kc_l_0 rfl ?_
  refine v_ldc2 6 127 dX12_type_3 (mem_at 1 rfl) rfl ?_
  refine v_cS 9 [.long (Int32.toInt64 l1), .long 0, .long 127] (c_X12_in (Int32.toInt64 l1) 0 127) cl_X12_in gX12_type_X12_in ⟨Nat.le_of_ble_eq_true rfl, Nat.le_of_ble_eq_true rfl⟩ rfl rfl (Nat.le_of_ble_eq_true rfl) dX12_type_6 rfl ?_
  refine v_if_ne 12 19 h dX12_type_9 rfl (by decide) (fun h => ?_) (fun h => ?_)
  · refine v_aload_n 20 0 dX12_type_19 rfl rfl rfl ?_
    refine vg_8_3 23 (rfl : kK 112 = 8) in_X12_type_8 (mem_at 2 rfl) dX12_type_20 rfl ?_
    refine v_sipush 26 150 dX12_type_23 kc_s_150 rfl ?_
    refine v_icmp_ne 29 34 h dX12_type_26 rfl (by decide) (fun h => ?_) (fun h => ?_)
    · refine v_aload_n 35 0 dX12_type_34 rfl rfl rfl ?_
      refine vg_8_2 38 (rfl : kK 112 = 8) in_X12_type_8 (mem_at 3 rfl) dX12_type_35 rfl ?_
      refine v_aload_n 39 0 dX12_type_38 rfl rfl rfl ?_
      refine vg_8_3 42 (rfl : kK 112 = 8) in_X12_type_8 (mem_at 2 rfl) dX12_type_39 rfl ?_
      refine v_iload_n 43 1 dX12_type_42 rfl rfl rfl ?_
      refine v_iast 44 h (rfl : kK 115 = 9) dX12_type_43 rfl (fun s1 h => ?_)
      refine v_aload_n 45 0 dX12_type_44 rfl rfl rfl ?_
      refine v_dup 46 dX12_type_45 rfl rfl ?_
      refine vg_8_3 49 (rfl : kK 112 = 8) in_X12_type_8 (mem_at 2 rfl) dX12_type_46 rfl ?_
      refine v_iconst 50 1 dX12_type_49 kc_i_1 rfl ?_
      refine v_iadd 51 dX12_type_50 rfl ?_
      refine vp_8_3 54 h (rfl : kK 112 = 8) in_X12_type_8 (mem_at 2 rfl) dX12_type_51 rfl (fun s2 h => ?_)
      refine v_aload_n 55 0 dX12_type_54 rfl rfl rfl ?_
      refine vg_8_3 58 (rfl : kK 112 = 8) in_X12_type_8 (mem_at 2 rfl) dX12_type_55 rfl ?_
      exact v_iretS h rfl dX12_type_58
    · refine v_aload_n 30 0 dX12_type_29 rfl rfl rfl ?_
      obtain ⟨x3, s4, h0, h⟩ := ob2 h
      refine v_cV 33 8 [] (rfl : kK 112 = 8) rfl (c_X12_full _ _ h0) cl_X12_full gX12_type_X12_full rfl ⟨Nat.le_of_ble_eq_true rfl, Nat.le_of_ble_eq_true rfl⟩ rfl rfl (Nat.le_of_ble_eq_true rfl) dX12_type_30 rfl ?_
      exact v_iretS h rfl dX12_type_33
  · refine v_aload_n 13 0 dX12_type_12 rfl rfl rfl ?_
    refine v_bipush 15 (-2) dX12_type_13 kc_b_m2 rfl ?_
    obtain ⟨x5, s6, h0, h⟩ := ob2 h
    refine v_cV 18 8 [.int (-2)] (rfl : kK 112 = 8) rfl (c_X12_bad (-2) _ _ h0) cl_X12_bad gX12_type_X12_bad rfl ⟨Nat.le_of_ble_eq_true rfl, Nat.le_of_ble_eq_true rfl⟩ rfl rfl (Nat.le_of_ble_eq_true rfl) dX12_type_15 rfl ?_
    exact v_iretS h rfl dX12_type_18
-- public int undo();
abbrev rm_X12_undo : Room := { frames := 1, cells := 0, slots := 0, locals := 20 }
theorem cl_X12_undo : Cl yX12_undo wsX12_undo cX12_undo 3 (some .int) rm_X12_undo 0 := ⟨⟨_, rfl⟩, rfl, rfl, by decide +kernel, by decide +kernel, by decide +kernel⟩
theorem in_X12_undo_8 : ∀ w ∈ wsX120, w ∈ wsX12_undo := fun w h => List.mem_cons_of_mem _ (List.mem_append_right _ h)
def b_X12_undo_42 : Nat → Sg → Int32 → Int32 → Option (Int32 × Sg)
  | 0, _, _, _ => none
  | f + 1, σ, l1, l2 => (if 7 ≤ l2 then (if inb (l1 + 14) (kLen 113) = true then (if inb 3 (kLen 113) = true then nam (stI σ 113 (ix 3) (rI σ 113 (ix (l1 + 14)))) (fun s3 => (if inb (l1 + 15) (kLen 113) = true then (if inb 2 (kLen 113) = true then nam (stI s3 113 (ix 2) (rI s3 113 (ix (l1 + 15)))) (fun s4 => (if inb 2 (kLen 113) = true then (some (rI s4 113 (ix 2), s4)) else none)) else none) else none)) else none) else none) else (if inb (l1 + l2) (kLen 113) = true then (if inb (18 + l2) (kLen 113) = true then nam (stI σ 113 (ix (18 + l2)) (rI σ 113 (ix (l1 + l2)))) (fun s5 => (if inb ((l1 + 7) + l2) (kLen 113) = true then (if inb (32 + l2) (kLen 113) = true then nam (stI s5 113 (ix (32 + l2)) (rI s5 113 (ix ((l1 + 7) + l2)))) (fun s6 => nam (l2 + 1) fun x7 => b_X12_undo_42 f s6 l1 x7) else none) else none)) else none) else none))
def f_X12_undo (σ : Sg) : Option (Int32 × Sg) := (if inb 112 (kLen 113) = true then (if (rI σ 113 (ix 112)) = 0 then bnd (f_X12_no σ) fun x8 s9 => (some (x8, s9)) else (if inb 112 (kLen 113) = true then (if inb 112 (kLen 113) = true then nam (stI σ 113 (ix 112) ((rI σ 113 (ix 112)) - 1)) (fun s1 => (if inb 112 (kLen 113) = true then nam (113 + (16 * (rI s1 113 (ix 112)))) fun x2 => b_X12_undo_42 FU s1 x2 0 else none)) else none) else none)) else none)
set_option maxRecDepth 100000 in
set_option maxHeartbeats 4000000 in
theorem q_X12_undo_42 {g : Cx} (r : Int32) (τ : Sg) : ∀ f : Nat, ∀ σ : Sg, ∀ l1 : Int32, ∀ l2 : Int32, b_X12_undo_42 f σ l1 l2 = some (r, τ) → V g cX12_undo RX12 wsX12_undo 3 (some .int) rm_X12_undo (some (.int r)) τ σ 42 [(0, .ref (g.1 112)), (1, .int l1), (2, .int l2)] [] := by
  intro f
  induction f with
  | zero =>
    intro σ l1 l2 h
    cases h
  | succ f ih =>
    intro σ l1 l2 h
    rw [b_X12_undo_42] at h
    refine v_iload_n 43 2 dX12_undo_42 rfl rfl rfl ?_
    refine v_bipush 45 7 dX12_undo_43 kc_b_7 rfl ?_
    refine v_icmp_ge 48 91 h dX12_undo_45 rfl (by decide) (fun h => ?_) (fun h => ?_)
    · refine v_aload_n 92 0 dX12_undo_91 rfl rfl rfl ?_
      refine vg_8_0 95 (rfl : kK 112 = 8) in_X12_undo_8 (mem_at 1 rfl) dX12_undo_92 rfl ?_
      refine v_iconst 96 3 dX12_undo_95 kc_i_3 rfl ?_
      refine v_aload_n 97 0 dX12_undo_96 rfl rfl rfl ?_
      refine vg_8_0 100 (rfl : kK 112 = 8) in_X12_undo_8 (mem_at 1 rfl) dX12_undo_97 rfl ?_
      refine v_iload_n 101 1 dX12_undo_100 rfl rfl rfl ?_
      refine v_bipush 103 14 dX12_undo_101 kc_b_14 rfl ?_
      refine v_iadd 104 dX12_undo_103 rfl ?_
      refine v_iald 105 h (rfl : kK 113 = 9) dX12_undo_104 rfl (fun h => ?_)
      refine v_iast 106 h (rfl : kK 113 = 9) dX12_undo_105 rfl (fun s3 h => ?_)
      refine v_aload_n 107 0 dX12_undo_106 rfl rfl rfl ?_
      refine vg_8_0 110 (rfl : kK 112 = 8) in_X12_undo_8 (mem_at 1 rfl) dX12_undo_107 rfl ?_
      refine v_iconst 111 2 dX12_undo_110 kc_i_2 rfl ?_
      refine v_aload_n 112 0 dX12_undo_111 rfl rfl rfl ?_
      refine vg_8_0 115 (rfl : kK 112 = 8) in_X12_undo_8 (mem_at 1 rfl) dX12_undo_112 rfl ?_
      refine v_iload_n 116 1 dX12_undo_115 rfl rfl rfl ?_
      refine v_bipush 118 15 dX12_undo_116 kc_b_15 rfl ?_
      refine v_iadd 119 dX12_undo_118 rfl ?_
      refine v_iald 120 h (rfl : kK 113 = 9) dX12_undo_119 rfl (fun h => ?_)
      refine v_iast 121 h (rfl : kK 113 = 9) dX12_undo_120 rfl (fun s4 h => ?_)
      refine v_aload_n 122 0 dX12_undo_121 rfl rfl rfl ?_
      refine vg_8_0 125 (rfl : kK 112 = 8) in_X12_undo_8 (mem_at 1 rfl) dX12_undo_122 rfl ?_
      refine v_iconst 126 2 dX12_undo_125 kc_i_2 rfl ?_
      refine v_iald 127 h (rfl : kK 113 = 9) dX12_undo_126 rfl (fun h => ?_)
      exact v_iretS h rfl dX12_undo_127
    · refine v_aload_n 49 0 dX12_undo_48 rfl rfl rfl ?_
      refine vg_8_0 52 (rfl : kK 112 = 8) in_X12_undo_8 (mem_at 1 rfl) dX12_undo_49 rfl ?_
      refine v_bipush 54 18 dX12_undo_52 kc_b_18 rfl ?_
      refine v_iload_n 55 2 dX12_undo_54 rfl rfl rfl ?_
      refine v_iadd 56 dX12_undo_55 rfl ?_
      refine v_aload_n 57 0 dX12_undo_56 rfl rfl rfl ?_
      refine vg_8_0 60 (rfl : kK 112 = 8) in_X12_undo_8 (mem_at 1 rfl) dX12_undo_57 rfl ?_
      refine v_iload_n 61 1 dX12_undo_60 rfl rfl rfl ?_
      refine v_iload_n 62 2 dX12_undo_61 rfl rfl rfl ?_
      refine v_iadd 63 dX12_undo_62 rfl ?_
      refine v_iald 64 h (rfl : kK 113 = 9) dX12_undo_63 rfl (fun h => ?_)
      refine v_iast 65 h (rfl : kK 113 = 9) dX12_undo_64 rfl (fun s5 h => ?_)
      refine v_aload_n 66 0 dX12_undo_65 rfl rfl rfl ?_
      refine vg_8_0 69 (rfl : kK 112 = 8) in_X12_undo_8 (mem_at 1 rfl) dX12_undo_66 rfl ?_
      refine v_bipush 71 32 dX12_undo_69 kc_b_32 rfl ?_
      refine v_iload_n 72 2 dX12_undo_71 rfl rfl rfl ?_
      refine v_iadd 73 dX12_undo_72 rfl ?_
      refine v_aload_n 74 0 dX12_undo_73 rfl rfl rfl ?_
      refine vg_8_0 77 (rfl : kK 112 = 8) in_X12_undo_8 (mem_at 1 rfl) dX12_undo_74 rfl ?_
      refine v_iload_n 78 1 dX12_undo_77 rfl rfl rfl ?_
      refine v_bipush 80 7 dX12_undo_78 kc_b_7 rfl ?_
      refine v_iadd 81 dX12_undo_80 rfl ?_
      refine v_iload_n 82 2 dX12_undo_81 rfl rfl rfl ?_
      refine v_iadd 83 dX12_undo_82 rfl ?_
      refine v_iald 84 h (rfl : kK 113 = 9) dX12_undo_83 rfl (fun h => ?_)
      refine v_iast 85 h (rfl : kK 113 = 9) dX12_undo_84 rfl (fun s6 h => ?_)
      refine v_iincN 88 2 h dX12_undo_85 rfl kc_i_1 (by decide) rfl (fun _ => rfl) (fun x7 h => ?_)
      refine v_goto 42 dX12_undo_88 (by decide) ?_
      refine v_sub [1, 2, 0] rfl ?_
      exact ih s6 l1 x7 h
set_option maxRecDepth 100000 in
set_option maxHeartbeats 4000000 in
theorem c_X12_undo {g : Cx} {σ : Sg} (r : Int32) (τ : Sg) (h : f_X12_undo σ = some (r, τ)) : ∀ l, MetF l yX12_undo wsX12_undo rm_X12_undo g [.ref (g.1 112)] σ (some (.int r)) τ := by
  refine MetF.of (own0 := RX12) (lv0 := [(0, .ref (g.1 112))]) rfl cl_X12_undo (by decide) (Nat.le_of_ble_eq_true rfl) rfl ?_
  unfold f_X12_undo at h
  refine v_aload_n 1 0 dX12_undo_0 rfl rfl rfl ?_
  refine vg_8_0 4 (rfl : kK 112 = 8) in_X12_undo_8 (mem_at 1 rfl) dX12_undo_1 rfl ?_
  refine v_bipush 6 112 dX12_undo_4 kc_b_112 rfl ?_
  refine v_iald 7 h (rfl : kK 113 = 9) dX12_undo_6 rfl (fun h => ?_)
  refine v_if_ne 10 15 h dX12_undo_7 rfl (by decide) (fun h => ?_) (fun h => ?_)
  · refine v_aload_n 16 0 dX12_undo_15 rfl rfl rfl ?_
    refine vg_8_0 19 (rfl : kK 112 = 8) in_X12_undo_8 (mem_at 1 rfl) dX12_undo_16 rfl ?_
    refine v_bipush 21 112 dX12_undo_19 kc_b_112 rfl ?_
    refine v_dup2 22 dX12_undo_21 rfl rfl rfl ?_
    refine v_iald 23 h (rfl : kK 113 = 9) dX12_undo_22 rfl (fun h => ?_)
    refine v_iconst 24 1 dX12_undo_23 kc_i_1 rfl ?_
    refine v_isub 25 dX12_undo_24 rfl ?_
    refine v_iast 26 h (rfl : kK 113 = 9) dX12_undo_25 rfl (fun s1 h => ?_)
    refine v_bipush 28 113 dX12_undo_26 kc_b_113 rfl ?_
    refine v_bipush 30 16 dX12_undo_28 kc_b_16 rfl ?_
    refine v_aload_n 31 0 dX12_undo_30 rfl rfl rfl ?_
    refine vg_8_0 34 (rfl : kK 112 = 8) in_X12_undo_8 (mem_at 1 rfl) dX12_undo_31 rfl ?_
    refine v_bipush 36 112 dX12_undo_34 kc_b_112 rfl ?_
    refine v_iald 37 h (rfl : kK 113 = 9) dX12_undo_36 rfl (fun h => ?_)
    refine v_imul 38 dX12_undo_37 rfl ?_
    refine v_iadd 39 dX12_undo_38 rfl ?_
    refine v_istoreN_n 40 h dX12_undo_39 rfl (by decide) rfl (fun _ => rfl) (fun x2 h => ?_)
    refine v_iconst 41 0 dX12_undo_40 kc_i_0 rfl ?_
    refine v_istore_n 42 dX12_undo_41 rfl (by decide) rfl rfl ?_
    refine v_sub [2, 1, 0] rfl ?_
    exact q_X12_undo_42 r τ FU s1 x2 0 h
  · refine v_aload_n 11 0 dX12_undo_10 rfl rfl rfl ?_
    obtain ⟨x8, s9, h0, h⟩ := ob2 h
    refine v_cV 14 8 [] (rfl : kK 112 = 8) rfl (c_X12_no _ _ h0) cl_X12_no gX12_undo_X12_no rfl ⟨Nat.le_of_ble_eq_true rfl, Nat.le_of_ble_eq_true rfl⟩ rfl rfl (Nat.le_of_ble_eq_true rfl) dX12_undo_11 rfl ?_
    exact v_iretS h rfl dX12_undo_14
-- public int visit(int, int);
abbrev rm_X12_visit : Room := { frames := 2, cells := 0, slots := 0, locals := 46 }
theorem cl_X12_visit : Cl yX12_visit wsX12_visit cX12_visit 4 (some .int) rm_X12_visit 2 := ⟨⟨_, rfl⟩, rfl, rfl, by decide +kernel, by decide +kernel, by decide +kernel⟩
theorem in_X12_visit_8 : ∀ w ∈ wsX120, w ∈ wsX12_visit := fun w h => List.mem_cons_of_mem _ (List.mem_append_right _ h)
def b_X12_visit_20 (l1 : Int32) (l2 : Int32) (σ : Sg) : Option (Int32 × Sg) := bnd (f_X12_bad σ (-2)) fun x2 s3 => (some (x2, s3))
def b_X12_visit_97 (l1 : Int32) (l2 : Int32) (σ : Sg) (l3 : Int32) (t0 : Int32) (t1 : Int32) (t2 : Int32) : Option (Int32 × Sg) := (if inb t2 (kLen 113) = true then nam (stI σ 113 (ix t2) (t1 ||| t0)) (fun s7 => (if l3 = 0 then (some (0, s7)) else (some (1, s7)))) else none)
def f_X12_visit (σ : Sg) (l1 : Int32) (l2 : Int32) : Option (Int32 × Sg) := (f_X12_isKeeper σ l1).bind fun x1 => (if x1 = 0 then b_X12_visit_20 l1 l2 σ else (if (f_X12_in (Int32.toInt64 l2) 0 9) = 0 then b_X12_visit_20 l1 l2 σ else (if inb 3 (kLen 113) = true then (if (f_X12_has (rI σ 113 (ix 3)) l1) = 0 then (f_X12_wouldLend σ l1 l2).bind fun x4 => (f_X12_minds σ).bind fun s5 => (if inb (32 + l1) (kLen 113) = true then (if inb (32 + l1) (kLen 113) = true then nam (stI s5 113 (ix (32 + l1)) (f_X12_moodBehind (rI s5 113 (ix (32 + l1))) l2 x4)) (fun s6 => (if inb 3 (kLen 113) = true then (if x4 = 0 then b_X12_visit_97 l1 l2 s6 x4 0 (rI s6 113 (ix 3)) 3 else b_X12_visit_97 l1 l2 s6 x4 (1 <<< (l1 &&& 31)) (rI s6 113 (ix 3)) 3) else none)) else none) else none) else bnd (f_X12_no σ) fun x8 s9 => (some (x8, s9))) else none)))
set_option maxRecDepth 100000 in
set_option maxHeartbeats 4000000 in
theorem q_X12_visit_20 {g : Cx} (l1 : Int32) (l2 : Int32) (r : Int32) (τ : Sg) : ∀ σ : Sg, b_X12_visit_20 l1 l2 σ = some (r, τ) → V g cX12_visit RX12 wsX12_visit 4 (some .int) rm_X12_visit (some (.int r)) τ σ 20 [(0, .ref (g.1 112))] [] := by
  intro σ h
  unfold b_X12_visit_20 at h
  refine v_aload_n 21 0 dX12_visit_20 rfl rfl rfl ?_
  refine v_bipush 23 (-2) dX12_visit_21 kc_b_m2 rfl ?_
  obtain ⟨x2, s3, h0, h⟩ := ob2 h
  refine v_cV 26 8 [.int (-2)] (rfl : kK 112 = 8) rfl (c_X12_bad (-2) _ _ h0) cl_X12_bad gX12_visit_X12_bad rfl ⟨Nat.le_of_ble_eq_true rfl, Nat.le_of_ble_eq_true rfl⟩ rfl rfl (Nat.le_of_ble_eq_true rfl) dX12_visit_23 rfl ?_
  exact v_iretS h rfl dX12_visit_26
set_option maxRecDepth 100000 in
set_option maxHeartbeats 4000000 in
theorem q_X12_visit_97 {g : Cx} (l1 : Int32) (l2 : Int32) (r : Int32) (τ : Sg) : ∀ σ : Sg, ∀ l3 : Int32, ∀ t0 : Int32, ∀ t1 : Int32, ∀ t2 : Int32, b_X12_visit_97 l1 l2 σ l3 t0 t1 t2 = some (r, τ) → V g cX12_visit RX12 wsX12_visit 4 (some .int) rm_X12_visit (some (.int r)) τ σ 97 [(3, .int l3)] [.int t0, .int t1, .int t2, .ref (g.1 113)] := by
  intro σ l3 t0 t1 t2 h
  unfold b_X12_visit_97 at h
  refine v_ior 98 dX12_visit_97 rfl ?_
  refine v_iast 99 h (rfl : kK 113 = 9) dX12_visit_98 rfl (fun s7 h => ?_)
  refine v_iload_n 100 0 dX12_visit_99 rfl rfl rfl ?_
  refine v_if_eq 103 107 h dX12_visit_100 rfl (by decide) (fun h => ?_) (fun h => ?_)
  · refine v_iconst 108 0 dX12_visit_107 kc_i_0 rfl ?_
    exact v_iretS h rfl dX12_visit_108
  · refine v_iconst 104 1 dX12_visit_103 kc_i_1 rfl ?_
    refine v_goto 108 dX12_visit_104 (by decide) ?_
    exact v_iretS h rfl dX12_visit_108
set_option maxRecDepth 100000 in
set_option maxHeartbeats 4000000 in
theorem c_X12_visit {g : Cx} {σ : Sg} (l1 : Int32) (l2 : Int32) (r : Int32) (τ : Sg) (h : f_X12_visit σ l1 l2 = some (r, τ)) : ∀ l, MetF l yX12_visit wsX12_visit rm_X12_visit g [.ref (g.1 112), .int l1, .int l2] σ (some (.int r)) τ := by
  refine MetF.of (own0 := RX12) (lv0 := [(0, .ref (g.1 112)), (1, .int l1), (2, .int l2)]) rfl cl_X12_visit (by decide) (Nat.le_of_ble_eq_true rfl) rfl ?_
  unfold f_X12_visit at h
  refine v_aload_n 1 0 dX12_visit_0 rfl rfl rfl ?_
  refine v_iload_n 2 1 dX12_visit_1 rfl rfl rfl ?_
  obtain ⟨x1, h0, h⟩ := ob h
  refine v_cV 5 8 [.int l1] (rfl : kK 112 = 8) rfl (c_X12_isKeeper l1 _ h0) cl_X12_isKeeper gX12_visit_X12_isKeeper rfl ⟨Nat.le_of_ble_eq_true rfl, Nat.le_of_ble_eq_true rfl⟩ rfl rfl (Nat.le_of_ble_eq_true rfl) dX12_visit_2 rfl ?_
  refine v_if_eq 8 20 h dX12_visit_5 rfl (by decide) (fun h => ?_) (fun h => ?_)
  · refine v_sub [0] rfl ?_
    exact q_X12_visit_20 l1 l2 r τ σ h
  · refine v_iload_n 9 2 dX12_visit_8 rfl rfl rfl ?_
    refine v_i2l 10 dX12_visit_9 rfl ?_
    refine v_lconst 11 0 dX12_visit_10 kc_l_0 rfl ?_
    refine v_ldc2 14 9 dX12_visit_11 (mem_at 1 rfl) rfl ?_
    refine v_cS 17 [.long (Int32.toInt64 l2), .long 0, .long 9] (c_X12_in (Int32.toInt64 l2) 0 9) cl_X12_in gX12_visit_X12_in ⟨Nat.le_of_ble_eq_true rfl, Nat.le_of_ble_eq_true rfl⟩ rfl rfl (Nat.le_of_ble_eq_true rfl) dX12_visit_14 rfl ?_
    refine v_if_ne 20 27 h dX12_visit_17 rfl (by decide) (fun h => ?_) (fun h => ?_)
    · refine v_aload_n 28 0 dX12_visit_27 rfl rfl rfl ?_
      refine vg_8_0 31 (rfl : kK 112 = 8) in_X12_visit_8 (mem_at 2 rfl) dX12_visit_28 rfl ?_
      refine v_iconst 32 3 dX12_visit_31 kc_i_3 rfl ?_
      refine v_iald 33 h (rfl : kK 113 = 9) dX12_visit_32 rfl (fun h => ?_)
      refine v_iload_n 34 1 dX12_visit_33 rfl rfl rfl ?_
      refine v_cS 37 [.int (rI σ 113 (ix 3)), .int l1] (c_X12_has (rI σ 113 (ix 3)) l1) cl_X12_has gX12_visit_X12_has ⟨Nat.le_of_ble_eq_true rfl, Nat.le_of_ble_eq_true rfl⟩ rfl rfl (Nat.le_of_ble_eq_true rfl) dX12_visit_34 rfl ?_
      refine v_if_eq 40 45 h dX12_visit_37 rfl (by decide) (fun h => ?_) (fun h => ?_)
      · refine v_aload_n 46 0 dX12_visit_45 rfl rfl rfl ?_
        refine v_iload_n 47 1 dX12_visit_46 rfl rfl rfl ?_
        refine v_iload_n 48 2 dX12_visit_47 rfl rfl rfl ?_
        obtain ⟨x4, h0, h⟩ := ob h
        refine v_cV 51 8 [.int l1, .int l2] (rfl : kK 112 = 8) rfl (c_X12_wouldLend l1 l2 _ h0) cl_X12_wouldLend gX12_visit_X12_wouldLend rfl ⟨Nat.le_of_ble_eq_true rfl, Nat.le_of_ble_eq_true rfl⟩ rfl rfl (Nat.le_of_ble_eq_true rfl) dX12_visit_48 rfl ?_
        refine v_istore_n 52 dX12_visit_51 rfl (by decide) rfl rfl ?_
        refine v_aload_n 53 1 dX12_visit_52 rfl rfl rfl ?_
        obtain ⟨s5, h0, h⟩ := ob h
        refine v_cV 56 8 [] (rfl : kK 112 = 8) rfl (c_X12_minds _ h0) cl_X12_minds gX12_visit_X12_minds rfl ⟨Nat.le_of_ble_eq_true rfl, Nat.le_of_ble_eq_true rfl⟩ rfl rfl (Nat.le_of_ble_eq_true rfl) dX12_visit_53 rfl ?_
        refine v_aload_n 57 1 dX12_visit_56 rfl rfl rfl ?_
        refine vg_8_0 60 (rfl : kK 112 = 8) in_X12_visit_8 (mem_at 2 rfl) dX12_visit_57 rfl ?_
        refine v_bipush 62 32 dX12_visit_60 kc_b_32 rfl ?_
        refine v_iload_n 63 2 dX12_visit_62 rfl rfl rfl ?_
        refine v_iadd 64 dX12_visit_63 rfl ?_
        refine v_aload_n 65 1 dX12_visit_64 rfl rfl rfl ?_
        refine vg_8_0 68 (rfl : kK 112 = 8) in_X12_visit_8 (mem_at 2 rfl) dX12_visit_65 rfl ?_
        refine v_bipush 70 32 dX12_visit_68 kc_b_32 rfl ?_
        refine v_iload_n 71 2 dX12_visit_70 rfl rfl rfl ?_
        refine v_iadd 72 dX12_visit_71 rfl ?_
        refine v_iald 73 h (rfl : kK 113 = 9) dX12_visit_72 rfl (fun h => ?_)
        refine v_iload_n 74 3 dX12_visit_73 rfl rfl rfl ?_
        refine v_iload_n 75 0 dX12_visit_74 rfl rfl rfl ?_
        refine v_cS 78 [.int (rI s5 113 (ix (32 + l1))), .int l2, .int x4] (c_X12_moodBehind (rI s5 113 (ix (32 + l1))) l2 x4) cl_X12_moodBehind gX12_visit_X12_moodBehind ⟨Nat.le_of_ble_eq_true rfl, Nat.le_of_ble_eq_true rfl⟩ rfl rfl (Nat.le_of_ble_eq_true rfl) dX12_visit_75 rfl ?_
        refine v_iast 79 h (rfl : kK 113 = 9) dX12_visit_78 rfl (fun s6 h => ?_)
        refine v_aload_n 80 1 dX12_visit_79 rfl rfl rfl ?_
        refine vg_8_0 83 (rfl : kK 112 = 8) in_X12_visit_8 (mem_at 2 rfl) dX12_visit_80 rfl ?_
        refine v_iconst 84 3 dX12_visit_83 kc_i_3 rfl ?_
        refine v_dup2 85 dX12_visit_84 rfl rfl rfl ?_
        refine v_iald 86 h (rfl : kK 113 = 9) dX12_visit_85 rfl (fun h => ?_)
        refine v_iload_n 87 0 dX12_visit_86 rfl rfl rfl ?_
        refine v_if_eq 90 96 h dX12_visit_87 rfl (by decide) (fun h => ?_) (fun h => ?_)
        · refine v_iconst 97 0 dX12_visit_96 kc_i_0 rfl ?_
          refine v_sub [0] rfl ?_
          exact q_X12_visit_97 l1 l2 r τ s6 x4 0 (rI s6 113 (ix 3)) 3 h
        · refine v_iconst 91 1 dX12_visit_90 kc_i_1 rfl ?_
          refine v_iload_n 92 2 dX12_visit_91 rfl rfl rfl ?_
          refine v_ishl 93 dX12_visit_92 rfl ?_
          refine v_goto 97 dX12_visit_93 (by decide) ?_
          refine v_sub [0] rfl ?_
          exact q_X12_visit_97 l1 l2 r τ s6 x4 (1 <<< (l1 &&& 31)) (rI s6 113 (ix 3)) 3 h
      · refine v_aload_n 41 0 dX12_visit_40 rfl rfl rfl ?_
        obtain ⟨x8, s9, h0, h⟩ := ob2 h
        refine v_cV 44 8 [] (rfl : kK 112 = 8) rfl (c_X12_no _ _ h0) cl_X12_no gX12_visit_X12_no rfl ⟨Nat.le_of_ble_eq_true rfl, Nat.le_of_ble_eq_true rfl⟩ rfl rfl (Nat.le_of_ble_eq_true rfl) dX12_visit_41 rfl ?_
        exact v_iretS h rfl dX12_visit_44
    · refine v_sub [0] rfl ?_
      exact q_X12_visit_20 l1 l2 r τ σ h
-- public int watch(int);
abbrev rm_X12_watch : Room := { frames := 3, cells := 0, slots := 0, locals := 69 }
theorem cl_X12_watch : Cl yX12_watch wsX12_watch cX12_watch 7 (some .int) rm_X12_watch 1 := ⟨⟨_, rfl⟩, rfl, rfl, by decide +kernel, by decide +kernel, by decide +kernel⟩
theorem in_X12_watch_8 : ∀ w ∈ wsX120, w ∈ wsX12_watch := fun w h => List.mem_cons_of_mem _ (List.mem_append_right _ h)
def b_X12_watch_133 (l1 : Int32) (c30 : Sg → Int32 → Int32 → Int32 → Int32 → Option (Int32 × Sg)) (σ : Sg) (l2 : Int32) (l3 : Int32) (l5 : Int32) (t0 : Int32) : Option (Int32 × Sg) := nam (l5 + 1) fun x5 => c30 σ l2 l3 t0 x5
def b_X12_watch_118 (l1 : Int32) (c30 : Sg → Int32 → Int32 → Int32 → Int32 → Option (Int32 × Sg)) (σ : Sg) (l2 : Int32) (l4 : Int32) (l5 : Int32) (l6 : Int32) (t0 : Int32) : Option (Int32 × Sg) := (if l4 ≤ l6 then b_X12_watch_133 l1 c30 σ l2 t0 l5 l4 else b_X12_watch_133 l1 c30 σ l2 t0 l5 l6)
def b_X12_watch_91 (l1 : Int32) (c30 : Sg → Int32 → Int32 → Int32 → Int32 → Option (Int32 × Sg)) (c48 : Sg → Int32 → Int32 → Int32 → Int32 → Int32 → Option (Int32 × Sg)) (σ : Sg) (l2 : Int32) (l3 : Int32) (l4 : Int32) (l5 : Int32) (l6 : Int32) (t0 : Int32) (t1 : Int32) (t2 : Int32) : Option (Int32 × Sg) := (if inb t2 (kLen 120) = true then nam (stI σ 120 (ix t2) (t1 + t0)) (fun s6 => nam (l6 + 1) fun x7 => c48 s6 l2 l3 l4 l5 x7) else none)
def b_X12_watch_48 (l1 : Int32) (c30 : Sg → Int32 → Int32 → Int32 → Int32 → Option (Int32 × Sg)) : Nat → Sg → Int32 → Int32 → Int32 → Int32 → Int32 → Option (Int32 × Sg)
  | 0, _, _, _, _, _, _ => none
  | f + 1, σ, l2, l3, l4, l5, l6 => (if 6 ≤ l6 then (f_X12_greatestPart σ).bind fun x4 => (if l4 ≤ x4 then b_X12_watch_118 l1 c30 σ l2 l4 l5 x4 l3 else b_X12_watch_118 l1 c30 σ l2 l4 l5 x4 l5) else (if inb (18 + l1) (kLen 113) = true then (if inb (f_X12_goes l6 (rI σ 113 (ix (18 + l1))) l5) (kLen 120) = true then (if (f_X12_has l2 l6) = 0 then b_X12_watch_91 l1 c30 (b_X12_watch_48 l1 c30 f) σ l2 l3 l4 l5 l6 0 (rI σ 120 (ix (f_X12_goes l6 (rI σ 113 (ix (18 + l1))) l5))) (f_X12_goes l6 (rI σ 113 (ix (18 + l1))) l5) else b_X12_watch_91 l1 c30 (b_X12_watch_48 l1 c30 f) σ l2 l3 l4 l5 l6 1 (rI σ 120 (ix (f_X12_goes l6 (rI σ 113 (ix (18 + l1))) l5))) (f_X12_goes l6 (rI σ 113 (ix (18 + l1))) l5)) else none) else none))
def b_X12_watch_30 (l1 : Int32) : Nat → Sg → Int32 → Int32 → Int32 → Int32 → Option (Int32 × Sg)
  | 0, _, _, _, _, _ => none
  | f + 1, σ, l2, l3, l4, l5 => (if 12 ≤ l5 then (some (l3, σ)) else (if l2 ≤ 0 then (some (l3, σ)) else (f_X12_emptiesParts σ).bind fun s3 => b_X12_watch_48 l1 (b_X12_watch_30 l1 f) FU s3 l2 l3 l4 l5 0))
def f_X12_watch (σ : Sg) (l1 : Int32) : Option (Int32 × Sg) := (f_X12_isKeeper σ l1).bind fun x1 => (if x1 = 0 then bnd (f_X12_bad σ (-2)) fun x8 s9 => (some (x8, s9)) else (f_X12_kindsOf σ l1).bind fun x2 => b_X12_watch_30 l1 FU σ x2 (-1) 1000000 0)
set_option maxRecDepth 100000 in
set_option maxHeartbeats 4000000 in
theorem q_X12_watch_133 {g : Cx} (l1 : Int32) (r : Int32) (τ : Sg) (c30 : Sg → Int32 → Int32 → Int32 → Int32 → Option (Int32 × Sg)) (hc30 : ∀ σ : Sg, ∀ l2 : Int32, ∀ l3 : Int32, ∀ l4 : Int32, ∀ l5 : Int32, c30 σ l2 l3 l4 l5 = some (r, τ) → V g cX12_watch RX12 wsX12_watch 7 (some .int) rm_X12_watch (some (.int r)) τ σ 30 [(0, .ref (g.1 112)), (1, .int l1), (2, .int l2), (3, .int l3), (4, .int l4), (5, .int l5)] []) : ∀ σ : Sg, ∀ l2 : Int32, ∀ l3 : Int32, ∀ l5 : Int32, ∀ t0 : Int32, b_X12_watch_133 l1 c30 σ l2 l3 l5 t0 = some (r, τ) → V g cX12_watch RX12 wsX12_watch 7 (some .int) rm_X12_watch (some (.int r)) τ σ 133 [(0, .ref (g.1 112)), (1, .int l1), (2, .int l2), (3, .int l3), (5, .int l5)] [.int t0] := by
  intro σ l2 l3 l5 t0 h
  unfold b_X12_watch_133 at h
  refine v_istore 135 dX12_watch_133 (by decide) rfl rfl ?_
  refine v_iincN 138 5 h dX12_watch_135 rfl kc_i_1 (by decide) rfl (fun _ => rfl) (fun x5 h => ?_)
  refine v_goto 30 dX12_watch_138 (by decide) ?_
  refine v_sub [2, 3, 4, 5, 1, 0] rfl ?_
  exact hc30 σ l2 l3 t0 x5 h
set_option maxRecDepth 100000 in
set_option maxHeartbeats 4000000 in
theorem q_X12_watch_118 {g : Cx} (l1 : Int32) (r : Int32) (τ : Sg) (c30 : Sg → Int32 → Int32 → Int32 → Int32 → Option (Int32 × Sg)) (hc30 : ∀ σ : Sg, ∀ l2 : Int32, ∀ l3 : Int32, ∀ l4 : Int32, ∀ l5 : Int32, c30 σ l2 l3 l4 l5 = some (r, τ) → V g cX12_watch RX12 wsX12_watch 7 (some .int) rm_X12_watch (some (.int r)) τ σ 30 [(0, .ref (g.1 112)), (1, .int l1), (2, .int l2), (3, .int l3), (4, .int l4), (5, .int l5)] []) : ∀ σ : Sg, ∀ l2 : Int32, ∀ l4 : Int32, ∀ l5 : Int32, ∀ l6 : Int32, ∀ t0 : Int32, b_X12_watch_118 l1 c30 σ l2 l4 l5 l6 t0 = some (r, τ) → V g cX12_watch RX12 wsX12_watch 7 (some .int) rm_X12_watch (some (.int r)) τ σ 118 [(0, .ref (g.1 112)), (1, .int l1), (2, .int l2), (4, .int l4), (5, .int l5), (6, .int l6)] [.int t0] := by
  intro σ l2 l4 l5 l6 t0 h
  unfold b_X12_watch_118 at h
  refine v_istore_n 119 dX12_watch_118 rfl (by decide) rfl rfl ?_
  refine v_iload 121 6 dX12_watch_119 rfl rfl ?_
  refine v_iload 123 4 dX12_watch_121 rfl rfl ?_
  refine v_icmp_ge 126 131 h dX12_watch_123 rfl (by decide) (fun h => ?_) (fun h => ?_)
  · refine v_iload 133 4 dX12_watch_131 rfl rfl ?_
    refine v_sub [1, 2, 3, 0, 5] rfl ?_
    exact q_X12_watch_133 l1 r τ c30 hc30 σ l2 t0 l5 l4 h
  · refine v_iload 128 6 dX12_watch_126 rfl rfl ?_
    refine v_goto 133 dX12_watch_128 (by decide) ?_
    refine v_sub [1, 2, 3, 0, 5] rfl ?_
    exact q_X12_watch_133 l1 r τ c30 hc30 σ l2 t0 l5 l6 h
set_option maxRecDepth 100000 in
set_option maxHeartbeats 4000000 in
theorem q_X12_watch_91 {g : Cx} (l1 : Int32) (r : Int32) (τ : Sg) (c30 : Sg → Int32 → Int32 → Int32 → Int32 → Option (Int32 × Sg)) (c48 : Sg → Int32 → Int32 → Int32 → Int32 → Int32 → Option (Int32 × Sg)) (hc30 : ∀ σ : Sg, ∀ l2 : Int32, ∀ l3 : Int32, ∀ l4 : Int32, ∀ l5 : Int32, c30 σ l2 l3 l4 l5 = some (r, τ) → V g cX12_watch RX12 wsX12_watch 7 (some .int) rm_X12_watch (some (.int r)) τ σ 30 [(0, .ref (g.1 112)), (1, .int l1), (2, .int l2), (3, .int l3), (4, .int l4), (5, .int l5)] []) (hc48 : ∀ σ : Sg, ∀ l2 : Int32, ∀ l3 : Int32, ∀ l4 : Int32, ∀ l5 : Int32, ∀ l6 : Int32, c48 σ l2 l3 l4 l5 l6 = some (r, τ) → V g cX12_watch RX12 wsX12_watch 7 (some .int) rm_X12_watch (some (.int r)) τ σ 48 [(0, .ref (g.1 112)), (1, .int l1), (2, .int l2), (3, .int l3), (4, .int l4), (5, .int l5), (6, .int l6)] []) : ∀ σ : Sg, ∀ l2 : Int32, ∀ l3 : Int32, ∀ l4 : Int32, ∀ l5 : Int32, ∀ l6 : Int32, ∀ t0 : Int32, ∀ t1 : Int32, ∀ t2 : Int32, (t0 = 0 ∨ t0 = 1) → b_X12_watch_91 l1 c30 c48 σ l2 l3 l4 l5 l6 t0 t1 t2 = some (r, τ) → V g cX12_watch RX12 wsX12_watch 7 (some .int) rm_X12_watch (some (.int r)) τ σ 91 [(0, .ref (g.1 112)), (1, .int l1), (2, .int l2), (3, .int l3), (4, .int l4), (5, .int l5), (6, .int l6)] [.int t0, .int t1, .int t2, .ref (g.1 120)] := by
  intro σ l2 l3 l4 l5 l6 t0 t1 t2 hz0 h
  unfold b_X12_watch_91 at h
  refine v_iadd 92 dX12_watch_91 rfl ?_
  refine v_iast 93 h (rfl : kK 120 = 9) dX12_watch_92 rfl (fun s6 h => ?_)
  refine v_iincN 96 6 h dX12_watch_93 rfl kc_i_1 (by decide) rfl (fun _ => rfl) (fun x7 h => ?_)
  refine v_goto 48 dX12_watch_96 (by decide) ?_
  refine v_sub [1, 2, 3, 4, 5, 6, 0] rfl ?_
  exact hc48 s6 l2 l3 l4 l5 x7 h
set_option maxRecDepth 100000 in
set_option maxHeartbeats 4000000 in
theorem q_X12_watch_48 {g : Cx} (l1 : Int32) (r : Int32) (τ : Sg) (c30 : Sg → Int32 → Int32 → Int32 → Int32 → Option (Int32 × Sg)) (hc30 : ∀ σ : Sg, ∀ l2 : Int32, ∀ l3 : Int32, ∀ l4 : Int32, ∀ l5 : Int32, c30 σ l2 l3 l4 l5 = some (r, τ) → V g cX12_watch RX12 wsX12_watch 7 (some .int) rm_X12_watch (some (.int r)) τ σ 30 [(0, .ref (g.1 112)), (1, .int l1), (2, .int l2), (3, .int l3), (4, .int l4), (5, .int l5)] []) : ∀ f : Nat, ∀ σ : Sg, ∀ l2 : Int32, ∀ l3 : Int32, ∀ l4 : Int32, ∀ l5 : Int32, ∀ l6 : Int32, b_X12_watch_48 l1 c30 f σ l2 l3 l4 l5 l6 = some (r, τ) → V g cX12_watch RX12 wsX12_watch 7 (some .int) rm_X12_watch (some (.int r)) τ σ 48 [(0, .ref (g.1 112)), (1, .int l1), (2, .int l2), (3, .int l3), (4, .int l4), (5, .int l5), (6, .int l6)] [] := by
  intro f
  induction f with
  | zero =>
    intro σ l2 l3 l4 l5 l6 h
    cases h
  | succ f ih =>
    intro σ l2 l3 l4 l5 l6 h
    rw [b_X12_watch_48] at h
    refine v_iload 50 6 dX12_watch_48 rfl rfl ?_
    refine v_bipush 52 6 dX12_watch_50 kc_b_6 rfl ?_
    refine v_icmp_ge 55 99 h dX12_watch_52 rfl (by decide) (fun h => ?_) (fun h => ?_)
    · refine v_aload_n 100 0 dX12_watch_99 rfl rfl rfl ?_
      obtain ⟨x4, h0, h⟩ := ob h
      refine v_cV 103 8 [] (rfl : kK 112 = 8) rfl (c_X12_greatestPart _ h0) cl_X12_greatestPart gX12_watch_X12_greatestPart rfl ⟨Nat.le_of_ble_eq_true rfl, Nat.le_of_ble_eq_true rfl⟩ rfl rfl (Nat.le_of_ble_eq_true rfl) dX12_watch_100 rfl ?_
      refine v_istore 105 dX12_watch_103 (by decide) rfl rfl ?_
      refine v_iload 107 0 dX12_watch_105 rfl rfl ?_
      refine v_iload 109 5 dX12_watch_107 rfl rfl ?_
      refine v_icmp_ge 112 117 h dX12_watch_109 rfl (by decide) (fun h => ?_) (fun h => ?_)
      · refine v_iload_n 118 4 dX12_watch_117 rfl rfl rfl ?_
        refine v_sub [1, 2, 3, 5, 6, 0] rfl ?_
        exact q_X12_watch_118 l1 r τ c30 hc30 σ l2 l4 l5 x4 l3 h
      · refine v_iload 114 6 dX12_watch_112 rfl rfl ?_
        refine v_goto 118 dX12_watch_114 (by decide) ?_
        refine v_sub [1, 2, 3, 5, 6, 0] rfl ?_
        exact q_X12_watch_118 l1 r τ c30 hc30 σ l2 l4 l5 x4 l5 h
    · refine v_aload_n 56 0 dX12_watch_55 rfl rfl rfl ?_
      refine vg_8_17 59 (rfl : kK 112 = 8) in_X12_watch_8 (mem_at 2 rfl) dX12_watch_56 rfl ?_
      refine v_iload 61 6 dX12_watch_59 rfl rfl ?_
      refine v_aload_n 62 0 dX12_watch_61 rfl rfl rfl ?_
      refine vg_8_0 65 (rfl : kK 112 = 8) in_X12_watch_8 (mem_at 3 rfl) dX12_watch_62 rfl ?_
      refine v_bipush 67 18 dX12_watch_65 kc_b_18 rfl ?_
      refine v_iload_n 68 1 dX12_watch_67 rfl rfl rfl ?_
      refine v_iadd 69 dX12_watch_68 rfl ?_
      refine v_iald 70 h (rfl : kK 113 = 9) dX12_watch_69 rfl (fun h => ?_)
      refine v_iload 72 5 dX12_watch_70 rfl rfl ?_
      refine v_cS 75 [.int l6, .int (rI σ 113 (ix (18 + l1))), .int l5] (c_X12_goes l6 (rI σ 113 (ix (18 + l1))) l5) cl_X12_goes gX12_watch_X12_goes ⟨Nat.le_of_ble_eq_true rfl, Nat.le_of_ble_eq_true rfl⟩ rfl rfl (Nat.le_of_ble_eq_true rfl) dX12_watch_72 rfl ?_
      refine v_dup2 76 dX12_watch_75 rfl rfl rfl ?_
      refine v_iald 77 h (rfl : kK 120 = 9) dX12_watch_76 rfl (fun h => ?_)
      refine v_iload_n 78 2 dX12_watch_77 rfl rfl rfl ?_
      refine v_iload 80 6 dX12_watch_78 rfl rfl ?_
      refine v_cS 83 [.int l2, .int l6] (c_X12_has l2 l6) cl_X12_has gX12_watch_X12_has ⟨Nat.le_of_ble_eq_true rfl, Nat.le_of_ble_eq_true rfl⟩ rfl rfl (Nat.le_of_ble_eq_true rfl) dX12_watch_80 rfl ?_
      refine v_if_eq 86 90 h dX12_watch_83 rfl (by decide) (fun h => ?_) (fun h => ?_)
      · refine v_iconst 91 0 dX12_watch_90 kc_i_0 rfl ?_
        refine v_sub [0, 1, 2, 3, 4, 5, 6] rfl ?_
        exact q_X12_watch_91 l1 r τ c30 (b_X12_watch_48 l1 c30 f) hc30 ih σ l2 l3 l4 l5 l6 0 (rI σ 120 (ix (f_X12_goes l6 (rI σ 113 (ix (18 + l1))) l5))) (f_X12_goes l6 (rI σ 113 (ix (18 + l1))) l5) (Or.inl rfl) h
      · refine v_iconst 87 1 dX12_watch_86 kc_i_1 rfl ?_
        refine v_goto 91 dX12_watch_87 (by decide) ?_
        refine v_sub [0, 1, 2, 3, 4, 5, 6] rfl ?_
        exact q_X12_watch_91 l1 r τ c30 (b_X12_watch_48 l1 c30 f) hc30 ih σ l2 l3 l4 l5 l6 1 (rI σ 120 (ix (f_X12_goes l6 (rI σ 113 (ix (18 + l1))) l5))) (f_X12_goes l6 (rI σ 113 (ix (18 + l1))) l5) (Or.inr rfl) h
set_option maxRecDepth 100000 in
set_option maxHeartbeats 4000000 in
theorem q_X12_watch_30 {g : Cx} (l1 : Int32) (r : Int32) (τ : Sg) : ∀ f : Nat, ∀ σ : Sg, ∀ l2 : Int32, ∀ l3 : Int32, ∀ l4 : Int32, ∀ l5 : Int32, b_X12_watch_30 l1 f σ l2 l3 l4 l5 = some (r, τ) → V g cX12_watch RX12 wsX12_watch 7 (some .int) rm_X12_watch (some (.int r)) τ σ 30 [(0, .ref (g.1 112)), (1, .int l1), (2, .int l2), (3, .int l3), (4, .int l4), (5, .int l5)] [] := by
  intro f
  induction f with
  | zero =>
    intro σ l2 l3 l4 l5 h
    cases h
  | succ f ih =>
    intro σ l2 l3 l4 l5 h
    rw [b_X12_watch_30] at h
    refine v_iload 32 5 dX12_watch_30 rfl rfl ?_
    refine v_bipush 34 12 dX12_watch_32 kc_b_12 rfl ?_
    refine v_icmp_ge 37 141 h dX12_watch_34 rfl (by decide) (fun h => ?_) (fun h => ?_)
    · refine v_iload_n 142 3 dX12_watch_141 rfl rfl rfl ?_
      exact v_iretS h rfl dX12_watch_142
    · refine v_iload_n 38 2 dX12_watch_37 rfl rfl rfl ?_
      refine v_if_le 41 141 h dX12_watch_38 rfl (by decide) (fun h => ?_) (fun h => ?_)
      · refine v_iload_n 142 3 dX12_watch_141 rfl rfl rfl ?_
        exact v_iretS h rfl dX12_watch_142
      · refine v_aload_n 42 0 dX12_watch_41 rfl rfl rfl ?_
        obtain ⟨s3, h0, h⟩ := ob h
        refine v_cV 45 8 [] (rfl : kK 112 = 8) rfl (c_X12_emptiesParts _ h0) cl_X12_emptiesParts gX12_watch_X12_emptiesParts rfl ⟨Nat.le_of_ble_eq_true rfl, Nat.le_of_ble_eq_true rfl⟩ rfl rfl (Nat.le_of_ble_eq_true rfl) dX12_watch_42 rfl ?_
        refine v_iconst 46 0 dX12_watch_45 kc_i_0 rfl ?_
        refine v_istore 48 dX12_watch_46 (by decide) rfl rfl ?_
        refine v_sub [1, 2, 3, 4, 5, 6, 0] rfl ?_
        exact q_X12_watch_48 l1 r τ (b_X12_watch_30 l1 f) ih FU s3 l2 l3 l4 l5 0 h
set_option maxRecDepth 100000 in
set_option maxHeartbeats 4000000 in
theorem c_X12_watch {g : Cx} {σ : Sg} (l1 : Int32) (r : Int32) (τ : Sg) (h : f_X12_watch σ l1 = some (r, τ)) : ∀ l, MetF l yX12_watch wsX12_watch rm_X12_watch g [.ref (g.1 112), .int l1] σ (some (.int r)) τ := by
  refine MetF.of (own0 := RX12) (lv0 := [(0, .ref (g.1 112)), (1, .int l1)]) rfl cl_X12_watch (by decide) (Nat.le_of_ble_eq_true rfl) rfl ?_
  unfold f_X12_watch at h
  refine v_aload_n 1 0 dX12_watch_0 rfl rfl rfl ?_
  refine v_iload_n 2 1 dX12_watch_1 rfl rfl rfl ?_
  obtain ⟨x1, h0, h⟩ := ob h
  refine v_cV 5 8 [.int l1] (rfl : kK 112 = 8) rfl (c_X12_isKeeper l1 _ h0) cl_X12_isKeeper gX12_watch_X12_isKeeper rfl ⟨Nat.le_of_ble_eq_true rfl, Nat.le_of_ble_eq_true rfl⟩ rfl rfl (Nat.le_of_ble_eq_true rfl) dX12_watch_2 rfl ?_
  refine v_if_ne 8 15 h dX12_watch_5 rfl (by decide) (fun h => ?_) (fun h => ?_)
  · refine v_aload_n 16 0 dX12_watch_15 rfl rfl rfl ?_
    refine v_iload_n 17 1 dX12_watch_16 rfl rfl rfl ?_
    obtain ⟨x2, h0, h⟩ := ob h
    refine v_cV 20 8 [.int l1] (rfl : kK 112 = 8) rfl (c_X12_kindsOf l1 _ h0) cl_X12_kindsOf gX12_watch_X12_kindsOf rfl ⟨Nat.le_of_ble_eq_true rfl, Nat.le_of_ble_eq_true rfl⟩ rfl rfl (Nat.le_of_ble_eq_true rfl) dX12_watch_17 rfl ?_
    refine v_istore_n 21 dX12_watch_20 rfl (by decide) rfl rfl ?_
    refine v_iconst 22 (-1) dX12_watch_21 kc_i_m1 rfl ?_
    refine v_istore_n 23 dX12_watch_22 rfl (by decide) rfl rfl ?_
    refine v_ldc 25 1000000 dX12_watch_23 (mem_at 1 rfl) rfl ?_
    refine v_istore 27 dX12_watch_25 (by decide) rfl rfl ?_
    refine v_iconst 28 0 dX12_watch_27 kc_i_0 rfl ?_
    refine v_istore 30 dX12_watch_28 (by decide) rfl rfl ?_
    refine v_sub [4, 5, 3, 2, 1, 0] rfl ?_
    exact q_X12_watch_30 l1 r τ FU σ x2 (-1) 1000000 0 h
  · refine v_aload_n 9 0 dX12_watch_8 rfl rfl rfl ?_
    refine v_bipush 11 (-2) dX12_watch_9 kc_b_m2 rfl ?_
    obtain ⟨x8, s9, h0, h⟩ := ob2 h
    refine v_cV 14 8 [.int (-2)] (rfl : kK 112 = 8) rfl (c_X12_bad (-2) _ _ h0) cl_X12_bad gX12_watch_X12_bad rfl ⟨Nat.le_of_ble_eq_true rfl, Nat.le_of_ble_eq_true rfl⟩ rfl rfl (Nat.le_of_ble_eq_true rfl) dX12_watch_11 rfl ?_
    exact v_iretS h rfl dX12_watch_14
-- public int who(int);
abbrev rm_X12_who : Room := { frames := 4, cells := 0, slots := 0, locals := 94 }
theorem cl_X12_who : Cl yX12_who wsX12_who cX12_who 2 (some .int) rm_X12_who 1 := ⟨⟨_, rfl⟩, rfl, rfl, by decide +kernel, by decide +kernel, by decide +kernel⟩
def f_X12_who (σ : Sg) (l1 : Int32) : Option (Int32 × Sg) := (f_X12_isBalance σ l1).bind fun x1 => (if x1 = 0 then bnd (f_X12_bad σ (-2)) fun x2 s3 => (some (x2, s3)) else (f_X12_balancesOf σ l1).bind fun x4 => (some (x4, σ)))
set_option maxRecDepth 100000 in
set_option maxHeartbeats 4000000 in
theorem c_X12_who {g : Cx} {σ : Sg} (l1 : Int32) (r : Int32) (τ : Sg) (h : f_X12_who σ l1 = some (r, τ)) : ∀ l, MetF l yX12_who wsX12_who rm_X12_who g [.ref (g.1 112), .int l1] σ (some (.int r)) τ := by
  refine MetF.of (own0 := RX12) (lv0 := [(0, .ref (g.1 112)), (1, .int l1)]) rfl cl_X12_who (by decide) (Nat.le_of_ble_eq_true rfl) rfl ?_
  unfold f_X12_who at h
  refine v_aload_n 1 0 dX12_who_0 rfl rfl rfl ?_
  refine v_iload_n 2 1 dX12_who_1 rfl rfl rfl ?_
  obtain ⟨x1, h0, h⟩ := ob h
  refine v_cV 5 8 [.int l1] (rfl : kK 112 = 8) rfl (c_X12_isBalance l1 _ h0) cl_X12_isBalance gX12_who_X12_isBalance rfl ⟨Nat.le_of_ble_eq_true rfl, Nat.le_of_ble_eq_true rfl⟩ rfl rfl (Nat.le_of_ble_eq_true rfl) dX12_who_2 rfl ?_
  refine v_if_eq 8 16 h dX12_who_5 rfl (by decide) (fun h => ?_) (fun h => ?_)
  · refine v_aload_n 17 0 dX12_who_16 rfl rfl rfl ?_
    refine v_bipush 19 (-2) dX12_who_17 kc_b_m2 rfl ?_
    obtain ⟨x2, s3, h0, h⟩ := ob2 h
    refine v_cV 22 8 [.int (-2)] (rfl : kK 112 = 8) rfl (c_X12_bad (-2) _ _ h0) cl_X12_bad gX12_who_X12_bad rfl ⟨Nat.le_of_ble_eq_true rfl, Nat.le_of_ble_eq_true rfl⟩ rfl rfl (Nat.le_of_ble_eq_true rfl) dX12_who_19 rfl ?_
    exact v_iretS h rfl dX12_who_22
  · refine v_aload_n 9 0 dX12_who_8 rfl rfl rfl ?_
    refine v_iload_n 10 1 dX12_who_9 rfl rfl rfl ?_
    obtain ⟨x4, h0, h⟩ := ob h
    refine v_cV 13 8 [.int l1] (rfl : kK 112 = 8) rfl (c_X12_balancesOf l1 _ h0) cl_X12_balancesOf gX12_who_X12_balancesOf rfl ⟨Nat.le_of_ble_eq_true rfl, Nat.le_of_ble_eq_true rfl⟩ rfl rfl (Nat.le_of_ble_eq_true rfl) dX12_who_10 rfl ?_
    refine v_goto 22 dX12_who_13 (by decide) ?_
    exact v_iretS h rfl dX12_who_22
-- public int years(int, int);
abbrev rm_X12_years : Room := { frames := 1, cells := 0, slots := 0, locals := 25 }
theorem cl_X12_years : Cl yX12_years wsX12_years cX12_years 11 (some .int) rm_X12_years 2 := ⟨⟨_, rfl⟩, rfl, rfl, by decide +kernel, by decide +kernel, by decide +kernel⟩
theorem in_X12_years_8 : ∀ w ∈ wsX120, w ∈ wsX12_years := fun w h => List.mem_cons_of_mem _ (List.mem_append_right _ h)
def b_X12_years_24 (l1 : Int32) (l2 : Int32) (σ : Sg) : Option (Int32 × Sg) := bnd (f_X12_bad σ (-2)) fun x1 s2 => (some (x1, s2))
def b_X12_years_282 (l1 : Int32) (l2 : Int32) (c77 : Sg → Int32 → Int64 → Int32 → Int32 → Option (Int32 × Sg)) (c218 : Sg → Int32 → Int64 → Int32 → Int32 → Int32 → Option (Int32 × Sg)) (σ : Sg) (l3 : Int32) (l4 : Int64) (l6 : Int32) (l7 : Int32) (l10 : Int32) (t0 : Int32) (t1 : Int32) : Option (Int32 × Sg) := (if inb t1 (kLen 121) = true then nam (stI σ 121 (ix t1) t0) (fun s9 => nam (l10 + 1) fun x10 => c218 s9 l3 l4 l6 l7 x10) else none)
def b_X12_years_218 (l1 : Int32) (l2 : Int32) (c77 : Sg → Int32 → Int64 → Int32 → Int32 → Option (Int32 × Sg)) : Nat → Sg → Int32 → Int64 → Int32 → Int32 → Int32 → Option (Int32 × Sg)
  | 0, _, _, _, _, _, _ => none
  | f + 1, σ, l3, l4, l6, l7, l10 => (if inb 0 (kLen 113) = true then (if (rI σ 113 (ix 0)) ≤ l10 then nam (l7 + 1) fun x8 => c77 σ l3 l4 l6 x8 else (if inb l10 (kLen 121) = true then (if (rI σ 121 (ix l10)) ≤ 5 then (if inb l10 (kLen 121) = true then (if 5 ≤ (rI σ 121 (ix l10)) then b_X12_years_282 l1 l2 c77 (b_X12_years_218 l1 l2 c77 f) σ l3 l4 l6 l7 l10 5 l10 else (if inb l10 (kLen 121) = true then b_X12_years_282 l1 l2 c77 (b_X12_years_218 l1 l2 c77 f) σ l3 l4 l6 l7 l10 ((rI σ 121 (ix l10)) + 1) l10 else none)) else none) else (if inb l10 (kLen 121) = true then b_X12_years_282 l1 l2 c77 (b_X12_years_218 l1 l2 c77 f) σ l3 l4 l6 l7 l10 ((rI σ 121 (ix l10)) - 1) l10 else none)) else none)) else none)
def b_X12_years_213 (l1 : Int32) (l2 : Int32) (c77 : Sg → Int32 → Int64 → Int32 → Int32 → Option (Int32 × Sg)) (σ : Sg) (l4 : Int64) (l6 : Int32) (l7 : Int32) : Option (Int32 × Sg) := b_X12_years_218 l1 l2 c77 FU σ 0 l4 l6 l7 0
def b_X12_years_210 (l1 : Int32) (l2 : Int32) (c77 : Sg → Int32 → Int64 → Int32 → Int32 → Option (Int32 × Sg)) (σ : Sg) (l4 : Int64) (l7 : Int32) (t0 : Int32) (t1 : Int32) : Option (Int32 × Sg) := nam (t1 + t0) fun x13 => b_X12_years_213 l1 l2 c77 σ l4 x13 l7
def b_X12_years_77 (l1 : Int32) (l2 : Int32) : Nat → Sg → Int32 → Int64 → Int32 → Int32 → Option (Int32 × Sg)
  | 0, _, _, _, _, _ => none
  | f + 1, σ, l3, l4, l6, l7 => (if l2 ≤ l7 then (some (l6, σ)) else nam (((l4 * 1103515245) + 12345) - ((l4 * 1103515245) + 12345) / 2147483648 * 2147483648) fun x5 => nam (Int64.toInt32 ((x5 / 65536) - (x5 / 65536) / 7 * 7)) fun x6 => nam (Int64.toInt32 ((x5 / 1048576) - (x5 / 1048576) / 10 * 10)) fun x7 => (if inb 0 (kLen 113) = true then (if (rI σ 113 (ix 0)) ≤ x6 then b_X12_years_213 l1 l2 (b_X12_years_77 l1 l2 f) σ x5 l6 l7 else (if (f_X12_has l3 x6) = 0 then (if inb (4 + x6) (kLen 113) = true then (if inb 2 (kLen 113) = true then (if inb x6 (kLen 121) = true then nam (f_X12_lends (rI σ 113 (ix (4 + x6))) ((rI σ 113 (ix 2)) + l7) (rI σ 121 (ix x6)) x7) fun x11 => (if inb x6 (kLen 121) = true then (if inb x6 (kLen 121) = true then nam (stI σ 121 (ix x6) (f_X12_moodBehind (rI σ 121 (ix x6)) x7 x11)) (fun s12 => (if x11 = 0 then b_X12_years_210 l1 l2 (b_X12_years_77 l1 l2 f) s12 x5 l7 0 l6 else b_X12_years_210 l1 l2 (b_X12_years_77 l1 l2 f) s12 x5 l7 1 l6)) else none) else none) else none) else none) else none) else b_X12_years_213 l1 l2 (b_X12_years_77 l1 l2 f) σ x5 l6 l7)) else none))
def b_X12_years_33 (l1 : Int32) (l2 : Int32) : Nat → Sg → Int32 → Option (Int32 × Sg)
  | 0, _, _ => none
  | f + 1, σ, l3 => (if 7 ≤ l3 then (if inb 3 (kLen 113) = true then nam (rI σ 113 (ix 3)) fun x3 => nam (Int32.toInt64 l1) fun x4 => b_X12_years_77 l1 l2 FU σ x3 x4 0 0 else none) else (if inb (32 + l3) (kLen 113) = true then (if inb l3 (kLen 121) = true then nam (stI σ 121 (ix l3) (rI σ 113 (ix (32 + l3)))) (fun s14 => nam (l3 + 1) fun x15 => b_X12_years_33 l1 l2 f s14 x15) else none) else none))
def f_X12_years (σ : Sg) (l1 : Int32) (l2 : Int32) : Option (Int32 × Sg) := (if (f_X12_in (Int32.toInt64 l1) 0 999999) = 0 then b_X12_years_24 l1 l2 σ else (if (f_X12_in (Int32.toInt64 l2) 0 60) = 0 then b_X12_years_24 l1 l2 σ else b_X12_years_33 l1 l2 FU σ 0))
set_option maxRecDepth 100000 in
set_option maxHeartbeats 4000000 in
theorem q_X12_years_24 {g : Cx} (l1 : Int32) (l2 : Int32) (r : Int32) (τ : Sg) : ∀ σ : Sg, b_X12_years_24 l1 l2 σ = some (r, τ) → V g cX12_years RX12 wsX12_years 11 (some .int) rm_X12_years (some (.int r)) τ σ 24 [(0, .ref (g.1 112))] [] := by
  intro σ h
  unfold b_X12_years_24 at h
  refine v_aload_n 25 0 dX12_years_24 rfl rfl rfl ?_
  refine v_bipush 27 (-2) dX12_years_25 kc_b_m2 rfl ?_
  obtain ⟨x1, s2, h0, h⟩ := ob2 h
  refine v_cV 30 8 [.int (-2)] (rfl : kK 112 = 8) rfl (c_X12_bad (-2) _ _ h0) cl_X12_bad gX12_years_X12_bad rfl ⟨Nat.le_of_ble_eq_true rfl, Nat.le_of_ble_eq_true rfl⟩ rfl rfl (Nat.le_of_ble_eq_true rfl) dX12_years_27 rfl ?_
  exact v_iretS h rfl dX12_years_30
set_option maxRecDepth 100000 in
set_option maxHeartbeats 4000000 in
theorem q_X12_years_282 {g : Cx} (l1 : Int32) (l2 : Int32) (r : Int32) (τ : Sg) (c77 : Sg → Int32 → Int64 → Int32 → Int32 → Option (Int32 × Sg)) (c218 : Sg → Int32 → Int64 → Int32 → Int32 → Int32 → Option (Int32 × Sg)) (hc77 : ∀ σ : Sg, ∀ l3 : Int32, ∀ l4 : Int64, ∀ l6 : Int32, ∀ l7 : Int32, c77 σ l3 l4 l6 l7 = some (r, τ) → V g cX12_years RX12 wsX12_years 11 (some .int) rm_X12_years (some (.int r)) τ σ 77 [(0, .ref (g.1 112)), (2, .int l2), (3, .int l3), (4, .long l4), (6, .int l6), (7, .int l7)] []) (hc218 : ∀ σ : Sg, ∀ l3 : Int32, ∀ l4 : Int64, ∀ l6 : Int32, ∀ l7 : Int32, ∀ l10 : Int32, (l3 = 0 ∨ l3 = 1) → c218 σ l3 l4 l6 l7 l10 = some (r, τ) → V g cX12_years RX12 wsX12_years 11 (some .int) rm_X12_years (some (.int r)) τ σ 218 [(0, .ref (g.1 112)), (2, .int l2), (3, .int l3), (4, .long l4), (6, .int l6), (7, .int l7), (10, .int l10)] []) : ∀ σ : Sg, ∀ l3 : Int32, ∀ l4 : Int64, ∀ l6 : Int32, ∀ l7 : Int32, ∀ l10 : Int32, ∀ t0 : Int32, ∀ t1 : Int32, (l3 = 0 ∨ l3 = 1) → b_X12_years_282 l1 l2 c77 c218 σ l3 l4 l6 l7 l10 t0 t1 = some (r, τ) → V g cX12_years RX12 wsX12_years 11 (some .int) rm_X12_years (some (.int r)) τ σ 282 [(0, .ref (g.1 112)), (2, .int l2), (3, .int l3), (4, .long l4), (6, .int l6), (7, .int l7), (10, .int l10)] [.int t0, .int t1, .ref (g.1 121)] := by
  intro σ l3 l4 l6 l7 l10 t0 t1 hl3 h
  unfold b_X12_years_282 at h
  refine v_iast 283 h (rfl : kK 121 = 9) dX12_years_282 rfl (fun s9 h => ?_)
  refine v_iincN 286 6 h dX12_years_283 rfl kc_i_1 (by decide) rfl (fun _ => rfl) (fun x10 h => ?_)
  refine v_goto 218 dX12_years_286 (by decide) ?_
  refine v_sub [1, 2, 3, 4, 5, 6, 0] rfl ?_
  exact hc218 s9 l3 l4 l6 l7 x10 hl3 h
set_option maxRecDepth 100000 in
set_option maxHeartbeats 4000000 in
theorem q_X12_years_218 {g : Cx} (l1 : Int32) (l2 : Int32) (r : Int32) (τ : Sg) (c77 : Sg → Int32 → Int64 → Int32 → Int32 → Option (Int32 × Sg)) (hc77 : ∀ σ : Sg, ∀ l3 : Int32, ∀ l4 : Int64, ∀ l6 : Int32, ∀ l7 : Int32, c77 σ l3 l4 l6 l7 = some (r, τ) → V g cX12_years RX12 wsX12_years 11 (some .int) rm_X12_years (some (.int r)) τ σ 77 [(0, .ref (g.1 112)), (2, .int l2), (3, .int l3), (4, .long l4), (6, .int l6), (7, .int l7)] []) : ∀ f : Nat, ∀ σ : Sg, ∀ l3 : Int32, ∀ l4 : Int64, ∀ l6 : Int32, ∀ l7 : Int32, ∀ l10 : Int32, (l3 = 0 ∨ l3 = 1) → b_X12_years_218 l1 l2 c77 f σ l3 l4 l6 l7 l10 = some (r, τ) → V g cX12_years RX12 wsX12_years 11 (some .int) rm_X12_years (some (.int r)) τ σ 218 [(0, .ref (g.1 112)), (2, .int l2), (3, .int l3), (4, .long l4), (6, .int l6), (7, .int l7), (10, .int l10)] [] := by
  intro f
  induction f with
  | zero =>
    intro σ l3 l4 l6 l7 l10 hl3 h
    cases h
  | succ f ih =>
    intro σ l3 l4 l6 l7 l10 hl3 h
    rw [b_X12_years_218] at h
    refine v_iload 220 6 dX12_years_218 rfl rfl ?_
    refine v_aload_n 221 0 dX12_years_220 rfl rfl rfl ?_
    refine vg_8_0 224 (rfl : kK 112 = 8) in_X12_years_8 (mem_at 4 rfl) dX12_years_221 rfl ?_
    refine v_iconst 225 0 dX12_years_224 kc_i_0 rfl ?_
    refine v_iald 226 h (rfl : kK 113 = 9) dX12_years_225 rfl (fun h => ?_)
    refine v_icmp_ge 229 289 h dX12_years_226 rfl (by decide) (fun h => ?_) (fun h => ?_)
    · refine v_iincN 292 5 h dX12_years_289 rfl kc_i_1 (by decide) rfl (fun _ => rfl) (fun x8 h => ?_)
      refine v_goto 77 dX12_years_292 (by decide) ?_
      refine v_sub [1, 2, 3, 4, 5, 0] rfl ?_
      exact hc77 σ l3 l4 l6 x8 h
    · refine v_aload_n 230 0 dX12_years_229 rfl rfl rfl ?_
      refine vg_8_18 233 (rfl : kK 112 = 8) in_X12_years_8 (mem_at 3 rfl) dX12_years_230 rfl ?_
      refine v_iload 235 6 dX12_years_233 rfl rfl ?_
      refine v_aload_n 236 0 dX12_years_235 rfl rfl rfl ?_
      refine vg_8_18 239 (rfl : kK 112 = 8) in_X12_years_8 (mem_at 3 rfl) dX12_years_236 rfl ?_
      refine v_iload 241 6 dX12_years_239 rfl rfl ?_
      refine v_iald 242 h (rfl : kK 121 = 9) dX12_years_241 rfl (fun h => ?_)
      refine v_iconst 243 5 dX12_years_242 kc_i_5 rfl ?_
      refine v_icmp_le 246 258 h dX12_years_243 rfl (by decide) (fun h => ?_) (fun h => ?_)
      · refine v_aload_n 259 0 dX12_years_258 rfl rfl rfl ?_
        refine vg_8_18 262 (rfl : kK 112 = 8) in_X12_years_8 (mem_at 3 rfl) dX12_years_259 rfl ?_
        refine v_iload 264 6 dX12_years_262 rfl rfl ?_
        refine v_iald 265 h (rfl : kK 121 = 9) dX12_years_264 rfl (fun h => ?_)
        refine v_iconst 266 5 dX12_years_265 kc_i_5 rfl ?_
        refine v_icmp_ge 269 281 h dX12_years_266 rfl (by decide) (fun h => ?_) (fun h => ?_)
        · refine v_iconst 282 5 dX12_years_281 kc_i_5 rfl ?_
          refine v_sub [0, 1, 2, 3, 4, 5, 6] rfl ?_
          exact q_X12_years_282 l1 l2 r τ c77 (b_X12_years_218 l1 l2 c77 f) hc77 ih σ l3 l4 l6 l7 l10 5 l10 hl3 h
        · refine v_aload_n 270 0 dX12_years_269 rfl rfl rfl ?_
          refine vg_8_18 273 (rfl : kK 112 = 8) in_X12_years_8 (mem_at 3 rfl) dX12_years_270 rfl ?_
          refine v_iload 275 6 dX12_years_273 rfl rfl ?_
          refine v_iald 276 h (rfl : kK 121 = 9) dX12_years_275 rfl (fun h => ?_)
          refine v_iconst 277 1 dX12_years_276 kc_i_1 rfl ?_
          refine v_iadd 278 dX12_years_277 rfl ?_
          refine v_goto 282 dX12_years_278 (by decide) ?_
          refine v_sub [0, 1, 2, 3, 4, 5, 6] rfl ?_
          exact q_X12_years_282 l1 l2 r τ c77 (b_X12_years_218 l1 l2 c77 f) hc77 ih σ l3 l4 l6 l7 l10 ((rI σ 121 (ix l10)) + 1) l10 hl3 h
      · refine v_aload_n 247 0 dX12_years_246 rfl rfl rfl ?_
        refine vg_8_18 250 (rfl : kK 112 = 8) in_X12_years_8 (mem_at 3 rfl) dX12_years_247 rfl ?_
        refine v_iload 252 6 dX12_years_250 rfl rfl ?_
        refine v_iald 253 h (rfl : kK 121 = 9) dX12_years_252 rfl (fun h => ?_)
        refine v_iconst 254 1 dX12_years_253 kc_i_1 rfl ?_
        refine v_isub 255 dX12_years_254 rfl ?_
        refine v_goto 282 dX12_years_255 (by decide) ?_
        refine v_sub [0, 1, 2, 3, 4, 5, 6] rfl ?_
        exact q_X12_years_282 l1 l2 r τ c77 (b_X12_years_218 l1 l2 c77 f) hc77 ih σ l3 l4 l6 l7 l10 ((rI σ 121 (ix l10)) - 1) l10 hl3 h
set_option maxRecDepth 100000 in
set_option maxHeartbeats 4000000 in
theorem q_X12_years_213 {g : Cx} (l1 : Int32) (l2 : Int32) (r : Int32) (τ : Sg) (c77 : Sg → Int32 → Int64 → Int32 → Int32 → Option (Int32 × Sg)) (hc77 : ∀ σ : Sg, ∀ l3 : Int32, ∀ l4 : Int64, ∀ l6 : Int32, ∀ l7 : Int32, c77 σ l3 l4 l6 l7 = some (r, τ) → V g cX12_years RX12 wsX12_years 11 (some .int) rm_X12_years (some (.int r)) τ σ 77 [(0, .ref (g.1 112)), (2, .int l2), (3, .int l3), (4, .long l4), (6, .int l6), (7, .int l7)] []) : ∀ σ : Sg, ∀ l4 : Int64, ∀ l6 : Int32, ∀ l7 : Int32, b_X12_years_213 l1 l2 c77 σ l4 l6 l7 = some (r, τ) → V g cX12_years RX12 wsX12_years 11 (some .int) rm_X12_years (some (.int r)) τ σ 213 [(0, .ref (g.1 112)), (2, .int l2), (4, .long l4), (6, .int l6), (7, .int l7)] [] := by
  intro σ l4 l6 l7 h
  unfold b_X12_years_213 at h
  refine v_iconst 214 0 dX12_years_213 kc_i_0 rfl ?_
  refine v_istore_n 215 dX12_years_214 rfl (by decide) rfl rfl ?_
  refine v_iconst 216 0 dX12_years_215 kc_i_0 rfl ?_
  refine v_istore 218 dX12_years_216 (by decide) rfl rfl ?_
  refine v_sub [2, 3, 1, 4, 5, 6, 0] rfl ?_
  exact q_X12_years_218 l1 l2 r τ c77 hc77 FU σ 0 l4 l6 l7 0 (Or.inl rfl) h
set_option maxRecDepth 100000 in
set_option maxHeartbeats 4000000 in
theorem q_X12_years_210 {g : Cx} (l1 : Int32) (l2 : Int32) (r : Int32) (τ : Sg) (c77 : Sg → Int32 → Int64 → Int32 → Int32 → Option (Int32 × Sg)) (hc77 : ∀ σ : Sg, ∀ l3 : Int32, ∀ l4 : Int64, ∀ l6 : Int32, ∀ l7 : Int32, c77 σ l3 l4 l6 l7 = some (r, τ) → V g cX12_years RX12 wsX12_years 11 (some .int) rm_X12_years (some (.int r)) τ σ 77 [(0, .ref (g.1 112)), (2, .int l2), (3, .int l3), (4, .long l4), (6, .int l6), (7, .int l7)] []) : ∀ σ : Sg, ∀ l4 : Int64, ∀ l7 : Int32, ∀ t0 : Int32, ∀ t1 : Int32, (t0 = 0 ∨ t0 = 1) → b_X12_years_210 l1 l2 c77 σ l4 l7 t0 t1 = some (r, τ) → V g cX12_years RX12 wsX12_years 11 (some .int) rm_X12_years (some (.int r)) τ σ 210 [(0, .ref (g.1 112)), (2, .int l2), (4, .long l4), (7, .int l7)] [.int t0, .int t1] := by
  intro σ l4 l7 t0 t1 hz0 h
  unfold b_X12_years_210 at h
  refine v_iadd 211 dX12_years_210 rfl ?_
  refine v_istoreN 213 h dX12_years_211 (by decide) rfl (fun _ => rfl) (fun x13 h => ?_)
  refine v_sub [1, 2, 3, 0, 4] rfl ?_
  exact q_X12_years_213 l1 l2 r τ c77 hc77 σ l4 x13 l7 h
set_option maxRecDepth 100000 in
set_option maxHeartbeats 4000000 in
theorem q_X12_years_77 {g : Cx} (l1 : Int32) (l2 : Int32) (r : Int32) (τ : Sg) : ∀ f : Nat, ∀ σ : Sg, ∀ l3 : Int32, ∀ l4 : Int64, ∀ l6 : Int32, ∀ l7 : Int32, b_X12_years_77 l1 l2 f σ l3 l4 l6 l7 = some (r, τ) → V g cX12_years RX12 wsX12_years 11 (some .int) rm_X12_years (some (.int r)) τ σ 77 [(0, .ref (g.1 112)), (2, .int l2), (3, .int l3), (4, .long l4), (6, .int l6), (7, .int l7)] [] := by
  intro f
  induction f with
  | zero =>
    intro σ l3 l4 l6 l7 h
    cases h
  | succ f ih =>
    intro σ l3 l4 l6 l7 h
    rw [b_X12_years_77] at h
    refine v_iload 79 5 dX12_years_77 rfl rfl ?_
    refine v_iload_n 80 1 dX12_years_79 rfl rfl rfl ?_
    refine v_icmp_ge 83 295 h dX12_years_80 rfl (by decide) (fun h => ?_) (fun h => ?_)
    · refine v_iload 297 4 dX12_years_295 rfl rfl ?_
      exact v_iretS h rfl dX12_years_297
    · refine v_lload 85 3 dX12_years_83 rfl rfl ?_
      refine v_ldc2 88 1103515245 dX12_years_85 (mem_at 5 rfl) rfl ?_
      refine v_lmul 89 dX12_years_88 rfl ?_
      refine v_ldc2 92 12345 dX12_years_89 (mem_at 6 rfl) rfl ?_
      refine v_ladd 93 dX12_years_92 rfl ?_
      refine v_ldc2 96 2147483648 dX12_years_93 (mem_at 7 rfl) rfl ?_
      refine v_lrem 97 kc_nl_2147483648 dX12_years_96 rfl ?_
      refine v_lstoreN 99 h dX12_years_97 (by decide) rfl (fun _ => rfl) (fun x5 h => ?_)
      refine v_lload 101 0 dX12_years_99 rfl rfl ?_
      refine v_ldc2 104 65536 dX12_years_101 (mem_at 8 rfl) rfl ?_
      refine v_ldiv 105 kc_nl_65536 dX12_years_104 rfl ?_
      refine v_ldc2 108 7 dX12_years_105 (mem_at 9 rfl) rfl ?_
      refine v_lrem 109 kc_nl_7 dX12_years_108 rfl ?_
      refine v_l2i 110 dX12_years_109 rfl ?_
      refine v_istoreN 112 h dX12_years_110 (by decide) rfl (fun _ => rfl) (fun x6 h => ?_)
      refine v_lload 114 1 dX12_years_112 rfl rfl ?_
      refine v_ldc2 117 1048576 dX12_years_114 (mem_at 10 rfl) rfl ?_
      refine v_ldiv 118 kc_nl_1048576 dX12_years_117 rfl ?_
      refine v_ldc2 121 10 dX12_years_118 (mem_at 11 rfl) rfl ?_
      refine v_lrem 122 kc_nl_10 dX12_years_121 rfl ?_
      refine v_l2i 123 dX12_years_122 rfl ?_
      refine v_istoreN 125 h dX12_years_123 (by decide) rfl (fun _ => rfl) (fun x7 h => ?_)
      refine v_iload 127 1 dX12_years_125 rfl rfl ?_
      refine v_aload_n 128 3 dX12_years_127 rfl rfl rfl ?_
      refine vg_8_0 131 (rfl : kK 112 = 8) in_X12_years_8 (mem_at 4 rfl) dX12_years_128 rfl ?_
      refine v_iconst 132 0 dX12_years_131 kc_i_0 rfl ?_
      refine v_iald 133 h (rfl : kK 113 = 9) dX12_years_132 rfl (fun h => ?_)
      refine v_icmp_ge 136 213 h dX12_years_133 rfl (by decide) (fun h => ?_) (fun h => ?_)
      · refine v_sub [3, 4, 2, 6, 7] rfl ?_
        exact q_X12_years_213 l1 l2 r τ (b_X12_years_77 l1 l2 f) ih σ x5 l6 l7 h
      · refine v_iload_n 137 5 dX12_years_136 rfl rfl rfl ?_
        refine v_iload 139 1 dX12_years_137 rfl rfl ?_
        refine v_cS 142 [.int l3, .int x6] (c_X12_has l3 x6) cl_X12_has gX12_years_X12_has ⟨Nat.le_of_ble_eq_true rfl, Nat.le_of_ble_eq_true rfl⟩ rfl rfl (Nat.le_of_ble_eq_true rfl) dX12_years_139 rfl ?_
        refine v_if_ne 145 213 h dX12_years_142 rfl (by decide) (fun h => ?_) (fun h => ?_)
        · refine v_sub [3, 4, 2, 6, 7] rfl ?_
          exact q_X12_years_213 l1 l2 r τ (b_X12_years_77 l1 l2 f) ih σ x5 l6 l7 h
        · refine v_aload_n 146 3 dX12_years_145 rfl rfl rfl ?_
          refine vg_8_0 149 (rfl : kK 112 = 8) in_X12_years_8 (mem_at 4 rfl) dX12_years_146 rfl ?_
          refine v_iconst 150 4 dX12_years_149 kc_i_4 rfl ?_
          refine v_iload 152 1 dX12_years_150 rfl rfl ?_
          refine v_iadd 153 dX12_years_152 rfl ?_
          refine v_iald 154 h (rfl : kK 113 = 9) dX12_years_153 rfl (fun h => ?_)
          refine v_aload_n 155 3 dX12_years_154 rfl rfl rfl ?_
          refine vg_8_0 158 (rfl : kK 112 = 8) in_X12_years_8 (mem_at 4 rfl) dX12_years_155 rfl ?_
          refine v_iconst 159 2 dX12_years_158 kc_i_2 rfl ?_
          refine v_iald 160 h (rfl : kK 113 = 9) dX12_years_159 rfl (fun h => ?_)
          refine v_iload 162 7 dX12_years_160 rfl rfl ?_
          refine v_iadd 163 dX12_years_162 rfl ?_
          refine v_aload_n 164 3 dX12_years_163 rfl rfl rfl ?_
          refine vg_8_18 167 (rfl : kK 112 = 8) in_X12_years_8 (mem_at 3 rfl) dX12_years_164 rfl ?_
          refine v_iload 169 1 dX12_years_167 rfl rfl ?_
          refine v_iald 170 h (rfl : kK 121 = 9) dX12_years_169 rfl (fun h => ?_)
          refine v_iload 172 0 dX12_years_170 rfl rfl ?_
          refine v_cS 175 [.int (rI σ 113 (ix (4 + x6))), .int ((rI σ 113 (ix 2)) + l7), .int (rI σ 121 (ix x6)), .int x7] (c_X12_lends (rI σ 113 (ix (4 + x6))) ((rI σ 113 (ix 2)) + l7) (rI σ 121 (ix x6)) x7) cl_X12_lends gX12_years_X12_lends ⟨Nat.le_of_ble_eq_true rfl, Nat.le_of_ble_eq_true rfl⟩ rfl rfl (Nat.le_of_ble_eq_true rfl) dX12_years_172 rfl ?_
          refine v_istoreN 177 h dX12_years_175 (by decide) rfl (fun _ => rfl) (fun x11 h => ?_)
          refine v_aload_n 178 4 dX12_years_177 rfl rfl rfl ?_
          refine vg_8_18 181 (rfl : kK 112 = 8) in_X12_years_8 (mem_at 3 rfl) dX12_years_178 rfl ?_
          refine v_iload 183 2 dX12_years_181 rfl rfl ?_
          refine v_aload_n 184 4 dX12_years_183 rfl rfl rfl ?_
          refine vg_8_18 187 (rfl : kK 112 = 8) in_X12_years_8 (mem_at 3 rfl) dX12_years_184 rfl ?_
          refine v_iload 189 2 dX12_years_187 rfl rfl ?_
          refine v_iald 190 h (rfl : kK 121 = 9) dX12_years_189 rfl (fun h => ?_)
          refine v_iload 192 1 dX12_years_190 rfl rfl ?_
          refine v_iload 194 0 dX12_years_192 rfl rfl ?_
          refine v_cS 197 [.int (rI σ 121 (ix x6)), .int x7, .int x11] (c_X12_moodBehind (rI σ 121 (ix x6)) x7 x11) cl_X12_moodBehind gX12_years_X12_moodBehind ⟨Nat.le_of_ble_eq_true rfl, Nat.le_of_ble_eq_true rfl⟩ rfl rfl (Nat.le_of_ble_eq_true rfl) dX12_years_194 rfl ?_
          refine v_iast 198 h (rfl : kK 121 = 9) dX12_years_197 rfl (fun s12 h => ?_)
          refine v_iload 200 7 dX12_years_198 rfl rfl ?_
          refine v_iload 202 0 dX12_years_200 rfl rfl ?_
          refine v_if_eq 205 209 h dX12_years_202 rfl (by decide) (fun h => ?_) (fun h => ?_)
          · refine v_iconst 210 0 dX12_years_209 kc_i_0 rfl ?_
            refine v_sub [4, 5, 3, 8] rfl ?_
            exact q_X12_years_210 l1 l2 r τ (b_X12_years_77 l1 l2 f) ih s12 x5 l7 0 l6 (Or.inl rfl) h
          · refine v_iconst 206 1 dX12_years_205 kc_i_1 rfl ?_
            refine v_goto 210 dX12_years_206 (by decide) ?_
            refine v_sub [4, 5, 3, 8] rfl ?_
            exact q_X12_years_210 l1 l2 r τ (b_X12_years_77 l1 l2 f) ih s12 x5 l7 1 l6 (Or.inr rfl) h
set_option maxRecDepth 100000 in
set_option maxHeartbeats 4000000 in
theorem q_X12_years_33 {g : Cx} (l1 : Int32) (l2 : Int32) (r : Int32) (τ : Sg) : ∀ f : Nat, ∀ σ : Sg, ∀ l3 : Int32, b_X12_years_33 l1 l2 f σ l3 = some (r, τ) → V g cX12_years RX12 wsX12_years 11 (some .int) rm_X12_years (some (.int r)) τ σ 33 [(0, .ref (g.1 112)), (1, .int l1), (2, .int l2), (3, .int l3)] [] := by
  intro f
  induction f with
  | zero =>
    intro σ l3 h
    cases h
  | succ f ih =>
    intro σ l3 h
    rw [b_X12_years_33] at h
    refine v_iload_n 34 3 dX12_years_33 rfl rfl rfl ?_
    refine v_bipush 36 7 dX12_years_34 kc_b_7 rfl ?_
    refine v_icmp_ge 39 60 h dX12_years_36 rfl (by decide) (fun h => ?_) (fun h => ?_)
    · refine v_aload_n 61 0 dX12_years_60 rfl rfl rfl ?_
      refine vg_8_0 64 (rfl : kK 112 = 8) in_X12_years_8 (mem_at 4 rfl) dX12_years_61 rfl ?_
      refine v_iconst 65 3 dX12_years_64 kc_i_3 rfl ?_
      refine v_iald 66 h (rfl : kK 113 = 9) dX12_years_65 rfl (fun h => ?_)
      refine v_istoreN_n 67 h dX12_years_66 rfl (by decide) rfl (fun _ => rfl) (fun x3 h => ?_)
      refine v_iload_n 68 2 dX12_years_67 rfl rfl rfl ?_
      refine v_i2l 69 dX12_years_68 rfl ?_
      refine v_lstoreN 71 h dX12_years_69 (by decide) rfl (fun _ => rfl) (fun x4 h => ?_)
      refine v_iconst 72 0 dX12_years_71 kc_i_0 rfl ?_
      refine v_istore 74 dX12_years_72 (by decide) rfl rfl ?_
      refine v_iconst 75 0 dX12_years_74 kc_i_0 rfl ?_
      refine v_istore 77 dX12_years_75 (by decide) rfl rfl ?_
      refine v_sub [4, 6, 3, 2, 1, 0] rfl ?_
      exact q_X12_years_77 l1 l2 r τ FU σ x3 x4 0 0 h
    · refine v_aload_n 40 0 dX12_years_39 rfl rfl rfl ?_
      refine vg_8_18 43 (rfl : kK 112 = 8) in_X12_years_8 (mem_at 3 rfl) dX12_years_40 rfl ?_
      refine v_iload_n 44 3 dX12_years_43 rfl rfl rfl ?_
      refine v_aload_n 45 0 dX12_years_44 rfl rfl rfl ?_
      refine vg_8_0 48 (rfl : kK 112 = 8) in_X12_years_8 (mem_at 4 rfl) dX12_years_45 rfl ?_
      refine v_bipush 50 32 dX12_years_48 kc_b_32 rfl ?_
      refine v_iload_n 51 3 dX12_years_50 rfl rfl rfl ?_
      refine v_iadd 52 dX12_years_51 rfl ?_
      refine v_iald 53 h (rfl : kK 113 = 9) dX12_years_52 rfl (fun h => ?_)
      refine v_iast 54 h (rfl : kK 121 = 9) dX12_years_53 rfl (fun s14 h => ?_)
      refine v_iincN 57 3 h dX12_years_54 rfl kc_i_1 (by decide) rfl (fun _ => rfl) (fun x15 h => ?_)
      refine v_goto 33 dX12_years_57 (by decide) ?_
      refine v_sub [1, 2, 3, 0] rfl ?_
      exact ih s14 x15 h
set_option maxRecDepth 100000 in
set_option maxHeartbeats 4000000 in
theorem c_X12_years {g : Cx} {σ : Sg} (l1 : Int32) (l2 : Int32) (r : Int32) (τ : Sg) (h : f_X12_years σ l1 l2 = some (r, τ)) : ∀ l, MetF l yX12_years wsX12_years rm_X12_years g [.ref (g.1 112), .int l1, .int l2] σ (some (.int r)) τ := by
  refine MetF.of (own0 := RX12) (lv0 := [(0, .ref (g.1 112)), (1, .int l1), (2, .int l2)]) rfl cl_X12_years (by decide) (Nat.le_of_ble_eq_true rfl) rfl ?_
  unfold f_X12_years at h
  refine v_iload_n 1 1 dX12_years_0 rfl rfl rfl ?_
  refine v_i2l 2 dX12_years_1 rfl ?_
  refine v_lconst 3 0 dX12_years_2 kc_l_0 rfl ?_
  refine v_ldc2 6 999999 dX12_years_3 (mem_at 1 rfl) rfl ?_
  refine v_cS 9 [.long (Int32.toInt64 l1), .long 0, .long 999999] (c_X12_in (Int32.toInt64 l1) 0 999999) cl_X12_in gX12_years_X12_in ⟨Nat.le_of_ble_eq_true rfl, Nat.le_of_ble_eq_true rfl⟩ rfl rfl (Nat.le_of_ble_eq_true rfl) dX12_years_6 rfl ?_
  refine v_if_eq 12 24 h dX12_years_9 rfl (by decide) (fun h => ?_) (fun h => ?_)
  · refine v_sub [0] rfl ?_
    exact q_X12_years_24 l1 l2 r τ σ h
  · refine v_iload_n 13 2 dX12_years_12 rfl rfl rfl ?_
    refine v_i2l 14 dX12_years_13 rfl ?_
    refine v_lconst 15 0 dX12_years_14 kc_l_0 rfl ?_
    refine v_ldc2 18 60 dX12_years_15 (mem_at 2 rfl) rfl ?_
    refine v_cS 21 [.long (Int32.toInt64 l2), .long 0, .long 60] (c_X12_in (Int32.toInt64 l2) 0 60) cl_X12_in gX12_years_X12_in ⟨Nat.le_of_ble_eq_true rfl, Nat.le_of_ble_eq_true rfl⟩ rfl rfl (Nat.le_of_ble_eq_true rfl) dX12_years_18 rfl ?_
    refine v_if_ne 24 31 h dX12_years_21 rfl (by decide) (fun h => ?_) (fun h => ?_)
    · refine v_iconst 32 0 dX12_years_31 kc_i_0 rfl ?_
      refine v_istore_n 33 dX12_years_32 rfl (by decide) rfl rfl ?_
      refine v_sub [1, 2, 3, 0] rfl ?_
      exact q_X12_years_33 l1 l2 r τ FU σ 0 h
    · refine v_sub [0] rfl ?_
      exact q_X12_years_24 l1 l2 r τ σ h
