-- int keeperCount();
abbrev rm_X3_keeperCount : Room := { frames := 1, cells := 0, slots := 0, locals := 20 }
theorem cl_X3_keeperCount : Cl yX3_keeperCount wsX3_keeperCount cX3_keeperCount 1 (some .int) rm_X3_keeperCount 0 := ⟨⟨_, rfl⟩, rfl, rfl, by decide +kernel, by decide +kernel, by decide +kernel⟩
theorem in_X3_keeperCount_0 : ∀ w ∈ wsX30, w ∈ wsX3_keeperCount := fun w h => List.mem_cons_of_mem _ (List.mem_append_left _ (List.mem_append_right _ h))
def f_X3_keeperCount (σ : Sg) (k0 : Nat) : Int32 := f_X7_size σ (k0 + 1)
set_option maxRecDepth 100000 in
set_option maxHeartbeats 4000000 in
theorem c_X3_keeperCount {g : Cx} {σ : Sg} (k0 : Nat) (hk0 : kK k0 = 0) : ∀ l, MetF l yX3_keeperCount wsX3_keeperCount rm_X3_keeperCount g [.ref (g.1 k0)] σ (some (.int (f_X3_keeperCount σ k0))) σ := by
  have main : ∀ r : Int32, f_X3_keeperCount σ k0 = r → ∀ l, MetF l yX3_keeperCount wsX3_keeperCount rm_X3_keeperCount g [.ref (g.1 k0)] σ (some (.int r)) σ := by
    intro r h
    refine MetF.of (own0 := RX3) (lv0 := [(0, .ref (g.1 k0))]) rfl cl_X3_keeperCount (by decide) (Nat.le_of_ble_eq_true rfl) rfl ?_
    unfold f_X3_keeperCount at h
    refine v_aload_n 1 0 dX3_keeperCount_0 rfl rfl rfl ?_
    refine vg_0_0 4 (k0 + 1) hk0 in_X3_keeperCount_0 (mem_at 1 rfl) rfl dX3_keeperCount_1 rfl ?_
    refine v_cV 7 4 [] (kf_0_0 hk0) rfl (c_X7_size (k0 + 1) (kf_0_0 hk0)) cl_X7_size gX3_keeperCount_X7_size rfl ⟨Nat.le_of_ble_eq_true rfl, Nat.le_of_ble_eq_true rfl⟩ rfl rfl (Nat.le_of_ble_eq_true rfl) dX3_keeperCount_4 rfl ?_
    exact v_iretT h rfl dX3_keeperCount_7
  exact main _ rfl
-- void addKeeper(int, int, int);
abbrev rm_X3_addKeeper : Room := { frames := 1, cells := 0, slots := 0, locals := 21 }
theorem cl_X3_addKeeper : Cl yX3_addKeeper wsX3_addKeeper cX3_addKeeper 4 none rm_X3_addKeeper 3 := ⟨⟨_, rfl⟩, rfl, rfl, by decide +kernel, by decide +kernel, by decide +kernel⟩
theorem in_X3_addKeeper_0 : ∀ w ∈ wsX30, w ∈ wsX3_addKeeper := fun w h => List.mem_cons_of_mem _ (List.mem_append_left _ (List.mem_append_left _ (List.mem_append_right _ h)))
theorem in_X3_addKeeper_1 : ∀ w ∈ wsX40, w ∈ wsX3_addKeeper := fun w h => List.mem_cons_of_mem _ (List.mem_append_left _ (List.mem_append_right _ h))
def f_X3_addKeeper (σ : Sg) (k0 : Nat) (l1 : Int32) (l2 : Int32) (l3 : Int32) : Option Sg := (f_X7_add σ (k0 + 1) l1).bind fun s1 => (f_X7_add s1 (k0 + 3) l2).bind fun s2 => (f_X7_add s2 (k0 + 5) l3).bind fun s3 => (f_X7_add s3 (k0 + 17 + 1) l3).bind fun s4 => (f_X7_add s4 (k0 + 17 + 3) 5).bind fun s5 => (some s5)
set_option maxRecDepth 100000 in
set_option maxHeartbeats 4000000 in
theorem c_X3_addKeeper {g : Cx} {σ : Sg} (k0 : Nat) (l1 : Int32) (l2 : Int32) (l3 : Int32) (hk0 : kK k0 = 0) (τ : Sg) (h : f_X3_addKeeper σ k0 l1 l2 l3 = some τ) : ∀ l, MetF l yX3_addKeeper wsX3_addKeeper rm_X3_addKeeper g [.ref (g.1 k0), .int l1, .int l2, .int l3] σ none τ := by
  refine MetF.of (own0 := RX3) (lv0 := [(0, .ref (g.1 k0)), (1, .int l1), (2, .int l2), (3, .int l3)]) rfl cl_X3_addKeeper (by decide) (Nat.le_of_ble_eq_true rfl) rfl ?_
  unfold f_X3_addKeeper at h
  refine v_aload_n 1 0 dX3_addKeeper_0 rfl rfl rfl ?_
  refine vg_0_0 4 (k0 + 1) hk0 in_X3_addKeeper_0 (mem_at 1 rfl) rfl dX3_addKeeper_1 rfl ?_
  refine v_iload_n 5 1 dX3_addKeeper_4 rfl rfl rfl ?_
  obtain ⟨s1, h0, h⟩ := ob h
  refine v_cV 8 4 [.int l1] (kf_0_0 hk0) rfl (c_X7_add (k0 + 1) l1 (kf_0_0 hk0) _ h0) cl_X7_add gX3_addKeeper_X7_add rfl ⟨Nat.le_of_ble_eq_true rfl, Nat.le_of_ble_eq_true rfl⟩ rfl rfl (Nat.le_of_ble_eq_true rfl) dX3_addKeeper_5 rfl ?_
  refine v_aload_n 9 0 dX3_addKeeper_8 rfl rfl rfl ?_
  refine vg_0_1 12 (k0 + 3) hk0 in_X3_addKeeper_0 (mem_at 2 rfl) rfl dX3_addKeeper_9 rfl ?_
  refine v_iload_n 13 2 dX3_addKeeper_12 rfl rfl rfl ?_
  obtain ⟨s2, h0, h⟩ := ob h
  refine v_cV 16 4 [.int l2] (kf_0_1 hk0) rfl (c_X7_add (k0 + 3) l2 (kf_0_1 hk0) _ h0) cl_X7_add gX3_addKeeper_X7_add rfl ⟨Nat.le_of_ble_eq_true rfl, Nat.le_of_ble_eq_true rfl⟩ rfl rfl (Nat.le_of_ble_eq_true rfl) dX3_addKeeper_13 rfl ?_
  refine v_aload_n 17 0 dX3_addKeeper_16 rfl rfl rfl ?_
  refine vg_0_2 20 (k0 + 5) hk0 in_X3_addKeeper_0 (mem_at 3 rfl) rfl dX3_addKeeper_17 rfl ?_
  refine v_iload_n 21 3 dX3_addKeeper_20 rfl rfl rfl ?_
  obtain ⟨s3, h0, h⟩ := ob h
  refine v_cV 24 4 [.int l3] (kf_0_2 hk0) rfl (c_X7_add (k0 + 5) l3 (kf_0_2 hk0) _ h0) cl_X7_add gX3_addKeeper_X7_add rfl ⟨Nat.le_of_ble_eq_true rfl, Nat.le_of_ble_eq_true rfl⟩ rfl rfl (Nat.le_of_ble_eq_true rfl) dX3_addKeeper_21 rfl ?_
  refine v_aload_n 25 0 dX3_addKeeper_24 rfl rfl rfl ?_
  refine vg_0_8 28 (k0 + 17) hk0 in_X3_addKeeper_0 (mem_at 4 rfl) rfl dX3_addKeeper_25 rfl ?_
  refine vg_1_2 31 (k0 + 17 + 1) (kf_0_8 hk0) in_X3_addKeeper_1 (mem_at 5 rfl) rfl dX3_addKeeper_28 rfl ?_
  refine v_iload_n 32 3 dX3_addKeeper_31 rfl rfl rfl ?_
  obtain ⟨s4, h0, h⟩ := ob h
  refine v_cV 35 4 [.int l3] (kf_1_2 (kf_0_8 hk0)) rfl (c_X7_add (k0 + 17 + 1) l3 (kf_1_2 (kf_0_8 hk0)) _ h0) cl_X7_add gX3_addKeeper_X7_add rfl ⟨Nat.le_of_ble_eq_true rfl, Nat.le_of_ble_eq_true rfl⟩ rfl rfl (Nat.le_of_ble_eq_true rfl) dX3_addKeeper_32 rfl ?_
  refine v_aload_n 36 0 dX3_addKeeper_35 rfl rfl rfl ?_
  refine vg_0_8 39 (k0 + 17) hk0 in_X3_addKeeper_0 (mem_at 4 rfl) rfl dX3_addKeeper_36 rfl ?_
  refine vg_1_3 42 (k0 + 17 + 3) (kf_0_8 hk0) in_X3_addKeeper_1 (mem_at 6 rfl) rfl dX3_addKeeper_39 rfl ?_
  refine v_iconst 43 5 dX3_addKeeper_42 kc_i_5 rfl ?_
  obtain ⟨s5, h0, h⟩ := ob h
  refine v_cV 46 4 [.int 5] (kf_1_3 (kf_0_8 hk0)) rfl (c_X7_add (k0 + 17 + 3) 5 (kf_1_3 (kf_0_8 hk0)) _ h0) cl_X7_add gX3_addKeeper_X7_add rfl ⟨Nat.le_of_ble_eq_true rfl, Nat.le_of_ble_eq_true rfl⟩ rfl rfl (Nat.le_of_ble_eq_true rfl) dX3_addKeeper_43 rfl ?_
  exact v_vretS h rfl dX3_addKeeper_46
-- int allStones();
abbrev rm_X3_allStones : Room := { frames := 2, cells := 0, slots := 0, locals := 40 }
theorem cl_X3_allStones : Cl yX3_allStones wsX3_allStones cX3_allStones 1 (some .int) rm_X3_allStones 0 := ⟨⟨_, rfl⟩, rfl, rfl, by decide +kernel, by decide +kernel, by decide +kernel⟩
def f_X3_allStones (σ : Sg) (k0 : Nat) : Int32 := (1 <<< ((f_X3_keeperCount σ k0) &&& 31)) - 1
set_option maxRecDepth 100000 in
set_option maxHeartbeats 4000000 in
theorem c_X3_allStones {g : Cx} {σ : Sg} (k0 : Nat) (hk0 : kK k0 = 0) : ∀ l, MetF l yX3_allStones wsX3_allStones rm_X3_allStones g [.ref (g.1 k0)] σ (some (.int (f_X3_allStones σ k0))) σ := by
  have main : ∀ r : Int32, f_X3_allStones σ k0 = r → ∀ l, MetF l yX3_allStones wsX3_allStones rm_X3_allStones g [.ref (g.1 k0)] σ (some (.int r)) σ := by
    intro r h
    refine MetF.of (own0 := RX3) (lv0 := [(0, .ref (g.1 k0))]) rfl cl_X3_allStones (by decide) (Nat.le_of_ble_eq_true rfl) rfl ?_
    unfold f_X3_allStones at h
    refine v_iconst 1 1 dX3_allStones_0 kc_i_1 rfl ?_
    refine v_aload_n 2 0 dX3_allStones_1 rfl rfl rfl ?_
    refine v_cV 5 0 [] hk0 rfl (c_X3_keeperCount k0 hk0) cl_X3_keeperCount gX3_allStones_X3_keeperCount rfl ⟨Nat.le_of_ble_eq_true rfl, Nat.le_of_ble_eq_true rfl⟩ rfl rfl (Nat.le_of_ble_eq_true rfl) dX3_allStones_2 rfl ?_
    refine v_ishl 6 dX3_allStones_5 rfl ?_
    refine v_iconst 7 1 dX3_allStones_6 kc_i_1 rfl ?_
    refine v_isub 8 dX3_allStones_7 rfl ?_
    exact v_iretT h rfl dX3_allStones_8
  exact main _ rfl
-- boolean hasStones(int);
abbrev rm_X3_hasStones : Room := { frames := 3, cells := 0, slots := 0, locals := 60 }
theorem cl_X3_hasStones : Cl yX3_hasStones wsX3_hasStones cX3_hasStones 2 (some .boolean) rm_X3_hasStones 1 := ⟨⟨_, rfl⟩, rfl, rfl, by decide +kernel, by decide +kernel, by decide +kernel⟩
def f_X3_hasStones (σ : Sg) (k0 : Nat) (l1 : Int32) : Int32 := f_X11_between l1 0 (f_X3_allStones σ k0)
theorem zb_X3_hasStones {σ : Sg} {k0 : Nat} {l1 : Int32} : f_X3_hasStones σ k0 l1 = 0 ∨ f_X3_hasStones σ k0 l1 = 1 := by
  unfold f_X3_hasStones
  try simp only [nam]
  repeat' (first | exact Or.inl rfl | exact Or.inr rfl | split | exact zb_X11_between)
set_option maxRecDepth 100000 in
set_option maxHeartbeats 4000000 in
theorem c_X3_hasStones {g : Cx} {σ : Sg} (k0 : Nat) (l1 : Int32) (hk0 : kK k0 = 0) : ∀ l, MetF l yX3_hasStones wsX3_hasStones rm_X3_hasStones g [.ref (g.1 k0), .int l1] σ (some (.int (f_X3_hasStones σ k0 l1))) σ := by
  have main : ∀ r : Int32, f_X3_hasStones σ k0 l1 = r → ∀ l, MetF l yX3_hasStones wsX3_hasStones rm_X3_hasStones g [.ref (g.1 k0), .int l1] σ (some (.int r)) σ := by
    intro r h
    refine MetF.of (own0 := RX3) (lv0 := [(0, .ref (g.1 k0)), (1, .int l1)]) rfl cl_X3_hasStones (by decide) (Nat.le_of_ble_eq_true rfl) rfl ?_
    unfold f_X3_hasStones at h
    refine v_iload_n 1 1 dX3_hasStones_0 rfl rfl rfl ?_
    refine v_iconst 2 0 dX3_hasStones_1 kc_i_0 rfl ?_
    refine v_aload_n 3 0 dX3_hasStones_2 rfl rfl rfl ?_
    refine v_cV 6 0 [] hk0 rfl (c_X3_allStones k0 hk0) cl_X3_allStones gX3_hasStones_X3_allStones rfl ⟨Nat.le_of_ble_eq_true rfl, Nat.le_of_ble_eq_true rfl⟩ rfl rfl (Nat.le_of_ble_eq_true rfl) dX3_hasStones_3 rfl ?_
    refine v_cN 9 [.int l1, .int 0, .int (f_X3_allStones σ k0)] (c_X11_between l1 0 (f_X3_allStones σ k0)) cl_X11_between gX3_hasStones_X11_between_n66 nw_X3_66 (mem_at 17 rfl) (mem_at 18 rfl) ⟨Nat.le_of_ble_eq_true rfl, Nat.le_of_ble_eq_true rfl⟩ rfl rfl (Nat.le_of_ble_eq_true rfl) dX3_hasStones_6 rfl ?_
    exact v_zretT h rfl zb_X11_between dX3_hasStones_9
  exact main _ rfl
-- boolean canLay(int, int);
abbrev rm_X3_canLay : Room := { frames := 4, cells := 0, slots := 0, locals := 81 }
theorem cl_X3_canLay : Cl yX3_canLay wsX3_canLay cX3_canLay 3 (some .boolean) rm_X3_canLay 2 := ⟨⟨_, rfl⟩, rfl, rfl, by decide +kernel, by decide +kernel, by decide +kernel⟩
def f_X3_canLay (σ : Sg) (k0 : Nat) (l1 : Int32) (l2 : Int32) : Int32 := (if (f_X3_hasStones σ k0 l1) = 0 then 0 else (if (f_X3_hasStones σ k0 l2) = 0 then 0 else (if (l1 &&& l2) = 0 then 1 else 0)))
theorem zb_X3_canLay {σ : Sg} {k0 : Nat} {l1 : Int32} {l2 : Int32} : f_X3_canLay σ k0 l1 l2 = 0 ∨ f_X3_canLay σ k0 l1 l2 = 1 := by
  unfold f_X3_canLay
  try simp only [nam]
  repeat' (first | exact Or.inl rfl | exact Or.inr rfl | split | exact zb_X3_hasStones)
set_option maxRecDepth 100000 in
set_option maxHeartbeats 4000000 in
theorem c_X3_canLay {g : Cx} {σ : Sg} (k0 : Nat) (l1 : Int32) (l2 : Int32) (hk0 : kK k0 = 0) : ∀ l, MetF l yX3_canLay wsX3_canLay rm_X3_canLay g [.ref (g.1 k0), .int l1, .int l2] σ (some (.int (f_X3_canLay σ k0 l1 l2))) σ := by
  have main : ∀ r : Int32, f_X3_canLay σ k0 l1 l2 = r → ∀ l, MetF l yX3_canLay wsX3_canLay rm_X3_canLay g [.ref (g.1 k0), .int l1, .int l2] σ (some (.int r)) σ := by
    intro r h
    refine MetF.of (own0 := RX3) (lv0 := [(0, .ref (g.1 k0)), (1, .int l1), (2, .int l2)]) rfl cl_X3_canLay (by decide) (Nat.le_of_ble_eq_true rfl) rfl ?_
    unfold f_X3_canLay at h
    refine v_aload_n 1 0 dX3_canLay_0 rfl rfl rfl ?_
    refine v_iload_n 2 1 dX3_canLay_1 rfl rfl rfl ?_
    refine v_cV 5 0 [.int l1] hk0 rfl (c_X3_hasStones k0 l1 hk0) cl_X3_hasStones gX3_canLay_X3_hasStones rfl ⟨Nat.le_of_ble_eq_true rfl, Nat.le_of_ble_eq_true rfl⟩ rfl rfl (Nat.le_of_ble_eq_true rfl) dX3_canLay_2 rfl ?_
    refine v_if_eq 8 26 h dX3_canLay_5 rfl (by decide) (fun h => ?_) (fun h => ?_)
    · refine v_iconst 27 0 dX3_canLay_26 kc_i_0 rfl ?_
      exact v_zretT h rfl (Or.inl rfl) dX3_canLay_27
    · refine v_aload_n 9 0 dX3_canLay_8 rfl rfl rfl ?_
      refine v_iload_n 10 2 dX3_canLay_9 rfl rfl rfl ?_
      refine v_cV 13 0 [.int l2] hk0 rfl (c_X3_hasStones k0 l2 hk0) cl_X3_hasStones gX3_canLay_X3_hasStones rfl ⟨Nat.le_of_ble_eq_true rfl, Nat.le_of_ble_eq_true rfl⟩ rfl rfl (Nat.le_of_ble_eq_true rfl) dX3_canLay_10 rfl ?_
      refine v_if_eq 16 26 h dX3_canLay_13 rfl (by decide) (fun h => ?_) (fun h => ?_)
      · refine v_iconst 27 0 dX3_canLay_26 kc_i_0 rfl ?_
        exact v_zretT h rfl (Or.inl rfl) dX3_canLay_27
      · refine v_iload_n 17 1 dX3_canLay_16 rfl rfl rfl ?_
        refine v_iload_n 18 2 dX3_canLay_17 rfl rfl rfl ?_
        refine v_iand 19 dX3_canLay_18 rfl ?_
        refine v_if_ne 22 26 h dX3_canLay_19 rfl (by decide) (fun h => ?_) (fun h => ?_)
        · refine v_iconst 27 0 dX3_canLay_26 kc_i_0 rfl ?_
          exact v_zretT h rfl (Or.inl rfl) dX3_canLay_27
        · refine v_iconst 23 1 dX3_canLay_22 kc_i_1 rfl ?_
          refine v_goto 27 dX3_canLay_23 (by decide) ?_
          exact v_zretT h rfl (Or.inr rfl) dX3_canLay_27
  exact main _ rfl
-- boolean hasBalance(int);
abbrev rm_X3_hasBalance : Room := { frames := 1, cells := 0, slots := 0, locals := 22 }
theorem cl_X3_hasBalance : Cl yX3_hasBalance wsX3_hasBalance cX3_hasBalance 2 (some .boolean) rm_X3_hasBalance 1 := ⟨⟨_, rfl⟩, rfl, rfl, by decide +kernel, by decide +kernel, by decide +kernel⟩
theorem in_X3_hasBalance_0 : ∀ w ∈ wsX30, w ∈ wsX3_hasBalance := fun w h => List.mem_cons_of_mem _ (List.mem_append_left _ (List.mem_append_right _ h))
def f_X3_hasBalance (σ : Sg) (k0 : Nat) (l1 : Int32) : Int32 := f_X11_between l1 0 ((f_X7_size σ (k0 + 7)) - 1)
theorem zb_X3_hasBalance {σ : Sg} {k0 : Nat} {l1 : Int32} : f_X3_hasBalance σ k0 l1 = 0 ∨ f_X3_hasBalance σ k0 l1 = 1 := by
  unfold f_X3_hasBalance
  try simp only [nam]
  repeat' (first | exact Or.inl rfl | exact Or.inr rfl | split | exact zb_X11_between)
set_option maxRecDepth 100000 in
set_option maxHeartbeats 4000000 in
theorem c_X3_hasBalance {g : Cx} {σ : Sg} (k0 : Nat) (l1 : Int32) (hk0 : kK k0 = 0) : ∀ l, MetF l yX3_hasBalance wsX3_hasBalance rm_X3_hasBalance g [.ref (g.1 k0), .int l1] σ (some (.int (f_X3_hasBalance σ k0 l1))) σ := by
  have main : ∀ r : Int32, f_X3_hasBalance σ k0 l1 = r → ∀ l, MetF l yX3_hasBalance wsX3_hasBalance rm_X3_hasBalance g [.ref (g.1 k0), .int l1] σ (some (.int r)) σ := by
    intro r h
    refine MetF.of (own0 := RX3) (lv0 := [(0, .ref (g.1 k0)), (1, .int l1)]) rfl cl_X3_hasBalance (by decide) (Nat.le_of_ble_eq_true rfl) rfl ?_
    unfold f_X3_hasBalance at h
    refine v_iload_n 1 1 dX3_hasBalance_0 rfl rfl rfl ?_
    refine v_iconst 2 0 dX3_hasBalance_1 kc_i_0 rfl ?_
    refine v_aload_n 3 0 dX3_hasBalance_2 rfl rfl rfl ?_
    refine vg_0_3 6 (k0 + 7) hk0 in_X3_hasBalance_0 (mem_at 1 rfl) rfl dX3_hasBalance_3 rfl ?_
    refine v_cV 9 4 [] (kf_0_3 hk0) rfl (c_X7_size (k0 + 7) (kf_0_3 hk0)) cl_X7_size gX3_hasBalance_X7_size rfl ⟨Nat.le_of_ble_eq_true rfl, Nat.le_of_ble_eq_true rfl⟩ rfl rfl (Nat.le_of_ble_eq_true rfl) dX3_hasBalance_6 rfl ?_
    refine v_iconst 10 1 dX3_hasBalance_9 kc_i_1 rfl ?_
    refine v_isub 11 dX3_hasBalance_10 rfl ?_
    refine v_cN 14 [.int l1, .int 0, .int ((f_X7_size σ (k0 + 7)) - 1)] (c_X11_between l1 0 ((f_X7_size σ (k0 + 7)) - 1)) cl_X11_between gX3_hasBalance_X11_between_n66 nw_X3_66 (mem_at 8 rfl) (mem_at 9 rfl) ⟨Nat.le_of_ble_eq_true rfl, Nat.le_of_ble_eq_true rfl⟩ rfl rfl (Nat.le_of_ble_eq_true rfl) dX3_hasBalance_11 rfl ?_
    exact v_zretT h rfl zb_X11_between dX3_hasBalance_14
  exact main _ rfl
-- boolean hasKeeper(int);
abbrev rm_X3_hasKeeper : Room := { frames := 2, cells := 0, slots := 0, locals := 40 }
theorem cl_X3_hasKeeper : Cl yX3_hasKeeper wsX3_hasKeeper cX3_hasKeeper 2 (some .boolean) rm_X3_hasKeeper 1 := ⟨⟨_, rfl⟩, rfl, rfl, by decide +kernel, by decide +kernel, by decide +kernel⟩
def f_X3_hasKeeper (σ : Sg) (k0 : Nat) (l1 : Int32) : Int32 := f_X11_between l1 0 ((f_X3_keeperCount σ k0) - 1)
theorem zb_X3_hasKeeper {σ : Sg} {k0 : Nat} {l1 : Int32} : f_X3_hasKeeper σ k0 l1 = 0 ∨ f_X3_hasKeeper σ k0 l1 = 1 := by
  unfold f_X3_hasKeeper
  try simp only [nam]
  repeat' (first | exact Or.inl rfl | exact Or.inr rfl | split | exact zb_X11_between)
set_option maxRecDepth 100000 in
set_option maxHeartbeats 4000000 in
theorem c_X3_hasKeeper {g : Cx} {σ : Sg} (k0 : Nat) (l1 : Int32) (hk0 : kK k0 = 0) : ∀ l, MetF l yX3_hasKeeper wsX3_hasKeeper rm_X3_hasKeeper g [.ref (g.1 k0), .int l1] σ (some (.int (f_X3_hasKeeper σ k0 l1))) σ := by
  have main : ∀ r : Int32, f_X3_hasKeeper σ k0 l1 = r → ∀ l, MetF l yX3_hasKeeper wsX3_hasKeeper rm_X3_hasKeeper g [.ref (g.1 k0), .int l1] σ (some (.int r)) σ := by
    intro r h
    refine MetF.of (own0 := RX3) (lv0 := [(0, .ref (g.1 k0)), (1, .int l1)]) rfl cl_X3_hasKeeper (by decide) (Nat.le_of_ble_eq_true rfl) rfl ?_
    unfold f_X3_hasKeeper at h
    refine v_iload_n 1 1 dX3_hasKeeper_0 rfl rfl rfl ?_
    refine v_iconst 2 0 dX3_hasKeeper_1 kc_i_0 rfl ?_
    refine v_aload_n 3 0 dX3_hasKeeper_2 rfl rfl rfl ?_
    refine v_cV 6 0 [] hk0 rfl (c_X3_keeperCount k0 hk0) cl_X3_keeperCount gX3_hasKeeper_X3_keeperCount rfl ⟨Nat.le_of_ble_eq_true rfl, Nat.le_of_ble_eq_true rfl⟩ rfl rfl (Nat.le_of_ble_eq_true rfl) dX3_hasKeeper_3 rfl ?_
    refine v_iconst 7 1 dX3_hasKeeper_6 kc_i_1 rfl ?_
    refine v_isub 8 dX3_hasKeeper_7 rfl ?_
    refine v_cN 11 [.int l1, .int 0, .int ((f_X3_keeperCount σ k0) - 1)] (c_X11_between l1 0 ((f_X3_keeperCount σ k0) - 1)) cl_X11_between gX3_hasKeeper_X11_between_n66 nw_X3_66 (mem_at 13 rfl) (mem_at 14 rfl) ⟨Nat.le_of_ble_eq_true rfl, Nat.le_of_ble_eq_true rfl⟩ rfl rfl (Nat.le_of_ble_eq_true rfl) dX3_hasKeeper_8 rfl ?_
    exact v_zretT h rfl zb_X11_between dX3_hasKeeper_11
  exact main _ rfl
-- int noteCount();
abbrev rm_X3_noteCount : Room := { frames := 1, cells := 0, slots := 0, locals := 20 }
theorem cl_X3_noteCount : Cl yX3_noteCount wsX3_noteCount cX3_noteCount 1 (some .int) rm_X3_noteCount 0 := ⟨⟨_, rfl⟩, rfl, rfl, by decide +kernel, by decide +kernel, by decide +kernel⟩
theorem in_X3_noteCount_0 : ∀ w ∈ wsX30, w ∈ wsX3_noteCount := fun w h => List.mem_cons_of_mem _ (List.mem_append_left _ (List.mem_append_right _ h))
def f_X3_noteCount (σ : Sg) (k0 : Nat) : Int32 := (f_X7_size σ (k0 + 11)) / 4
set_option maxRecDepth 100000 in
set_option maxHeartbeats 4000000 in
theorem c_X3_noteCount {g : Cx} {σ : Sg} (k0 : Nat) (hk0 : kK k0 = 0) : ∀ l, MetF l yX3_noteCount wsX3_noteCount rm_X3_noteCount g [.ref (g.1 k0)] σ (some (.int (f_X3_noteCount σ k0))) σ := by
  have main : ∀ r : Int32, f_X3_noteCount σ k0 = r → ∀ l, MetF l yX3_noteCount wsX3_noteCount rm_X3_noteCount g [.ref (g.1 k0)] σ (some (.int r)) σ := by
    intro r h
    refine MetF.of (own0 := RX3) (lv0 := [(0, .ref (g.1 k0))]) rfl cl_X3_noteCount (by decide) (Nat.le_of_ble_eq_true rfl) rfl ?_
    unfold f_X3_noteCount at h
    refine v_aload_n 1 0 dX3_noteCount_0 rfl rfl rfl ?_
    refine vg_0_5 4 (k0 + 11) hk0 in_X3_noteCount_0 (mem_at 1 rfl) rfl dX3_noteCount_1 rfl ?_
    refine v_cV 7 4 [] (kf_0_5 hk0) rfl (c_X7_size (k0 + 11) (kf_0_5 hk0)) cl_X7_size gX3_noteCount_X7_size rfl ⟨Nat.le_of_ble_eq_true rfl, Nat.le_of_ble_eq_true rfl⟩ rfl rfl (Nat.le_of_ble_eq_true rfl) dX3_noteCount_4 rfl ?_
    refine v_iconst 8 4 dX3_noteCount_7 kc_i_4 rfl ?_
    refine v_idiv 9 kc_ne_4 dX3_noteCount_8 rfl ?_
    exact v_iretT h rfl dX3_noteCount_9
  exact main _ rfl
-- void passDay(WidowWeight$Row);
abbrev rm_X4_passDay : Room := { frames := 2, cells := 0, slots := 0, locals := 43 }
theorem cl_X4_passDay : Cl yX4_passDay wsX4_passDay cX4_passDay 3 none rm_X4_passDay 1 := ⟨⟨_, rfl⟩, rfl, rfl, by decide +kernel, by decide +kernel, by decide +kernel⟩
theorem in_X4_passDay_1 : ∀ w ∈ wsX40, w ∈ wsX4_passDay := fun w h => List.mem_cons_of_mem _ (List.mem_append_left _ (List.mem_append_right _ h))
def b_X4_passDay_2 (k0 : Nat) (k1 : Nat) : Nat → Sg → Int32 → Option Sg
  | 0, _, _ => none
  | f + 1, σ, l2 => (if (f_X7_size σ (k0 + 1)) ≤ l2 then nam (stI σ k0 1 0) fun s1 => nam (stI s1 k0 0 ((rI s1 k0 0) + 1)) fun s2 => (some s2) else (f_X7_at σ k1 l2).bind fun x3 => (f_X7_at σ (k0 + 1) l2).bind fun x4 => (f_X7_put σ (k0 + 1) l2 (f_X2_behind x3 x4 (rI σ k0 0))).bind fun s5 => (f_X7_at s5 (k0 + 3) l2).bind fun x6 => (f_X7_at s5 (k0 + 3) l2).bind fun x7 => (f_X7_put s5 (k0 + 3) l2 (x6 + (f_J6_compare_7cf53 5 x7))).bind fun s8 => nam (l2 + 1) fun x9 => b_X4_passDay_2 k0 k1 f s8 x9)
def f_X4_passDay (σ : Sg) (k0 : Nat) (k1 : Nat) : Option Sg := b_X4_passDay_2 k0 k1 FU σ 0
set_option maxRecDepth 100000 in
set_option maxHeartbeats 4000000 in
theorem q_X4_passDay_2 {g : Cx} (k0 : Nat) (k1 : Nat) (hk0 : kK k0 = 1) (hk1 : kK k1 = 4) (τ : Sg) : ∀ f : Nat, ∀ σ : Sg, ∀ l2 : Int32, b_X4_passDay_2 k0 k1 f σ l2 = some τ → V g cX4_passDay RX4 wsX4_passDay 3 none rm_X4_passDay none τ σ 2 [(0, .ref (g.1 k0)), (1, .ref (g.1 k1)), (2, .int l2)] [] := by
  intro f
  induction f with
  | zero =>
    intro σ l2 h
    cases h
  | succ f ih =>
    intro σ l2 h
    rw [b_X4_passDay_2] at h
    refine v_iload_n 3 2 dX4_passDay_2 rfl rfl rfl ?_
    refine v_aload_n 4 0 dX4_passDay_3 rfl rfl rfl ?_
    refine vg_1_2 7 (k0 + 1) hk0 in_X4_passDay_1 (mem_at 1 rfl) rfl dX4_passDay_4 rfl ?_
    refine v_cV 10 4 [] (kf_1_2 hk0) rfl (c_X7_size (k0 + 1) (kf_1_2 hk0)) cl_X7_size gX4_passDay_X7_size rfl ⟨Nat.le_of_ble_eq_true rfl, Nat.le_of_ble_eq_true rfl⟩ rfl rfl (Nat.le_of_ble_eq_true rfl) dX4_passDay_7 rfl ?_
    refine v_icmp_ge 13 76 h dX4_passDay_10 rfl (by decide) (fun h => ?_) (fun h => ?_)
    · refine v_aload_n 77 0 dX4_passDay_76 rfl rfl rfl ?_
      refine v_iconst 78 0 dX4_passDay_77 kc_i_0 rfl ?_
      refine vp_1_1 81 h hk0 in_X4_passDay_1 (mem_at 4 rfl) dX4_passDay_78 rfl (fun s1 h => ?_)
      refine v_aload_n 82 0 dX4_passDay_81 rfl rfl rfl ?_
      refine v_dup 83 dX4_passDay_82 rfl rfl ?_
      refine vg_1_0 86 hk0 in_X4_passDay_1 (mem_at 2 rfl) dX4_passDay_83 rfl ?_
      refine v_iconst 87 1 dX4_passDay_86 kc_i_1 rfl ?_
      refine v_iadd 88 dX4_passDay_87 rfl ?_
      refine vp_1_0 91 h hk0 in_X4_passDay_1 (mem_at 2 rfl) dX4_passDay_88 rfl (fun s2 h => ?_)
      exact v_vretS h rfl dX4_passDay_91
    · refine v_aload_n 14 0 dX4_passDay_13 rfl rfl rfl ?_
      refine vg_1_2 17 (k0 + 1) hk0 in_X4_passDay_1 (mem_at 1 rfl) rfl dX4_passDay_14 rfl ?_
      refine v_iload_n 18 2 dX4_passDay_17 rfl rfl rfl ?_
      refine v_aload_n 19 1 dX4_passDay_18 rfl rfl rfl ?_
      refine v_iload_n 20 2 dX4_passDay_19 rfl rfl rfl ?_
      obtain ⟨x3, h0, h⟩ := ob h
      refine v_cV 23 4 [.int l2] hk1 rfl (c_X7_at k1 l2 hk1 _ h0) cl_X7_at gX4_passDay_X7_at rfl ⟨Nat.le_of_ble_eq_true rfl, Nat.le_of_ble_eq_true rfl⟩ rfl rfl (Nat.le_of_ble_eq_true rfl) dX4_passDay_20 rfl ?_
      refine v_aload_n 24 0 dX4_passDay_23 rfl rfl rfl ?_
      refine vg_1_2 27 (k0 + 1) hk0 in_X4_passDay_1 (mem_at 1 rfl) rfl dX4_passDay_24 rfl ?_
      refine v_iload_n 28 2 dX4_passDay_27 rfl rfl rfl ?_
      obtain ⟨x4, h0, h⟩ := ob h
      refine v_cV 31 4 [.int l2] (kf_1_2 hk0) rfl (c_X7_at (k0 + 1) l2 (kf_1_2 hk0) _ h0) cl_X7_at gX4_passDay_X7_at rfl ⟨Nat.le_of_ble_eq_true rfl, Nat.le_of_ble_eq_true rfl⟩ rfl rfl (Nat.le_of_ble_eq_true rfl) dX4_passDay_28 rfl ?_
      refine v_aload_n 32 0 dX4_passDay_31 rfl rfl rfl ?_
      refine vg_1_0 35 hk0 in_X4_passDay_1 (mem_at 2 rfl) dX4_passDay_32 rfl ?_
      refine v_cS 38 [.int x3, .int x4, .int (rI σ k0 0)] (c_X2_behind x3 x4 (rI σ k0 0)) cl_X2_behind gX4_passDay_X2_behind ⟨Nat.le_of_ble_eq_true rfl, Nat.le_of_ble_eq_true rfl⟩ rfl rfl (Nat.le_of_ble_eq_true rfl) dX4_passDay_35 rfl ?_
      obtain ⟨s5, h0, h⟩ := ob h
      refine v_cV 41 4 [.int l2, .int (f_X2_behind x3 x4 (rI σ k0 0))] (kf_1_2 hk0) rfl (c_X7_put (k0 + 1) l2 (f_X2_behind x3 x4 (rI σ k0 0)) (kf_1_2 hk0) _ h0) cl_X7_put gX4_passDay_X7_put rfl ⟨Nat.le_of_ble_eq_true rfl, Nat.le_of_ble_eq_true rfl⟩ rfl rfl (Nat.le_of_ble_eq_true rfl) dX4_passDay_38 rfl ?_
      refine v_aload_n 42 0 dX4_passDay_41 rfl rfl rfl ?_
      refine vg_1_3 45 (k0 + 3) hk0 in_X4_passDay_1 (mem_at 3 rfl) rfl dX4_passDay_42 rfl ?_
      refine v_iload_n 46 2 dX4_passDay_45 rfl rfl rfl ?_
      refine v_aload_n 47 0 dX4_passDay_46 rfl rfl rfl ?_
      refine vg_1_3 50 (k0 + 3) hk0 in_X4_passDay_1 (mem_at 3 rfl) rfl dX4_passDay_47 rfl ?_
      refine v_iload_n 51 2 dX4_passDay_50 rfl rfl rfl ?_
      obtain ⟨x6, h0, h⟩ := ob h
      refine v_cV 54 4 [.int l2] (kf_1_3 hk0) rfl (c_X7_at (k0 + 3) l2 (kf_1_3 hk0) _ h0) cl_X7_at gX4_passDay_X7_at rfl ⟨Nat.le_of_ble_eq_true rfl, Nat.le_of_ble_eq_true rfl⟩ rfl rfl (Nat.le_of_ble_eq_true rfl) dX4_passDay_51 rfl ?_
      refine v_iconst 55 5 dX4_passDay_54 kc_i_5 rfl ?_
      refine v_aload_n 56 0 dX4_passDay_55 rfl rfl rfl ?_
      refine vg_1_3 59 (k0 + 3) hk0 in_X4_passDay_1 (mem_at 3 rfl) rfl dX4_passDay_56 rfl ?_
      refine v_iload_n 60 2 dX4_passDay_59 rfl rfl rfl ?_
      obtain ⟨x7, h0, h⟩ := ob h
      refine v_cV 63 4 [.int l2] (kf_1_3 hk0) rfl (c_X7_at (k0 + 3) l2 (kf_1_3 hk0) _ h0) cl_X7_at gX4_passDay_X7_at rfl ⟨Nat.le_of_ble_eq_true rfl, Nat.le_of_ble_eq_true rfl⟩ rfl rfl (Nat.le_of_ble_eq_true rfl) dX4_passDay_60 rfl ?_
      refine v_cS 66 [.int 5, .int x7] (c_J6_compare_7cf53 5 x7) cl_J6_compare_7cf53 gX4_passDay_J6_compare_7cf53 ⟨Nat.le_of_ble_eq_true rfl, Nat.le_of_ble_eq_true rfl⟩ rfl rfl (Nat.le_of_ble_eq_true rfl) dX4_passDay_63 rfl ?_
      refine v_iadd 67 dX4_passDay_66 rfl ?_
      obtain ⟨s8, h0, h⟩ := ob h
      refine v_cV 70 4 [.int l2, .int (x6 + (f_J6_compare_7cf53 5 x7))] (kf_1_3 hk0) rfl (c_X7_put (k0 + 3) l2 (x6 + (f_J6_compare_7cf53 5 x7)) (kf_1_3 hk0) _ h0) cl_X7_put gX4_passDay_X7_put rfl ⟨Nat.le_of_ble_eq_true rfl, Nat.le_of_ble_eq_true rfl⟩ rfl rfl (Nat.le_of_ble_eq_true rfl) dX4_passDay_67 rfl ?_
      refine v_iincN 73 2 h dX4_passDay_70 rfl kc_i_1 (by decide) rfl (fun _ => rfl) (fun x9 h => ?_)
      refine v_goto 2 dX4_passDay_73 (by decide) ?_
      refine v_sub [1, 2, 0] rfl ?_
      exact ih s8 x9 h
set_option maxRecDepth 100000 in
set_option maxHeartbeats 4000000 in
theorem c_X4_passDay {g : Cx} {σ : Sg} (k0 : Nat) (k1 : Nat) (hk0 : kK k0 = 1) (hk1 : kK k1 = 4) (τ : Sg) (h : f_X4_passDay σ k0 k1 = some τ) : ∀ l, MetF l yX4_passDay wsX4_passDay rm_X4_passDay g [.ref (g.1 k0), .ref (g.1 k1)] σ none τ := by
  refine MetF.of (own0 := RX4) (lv0 := [(0, .ref (g.1 k0)), (1, .ref (g.1 k1))]) rfl cl_X4_passDay (by decide) (Nat.le_of_ble_eq_true rfl) rfl ?_
  unfold f_X4_passDay at h
  refine v_iconst 1 0 dX4_passDay_0 kc_i_0 rfl ?_
  refine v_istore_n 2 dX4_passDay_1 rfl (by decide) rfl rfl ?_
  refine v_sub [1, 2, 0] rfl ?_
  exact q_X4_passDay_2 k0 k1 hk0 hk1 τ FU σ 0 h
-- void passDays(int);
abbrev rm_X3_passDays : Room := { frames := 3, cells := 0, slots := 0, locals := 65 }
theorem cl_X3_passDays : Cl yX3_passDays wsX3_passDays cX3_passDays 3 none rm_X3_passDays 1 := ⟨⟨_, rfl⟩, rfl, rfl, by decide +kernel, by decide +kernel, by decide +kernel⟩
theorem in_X3_passDays_0 : ∀ w ∈ wsX30, w ∈ wsX3_passDays := fun w h => List.mem_cons_of_mem _ (List.mem_append_left _ (List.mem_append_left _ (List.mem_append_right _ h)))
theorem in_X3_passDays_1 : ∀ w ∈ wsX40, w ∈ wsX3_passDays := fun w h => List.mem_cons_of_mem _ (List.mem_append_left _ (List.mem_append_right _ h))
def b_X3_passDays_2 (k0 : Nat) (l1 : Int32) : Nat → Sg → Int32 → Option Sg
  | 0, _, _ => none
  | f + 1, σ, l2 => (if l1 ≤ l2 then (some σ) else (if 9999 ≤ (rI σ (k0 + 17) 0) then (some σ) else (f_X4_passDay σ (k0 + 17) (k0 + 1)).bind fun s1 => nam (l2 + 1) fun x2 => b_X3_passDays_2 k0 l1 f s1 x2))
def f_X3_passDays (σ : Sg) (k0 : Nat) (l1 : Int32) : Option Sg := b_X3_passDays_2 k0 l1 FU σ 0
set_option maxRecDepth 100000 in
set_option maxHeartbeats 4000000 in
theorem q_X3_passDays_2 {g : Cx} (k0 : Nat) (l1 : Int32) (hk0 : kK k0 = 0) (τ : Sg) : ∀ f : Nat, ∀ σ : Sg, ∀ l2 : Int32, b_X3_passDays_2 k0 l1 f σ l2 = some τ → V g cX3_passDays RX3 wsX3_passDays 3 none rm_X3_passDays none τ σ 2 [(0, .ref (g.1 k0)), (1, .int l1), (2, .int l2)] [] := by
  intro f
  induction f with
  | zero =>
    intro σ l2 h
    cases h
  | succ f ih =>
    intro σ l2 h
    rw [b_X3_passDays_2] at h
    refine v_iload_n 3 2 dX3_passDays_2 rfl rfl rfl ?_
    refine v_iload_n 4 1 dX3_passDays_3 rfl rfl rfl ?_
    refine v_icmp_ge 7 37 h dX3_passDays_4 rfl (by decide) (fun h => ?_) (fun h => ?_)
    · exact v_vretS h rfl dX3_passDays_37
    · refine v_aload_n 8 0 dX3_passDays_7 rfl rfl rfl ?_
      refine vg_0_8 11 (k0 + 17) hk0 in_X3_passDays_0 (mem_at 1 rfl) rfl dX3_passDays_8 rfl ?_
      refine vg_1_0 14 (kf_0_8 hk0) in_X3_passDays_1 (mem_at 2 rfl) dX3_passDays_11 rfl ?_
      refine v_sipush 17 9999 dX3_passDays_14 kc_s_9999 rfl ?_
      refine v_icmp_ge 20 37 h dX3_passDays_17 rfl (by decide) (fun h => ?_) (fun h => ?_)
      · exact v_vretS h rfl dX3_passDays_37
      · refine v_aload_n 21 0 dX3_passDays_20 rfl rfl rfl ?_
        refine vg_0_8 24 (k0 + 17) hk0 in_X3_passDays_0 (mem_at 1 rfl) rfl dX3_passDays_21 rfl ?_
        refine v_aload_n 25 0 dX3_passDays_24 rfl rfl rfl ?_
        refine vg_0_0 28 (k0 + 1) hk0 in_X3_passDays_0 (mem_at 3 rfl) rfl dX3_passDays_25 rfl ?_
        obtain ⟨s1, h0, h⟩ := ob h
        refine v_cV 31 1 [.ref (g.1 (k0 + 1))] (kf_0_8 hk0) rfl (c_X4_passDay (k0 + 17) (k0 + 1) (kf_0_8 hk0) (kf_0_0 hk0) _ h0) cl_X4_passDay gX3_passDays_X4_passDay rfl ⟨Nat.le_of_ble_eq_true rfl, Nat.le_of_ble_eq_true rfl⟩ rfl rfl (Nat.le_of_ble_eq_true rfl) dX3_passDays_28 rfl ?_
        refine v_iincN 34 2 h dX3_passDays_31 rfl kc_i_1 (by decide) rfl (fun _ => rfl) (fun x2 h => ?_)
        refine v_goto 2 dX3_passDays_34 (by decide) ?_
        refine v_sub [1, 2, 0] rfl ?_
        exact ih s1 x2 h
set_option maxRecDepth 100000 in
set_option maxHeartbeats 4000000 in
theorem c_X3_passDays {g : Cx} {σ : Sg} (k0 : Nat) (l1 : Int32) (hk0 : kK k0 = 0) (τ : Sg) (h : f_X3_passDays σ k0 l1 = some τ) : ∀ l, MetF l yX3_passDays wsX3_passDays rm_X3_passDays g [.ref (g.1 k0), .int l1] σ none τ := by
  refine MetF.of (own0 := RX3) (lv0 := [(0, .ref (g.1 k0)), (1, .int l1)]) rfl cl_X3_passDays (by decide) (Nat.le_of_ble_eq_true rfl) rfl ?_
  unfold f_X3_passDays at h
  refine v_iconst 1 0 dX3_passDays_0 kc_i_0 rfl ?_
  refine v_istore_n 2 dX3_passDays_1 rfl (by decide) rfl rfl ?_
  refine v_sub [1, 2, 0] rfl ?_
  exact q_X3_passDays_2 k0 l1 hk0 τ FU σ 0 h
-- int readingCount();
abbrev rm_X3_readingCount : Room := { frames := 1, cells := 0, slots := 0, locals := 20 }
theorem cl_X3_readingCount : Cl yX3_readingCount wsX3_readingCount cX3_readingCount 1 (some .int) rm_X3_readingCount 0 := ⟨⟨_, rfl⟩, rfl, rfl, by decide +kernel, by decide +kernel, by decide +kernel⟩
theorem in_X3_readingCount_0 : ∀ w ∈ wsX30, w ∈ wsX3_readingCount := fun w h => List.mem_cons_of_mem _ (List.mem_append_left _ (List.mem_append_right _ h))
def f_X3_readingCount (σ : Sg) (k0 : Nat) : Int32 := (f_X7_size σ (k0 + 9)) / 3
set_option maxRecDepth 100000 in
set_option maxHeartbeats 4000000 in
theorem c_X3_readingCount {g : Cx} {σ : Sg} (k0 : Nat) (hk0 : kK k0 = 0) : ∀ l, MetF l yX3_readingCount wsX3_readingCount rm_X3_readingCount g [.ref (g.1 k0)] σ (some (.int (f_X3_readingCount σ k0))) σ := by
  have main : ∀ r : Int32, f_X3_readingCount σ k0 = r → ∀ l, MetF l yX3_readingCount wsX3_readingCount rm_X3_readingCount g [.ref (g.1 k0)] σ (some (.int r)) σ := by
    intro r h
    refine MetF.of (own0 := RX3) (lv0 := [(0, .ref (g.1 k0))]) rfl cl_X3_readingCount (by decide) (Nat.le_of_ble_eq_true rfl) rfl ?_
    unfold f_X3_readingCount at h
    refine v_aload_n 1 0 dX3_readingCount_0 rfl rfl rfl ?_
    refine vg_0_4 4 (k0 + 9) hk0 in_X3_readingCount_0 (mem_at 1 rfl) rfl dX3_readingCount_1 rfl ?_
    refine v_cV 7 4 [] (kf_0_4 hk0) rfl (c_X7_size (k0 + 9) (kf_0_4 hk0)) cl_X7_size gX3_readingCount_X7_size rfl ⟨Nat.le_of_ble_eq_true rfl, Nat.le_of_ble_eq_true rfl⟩ rfl rfl (Nat.le_of_ble_eq_true rfl) dX3_readingCount_4 rfl ?_
    refine v_iconst 8 3 dX3_readingCount_7 kc_i_3 rfl ?_
    refine v_idiv 9 kc_ne_3 dX3_readingCount_8 rfl ?_
    exact v_iretT h rfl dX3_readingCount_9
  exact main _ rfl
-- void store(WidowWeight$Row);
abbrev rm_X4_store : Room := { frames := 1, cells := 0, slots := 0, locals := 21 }
theorem cl_X4_store : Cl yX4_store wsX4_store cX4_store 3 none rm_X4_store 1 := ⟨⟨_, rfl⟩, rfl, rfl, by decide +kernel, by decide +kernel, by decide +kernel⟩
theorem in_X4_store_1 : ∀ w ∈ wsX40, w ∈ wsX4_store := fun w h => List.mem_cons_of_mem _ (List.mem_append_left _ (List.mem_append_right _ h))
def b_X4_store_18 (k0 : Nat) (k1 : Nat) : Nat → Sg → Int32 → Option Sg
  | 0, _, _ => none
  | f + 1, σ, l2 => (if 7 ≤ l2 then (some σ) else (f_X7_at σ (k0 + 1) l2).bind fun x3 => (f_X7_add σ k1 x3).bind fun s4 => (f_X7_at s4 (k0 + 3) l2).bind fun x5 => (f_X7_add s4 k1 x5).bind fun s6 => nam (l2 + 1) fun x7 => b_X4_store_18 k0 k1 f s6 x7)
def f_X4_store (σ : Sg) (k0 : Nat) (k1 : Nat) : Option Sg := (f_X7_add σ k1 (rI σ k0 0)).bind fun s1 => (f_X7_add s1 k1 (rI s1 k0 1)).bind fun s2 => b_X4_store_18 k0 k1 FU s2 0
set_option maxRecDepth 100000 in
set_option maxHeartbeats 4000000 in
theorem q_X4_store_18 {g : Cx} (k0 : Nat) (k1 : Nat) (hk0 : kK k0 = 1) (hk1 : kK k1 = 4) (τ : Sg) : ∀ f : Nat, ∀ σ : Sg, ∀ l2 : Int32, b_X4_store_18 k0 k1 f σ l2 = some τ → V g cX4_store RX4 wsX4_store 3 none rm_X4_store none τ σ 18 [(0, .ref (g.1 k0)), (1, .ref (g.1 k1)), (2, .int l2)] [] := by
  intro f
  induction f with
  | zero =>
    intro σ l2 h
    cases h
  | succ f ih =>
    intro σ l2 h
    rw [b_X4_store_18] at h
    refine v_iload_n 19 2 dX4_store_18 rfl rfl rfl ?_
    refine v_bipush 21 7 dX4_store_19 kc_b_7 rfl ?_
    refine v_icmp_ge 24 54 h dX4_store_21 rfl (by decide) (fun h => ?_) (fun h => ?_)
    · exact v_vretS h rfl dX4_store_54
    · refine v_aload_n 25 1 dX4_store_24 rfl rfl rfl ?_
      refine v_aload_n 26 0 dX4_store_25 rfl rfl rfl ?_
      refine vg_1_2 29 (k0 + 1) hk0 in_X4_store_1 (mem_at 3 rfl) rfl dX4_store_26 rfl ?_
      refine v_iload_n 30 2 dX4_store_29 rfl rfl rfl ?_
      obtain ⟨x3, h0, h⟩ := ob h
      refine v_cV 33 4 [.int l2] (kf_1_2 hk0) rfl (c_X7_at (k0 + 1) l2 (kf_1_2 hk0) _ h0) cl_X7_at gX4_store_X7_at rfl ⟨Nat.le_of_ble_eq_true rfl, Nat.le_of_ble_eq_true rfl⟩ rfl rfl (Nat.le_of_ble_eq_true rfl) dX4_store_30 rfl ?_
      obtain ⟨s4, h0, h⟩ := ob h
      refine v_cV 36 4 [.int x3] hk1 rfl (c_X7_add k1 x3 hk1 _ h0) cl_X7_add gX4_store_X7_add rfl ⟨Nat.le_of_ble_eq_true rfl, Nat.le_of_ble_eq_true rfl⟩ rfl rfl (Nat.le_of_ble_eq_true rfl) dX4_store_33 rfl ?_
      refine v_aload_n 37 1 dX4_store_36 rfl rfl rfl ?_
      refine v_aload_n 38 0 dX4_store_37 rfl rfl rfl ?_
      refine vg_1_3 41 (k0 + 3) hk0 in_X4_store_1 (mem_at 4 rfl) rfl dX4_store_38 rfl ?_
      refine v_iload_n 42 2 dX4_store_41 rfl rfl rfl ?_
      obtain ⟨x5, h0, h⟩ := ob h
      refine v_cV 45 4 [.int l2] (kf_1_3 hk0) rfl (c_X7_at (k0 + 3) l2 (kf_1_3 hk0) _ h0) cl_X7_at gX4_store_X7_at rfl ⟨Nat.le_of_ble_eq_true rfl, Nat.le_of_ble_eq_true rfl⟩ rfl rfl (Nat.le_of_ble_eq_true rfl) dX4_store_42 rfl ?_
      obtain ⟨s6, h0, h⟩ := ob h
      refine v_cV 48 4 [.int x5] hk1 rfl (c_X7_add k1 x5 hk1 _ h0) cl_X7_add gX4_store_X7_add rfl ⟨Nat.le_of_ble_eq_true rfl, Nat.le_of_ble_eq_true rfl⟩ rfl rfl (Nat.le_of_ble_eq_true rfl) dX4_store_45 rfl ?_
      refine v_iincN 51 2 h dX4_store_48 rfl kc_i_1 (by decide) rfl (fun _ => rfl) (fun x7 h => ?_)
      refine v_goto 18 dX4_store_51 (by decide) ?_
      refine v_sub [1, 2, 0] rfl ?_
      exact ih s6 x7 h
set_option maxRecDepth 100000 in
set_option maxHeartbeats 4000000 in
theorem c_X4_store {g : Cx} {σ : Sg} (k0 : Nat) (k1 : Nat) (hk0 : kK k0 = 1) (hk1 : kK k1 = 4) (τ : Sg) (h : f_X4_store σ k0 k1 = some τ) : ∀ l, MetF l yX4_store wsX4_store rm_X4_store g [.ref (g.1 k0), .ref (g.1 k1)] σ none τ := by
  refine MetF.of (own0 := RX4) (lv0 := [(0, .ref (g.1 k0)), (1, .ref (g.1 k1))]) rfl cl_X4_store (by decide) (Nat.le_of_ble_eq_true rfl) rfl ?_
  unfold f_X4_store at h
  refine v_aload_n 1 1 dX4_store_0 rfl rfl rfl ?_
  refine v_aload_n 2 0 dX4_store_1 rfl rfl rfl ?_
  refine vg_1_0 5 hk0 in_X4_store_1 (mem_at 1 rfl) dX4_store_2 rfl ?_
  obtain ⟨s1, h0, h⟩ := ob h
  refine v_cV 8 4 [.int (rI σ k0 0)] hk1 rfl (c_X7_add k1 (rI σ k0 0) hk1 _ h0) cl_X7_add gX4_store_X7_add rfl ⟨Nat.le_of_ble_eq_true rfl, Nat.le_of_ble_eq_true rfl⟩ rfl rfl (Nat.le_of_ble_eq_true rfl) dX4_store_5 rfl ?_
  refine v_aload_n 9 1 dX4_store_8 rfl rfl rfl ?_
  refine v_aload_n 10 0 dX4_store_9 rfl rfl rfl ?_
  refine vg_1_1 13 hk0 in_X4_store_1 (mem_at 2 rfl) dX4_store_10 rfl ?_
  obtain ⟨s2, h0, h⟩ := ob h
  refine v_cV 16 4 [.int (rI s1 k0 1)] hk1 rfl (c_X7_add k1 (rI s1 k0 1) hk1 _ h0) cl_X7_add gX4_store_X7_add rfl ⟨Nat.le_of_ble_eq_true rfl, Nat.le_of_ble_eq_true rfl⟩ rfl rfl (Nat.le_of_ble_eq_true rfl) dX4_store_13 rfl ?_
  refine v_iconst 17 0 dX4_store_16 kc_i_0 rfl ?_
  refine v_istore_n 18 dX4_store_17 rfl (by decide) rfl rfl ?_
  refine v_sub [1, 2, 0] rfl ?_
  exact q_X4_store_18 k0 k1 hk0 hk1 τ FU s2 0 h
-- void remember();
abbrev rm_X3_remember : Room := { frames := 3, cells := 0, slots := 0, locals := 65 }
theorem cl_X3_remember : Cl yX3_remember wsX3_remember cX3_remember 1 none rm_X3_remember 0 := ⟨⟨_, rfl⟩, rfl, rfl, by decide +kernel, by decide +kernel, by decide +kernel⟩
theorem in_X3_remember_0 : ∀ w ∈ wsX30, w ∈ wsX3_remember := fun w h => List.mem_cons_of_mem _ (List.mem_append_left _ (List.mem_append_left _ (List.mem_append_right _ h)))
def b_X3_remember_19 (k0 : Nat) (σ : Sg) : Option Sg := (f_X4_store σ (k0 + 17) (k0 + 15)).bind fun s1 => (some s1)
def f_X3_remember (σ : Sg) (k0 : Nat) : Option Sg := (if (f_X7_isFull σ (k0 + 15)) = 0 then b_X3_remember_19 k0 σ else (f_X7_dropFirst σ (k0 + 15) 16).bind fun s2 => b_X3_remember_19 k0 s2)
set_option maxRecDepth 100000 in
set_option maxHeartbeats 4000000 in
theorem q_X3_remember_19 {g : Cx} (k0 : Nat) (hk0 : kK k0 = 0) (τ : Sg) : ∀ σ : Sg, b_X3_remember_19 k0 σ = some τ → V g cX3_remember RX3 wsX3_remember 1 none rm_X3_remember none τ σ 19 [(0, .ref (g.1 k0))] [] := by
  intro σ h
  unfold b_X3_remember_19 at h
  refine v_aload_n 20 0 dX3_remember_19 rfl rfl rfl ?_
  refine vg_0_8 23 (k0 + 17) hk0 in_X3_remember_0 (mem_at 2 rfl) rfl dX3_remember_20 rfl ?_
  refine v_aload_n 24 0 dX3_remember_23 rfl rfl rfl ?_
  refine vg_0_7 27 (k0 + 15) hk0 in_X3_remember_0 (mem_at 1 rfl) rfl dX3_remember_24 rfl ?_
  obtain ⟨s1, h0, h⟩ := ob h
  refine v_cV 30 1 [.ref (g.1 (k0 + 15))] (kf_0_8 hk0) rfl (c_X4_store (k0 + 17) (k0 + 15) (kf_0_8 hk0) (kf_0_7 hk0) _ h0) cl_X4_store gX3_remember_X4_store rfl ⟨Nat.le_of_ble_eq_true rfl, Nat.le_of_ble_eq_true rfl⟩ rfl rfl (Nat.le_of_ble_eq_true rfl) dX3_remember_27 rfl ?_
  exact v_vretS h rfl dX3_remember_30
set_option maxRecDepth 100000 in
set_option maxHeartbeats 4000000 in
theorem c_X3_remember {g : Cx} {σ : Sg} (k0 : Nat) (hk0 : kK k0 = 0) (τ : Sg) (h : f_X3_remember σ k0 = some τ) : ∀ l, MetF l yX3_remember wsX3_remember rm_X3_remember g [.ref (g.1 k0)] σ none τ := by
  refine MetF.of (own0 := RX3) (lv0 := [(0, .ref (g.1 k0))]) rfl cl_X3_remember (by decide) (Nat.le_of_ble_eq_true rfl) rfl ?_
  unfold f_X3_remember at h
  refine v_aload_n 1 0 dX3_remember_0 rfl rfl rfl ?_
  refine vg_0_7 4 (k0 + 15) hk0 in_X3_remember_0 (mem_at 1 rfl) rfl dX3_remember_1 rfl ?_
  refine v_cV 7 4 [] (kf_0_7 hk0) rfl (c_X7_isFull (k0 + 15) (kf_0_7 hk0)) cl_X7_isFull gX3_remember_X7_isFull rfl ⟨Nat.le_of_ble_eq_true rfl, Nat.le_of_ble_eq_true rfl⟩ rfl rfl (Nat.le_of_ble_eq_true rfl) dX3_remember_4 rfl ?_
  refine v_if_eq 10 19 h dX3_remember_7 rfl (by decide) (fun h => ?_) (fun h => ?_)
  · refine v_sub [0] rfl ?_
    exact q_X3_remember_19 k0 hk0 τ σ h
  · refine v_aload_n 11 0 dX3_remember_10 rfl rfl rfl ?_
    refine vg_0_7 14 (k0 + 15) hk0 in_X3_remember_0 (mem_at 1 rfl) rfl dX3_remember_11 rfl ?_
    refine v_bipush 16 16 dX3_remember_14 kc_b_16 rfl ?_
    obtain ⟨s2, h0, h⟩ := ob h
    refine v_cV 19 4 [.int 16] (kf_0_7 hk0) rfl (c_X7_dropFirst (k0 + 15) 16 (kf_0_7 hk0) _ h0) cl_X7_dropFirst gX3_remember_X7_dropFirst rfl ⟨Nat.le_of_ble_eq_true rfl, Nat.le_of_ble_eq_true rfl⟩ rfl rfl (Nat.le_of_ble_eq_true rfl) dX3_remember_16 rfl ?_
    refine v_sub [0] rfl ?_
    exact q_X3_remember_19 k0 hk0 τ s2 h
-- void restart();
abbrev rm_X4_restart : Room := { frames := 1, cells := 0, slots := 0, locals := 20 }
theorem cl_X4_restart : Cl yX4_restart wsX4_restart cX4_restart 1 none rm_X4_restart 0 := ⟨⟨_, rfl⟩, rfl, rfl, by decide +kernel, by decide +kernel, by decide +kernel⟩
theorem in_X4_restart_1 : ∀ w ∈ wsX40, w ∈ wsX4_restart := fun w h => List.mem_cons_of_mem _ (List.mem_append_left _ (List.mem_append_right _ h))
def f_X4_restart (σ : Sg) (k0 : Nat) : Option Sg := nam (stI σ k0 0 0) fun s1 => nam (stI s1 k0 1 0) fun s2 => (f_X7_restart s2 (k0 + 1)).bind fun s3 => (f_X7_restart s3 (k0 + 3)).bind fun s4 => (some s4)
set_option maxRecDepth 100000 in
set_option maxHeartbeats 4000000 in
theorem c_X4_restart {g : Cx} {σ : Sg} (k0 : Nat) (hk0 : kK k0 = 1) (τ : Sg) (h : f_X4_restart σ k0 = some τ) : ∀ l, MetF l yX4_restart wsX4_restart rm_X4_restart g [.ref (g.1 k0)] σ none τ := by
  refine MetF.of (own0 := RX4) (lv0 := [(0, .ref (g.1 k0))]) rfl cl_X4_restart (by decide) (Nat.le_of_ble_eq_true rfl) rfl ?_
  unfold f_X4_restart at h
  refine v_aload_n 1 0 dX4_restart_0 rfl rfl rfl ?_
  refine v_iconst 2 0 dX4_restart_1 kc_i_0 rfl ?_
  refine vp_1_0 5 h hk0 in_X4_restart_1 (mem_at 1 rfl) dX4_restart_2 rfl (fun s1 h => ?_)
  refine v_aload_n 6 0 dX4_restart_5 rfl rfl rfl ?_
  refine v_iconst 7 0 dX4_restart_6 kc_i_0 rfl ?_
  refine vp_1_1 10 h hk0 in_X4_restart_1 (mem_at 2 rfl) dX4_restart_7 rfl (fun s2 h => ?_)
  refine v_aload_n 11 0 dX4_restart_10 rfl rfl rfl ?_
  refine vg_1_2 14 (k0 + 1) hk0 in_X4_restart_1 (mem_at 3 rfl) rfl dX4_restart_11 rfl ?_
  obtain ⟨s3, h0, h⟩ := ob h
  refine v_cV 17 4 [] (kf_1_2 hk0) rfl (c_X7_restart (k0 + 1) (kf_1_2 hk0) _ h0) cl_X7_restart gX4_restart_X7_restart rfl ⟨Nat.le_of_ble_eq_true rfl, Nat.le_of_ble_eq_true rfl⟩ rfl rfl (Nat.le_of_ble_eq_true rfl) dX4_restart_14 rfl ?_
  refine v_aload_n 18 0 dX4_restart_17 rfl rfl rfl ?_
  refine vg_1_3 21 (k0 + 3) hk0 in_X4_restart_1 (mem_at 4 rfl) rfl dX4_restart_18 rfl ?_
  obtain ⟨s4, h0, h⟩ := ob h
  refine v_cV 24 4 [] (kf_1_3 hk0) rfl (c_X7_restart (k0 + 3) (kf_1_3 hk0) _ h0) cl_X7_restart gX4_restart_X7_restart rfl ⟨Nat.le_of_ble_eq_true rfl, Nat.le_of_ble_eq_true rfl⟩ rfl rfl (Nat.le_of_ble_eq_true rfl) dX4_restart_21 rfl ?_
  exact v_vretS h rfl dX4_restart_24
-- void restart();
abbrev rm_X3_restart : Room := { frames := 2, cells := 0, slots := 0, locals := 40 }
theorem cl_X3_restart : Cl yX3_restart wsX3_restart cX3_restart 1 none rm_X3_restart 0 := ⟨⟨_, rfl⟩, rfl, rfl, by decide +kernel, by decide +kernel, by decide +kernel⟩
theorem in_X3_restart_0 : ∀ w ∈ wsX30, w ∈ wsX3_restart := fun w h => List.mem_cons_of_mem _ (List.mem_append_left _ (List.mem_append_left _ (List.mem_append_right _ h)))
def f_X3_restart (σ : Sg) (k0 : Nat) : Option Sg := (f_X7_restart σ (k0 + 1)).bind fun s1 => (f_X7_restart s1 (k0 + 3)).bind fun s2 => (f_X7_restart s2 (k0 + 5)).bind fun s3 => (f_X7_restart s3 (k0 + 7)).bind fun s4 => (f_X7_restart s4 (k0 + 9)).bind fun s5 => (f_X7_restart s5 (k0 + 11)).bind fun s6 => (f_X7_restart s6 (k0 + 13)).bind fun s7 => (f_X7_restart s7 (k0 + 15)).bind fun s8 => (f_X4_restart s8 (k0 + 17)).bind fun s9 => (some s9)
set_option maxRecDepth 100000 in
set_option maxHeartbeats 4000000 in
theorem c_X3_restart {g : Cx} {σ : Sg} (k0 : Nat) (hk0 : kK k0 = 0) (τ : Sg) (h : f_X3_restart σ k0 = some τ) : ∀ l, MetF l yX3_restart wsX3_restart rm_X3_restart g [.ref (g.1 k0)] σ none τ := by
  refine MetF.of (own0 := RX3) (lv0 := [(0, .ref (g.1 k0))]) rfl cl_X3_restart (by decide) (Nat.le_of_ble_eq_true rfl) rfl ?_
  unfold f_X3_restart at h
  refine v_aload_n 1 0 dX3_restart_0 rfl rfl rfl ?_
  refine vg_0_0 4 (k0 + 1) hk0 in_X3_restart_0 (mem_at 1 rfl) rfl dX3_restart_1 rfl ?_
  obtain ⟨s1, h0, h⟩ := ob h
  refine v_cV 7 4 [] (kf_0_0 hk0) rfl (c_X7_restart (k0 + 1) (kf_0_0 hk0) _ h0) cl_X7_restart gX3_restart_X7_restart rfl ⟨Nat.le_of_ble_eq_true rfl, Nat.le_of_ble_eq_true rfl⟩ rfl rfl (Nat.le_of_ble_eq_true rfl) dX3_restart_4 rfl ?_
  refine v_aload_n 8 0 dX3_restart_7 rfl rfl rfl ?_
  refine vg_0_1 11 (k0 + 3) hk0 in_X3_restart_0 (mem_at 2 rfl) rfl dX3_restart_8 rfl ?_
  obtain ⟨s2, h0, h⟩ := ob h
  refine v_cV 14 4 [] (kf_0_1 hk0) rfl (c_X7_restart (k0 + 3) (kf_0_1 hk0) _ h0) cl_X7_restart gX3_restart_X7_restart rfl ⟨Nat.le_of_ble_eq_true rfl, Nat.le_of_ble_eq_true rfl⟩ rfl rfl (Nat.le_of_ble_eq_true rfl) dX3_restart_11 rfl ?_
  refine v_aload_n 15 0 dX3_restart_14 rfl rfl rfl ?_
  refine vg_0_2 18 (k0 + 5) hk0 in_X3_restart_0 (mem_at 3 rfl) rfl dX3_restart_15 rfl ?_
  obtain ⟨s3, h0, h⟩ := ob h
  refine v_cV 21 4 [] (kf_0_2 hk0) rfl (c_X7_restart (k0 + 5) (kf_0_2 hk0) _ h0) cl_X7_restart gX3_restart_X7_restart rfl ⟨Nat.le_of_ble_eq_true rfl, Nat.le_of_ble_eq_true rfl⟩ rfl rfl (Nat.le_of_ble_eq_true rfl) dX3_restart_18 rfl ?_
  refine v_aload_n 22 0 dX3_restart_21 rfl rfl rfl ?_
  refine vg_0_3 25 (k0 + 7) hk0 in_X3_restart_0 (mem_at 4 rfl) rfl dX3_restart_22 rfl ?_
  obtain ⟨s4, h0, h⟩ := ob h
  refine v_cV 28 4 [] (kf_0_3 hk0) rfl (c_X7_restart (k0 + 7) (kf_0_3 hk0) _ h0) cl_X7_restart gX3_restart_X7_restart rfl ⟨Nat.le_of_ble_eq_true rfl, Nat.le_of_ble_eq_true rfl⟩ rfl rfl (Nat.le_of_ble_eq_true rfl) dX3_restart_25 rfl ?_
  refine v_aload_n 29 0 dX3_restart_28 rfl rfl rfl ?_
  refine vg_0_4 32 (k0 + 9) hk0 in_X3_restart_0 (mem_at 5 rfl) rfl dX3_restart_29 rfl ?_
  obtain ⟨s5, h0, h⟩ := ob h
  refine v_cV 35 4 [] (kf_0_4 hk0) rfl (c_X7_restart (k0 + 9) (kf_0_4 hk0) _ h0) cl_X7_restart gX3_restart_X7_restart rfl ⟨Nat.le_of_ble_eq_true rfl, Nat.le_of_ble_eq_true rfl⟩ rfl rfl (Nat.le_of_ble_eq_true rfl) dX3_restart_32 rfl ?_
  refine v_aload_n 36 0 dX3_restart_35 rfl rfl rfl ?_
  refine vg_0_5 39 (k0 + 11) hk0 in_X3_restart_0 (mem_at 6 rfl) rfl dX3_restart_36 rfl ?_
  obtain ⟨s6, h0, h⟩ := ob h
  refine v_cV 42 4 [] (kf_0_5 hk0) rfl (c_X7_restart (k0 + 11) (kf_0_5 hk0) _ h0) cl_X7_restart gX3_restart_X7_restart rfl ⟨Nat.le_of_ble_eq_true rfl, Nat.le_of_ble_eq_true rfl⟩ rfl rfl (Nat.le_of_ble_eq_true rfl) dX3_restart_39 rfl ?_
  refine v_aload_n 43 0 dX3_restart_42 rfl rfl rfl ?_
  refine vg_0_6 46 (k0 + 13) hk0 in_X3_restart_0 (mem_at 7 rfl) rfl dX3_restart_43 rfl ?_
  obtain ⟨s7, h0, h⟩ := ob h
  refine v_cV 49 4 [] (kf_0_6 hk0) rfl (c_X7_restart (k0 + 13) (kf_0_6 hk0) _ h0) cl_X7_restart gX3_restart_X7_restart rfl ⟨Nat.le_of_ble_eq_true rfl, Nat.le_of_ble_eq_true rfl⟩ rfl rfl (Nat.le_of_ble_eq_true rfl) dX3_restart_46 rfl ?_
  refine v_aload_n 50 0 dX3_restart_49 rfl rfl rfl ?_
  refine vg_0_7 53 (k0 + 15) hk0 in_X3_restart_0 (mem_at 8 rfl) rfl dX3_restart_50 rfl ?_
  obtain ⟨s8, h0, h⟩ := ob h
  refine v_cV 56 4 [] (kf_0_7 hk0) rfl (c_X7_restart (k0 + 15) (kf_0_7 hk0) _ h0) cl_X7_restart gX3_restart_X7_restart rfl ⟨Nat.le_of_ble_eq_true rfl, Nat.le_of_ble_eq_true rfl⟩ rfl rfl (Nat.le_of_ble_eq_true rfl) dX3_restart_53 rfl ?_
  refine v_aload_n 57 0 dX3_restart_56 rfl rfl rfl ?_
  refine vg_0_8 60 (k0 + 17) hk0 in_X3_restart_0 (mem_at 9 rfl) rfl dX3_restart_57 rfl ?_
  obtain ⟨s9, h0, h⟩ := ob h
  refine v_cV 63 1 [] (kf_0_8 hk0) rfl (c_X4_restart (k0 + 17) (kf_0_8 hk0) _ h0) cl_X4_restart gX3_restart_X4_restart rfl ⟨Nat.le_of_ble_eq_true rfl, Nat.le_of_ble_eq_true rfl⟩ rfl rfl (Nat.le_of_ble_eq_true rfl) dX3_restart_60 rfl ?_
  exact v_vretS h rfl dX3_restart_63
-- void take(WidowWeight$Moment);
abbrev rm_X4_take : Room := { frames := 2, cells := 0, slots := 0, locals := 43 }
theorem cl_X4_take : Cl yX4_take wsX4_take cX4_take 2 none rm_X4_take 1 := ⟨⟨_, rfl⟩, rfl, rfl, by decide +kernel, by decide +kernel, by decide +kernel⟩
theorem in_X4_take_1 : ∀ w ∈ wsX40, w ∈ wsX4_take := fun w h => List.mem_cons_of_mem _ (List.mem_append_left _ (List.mem_append_right _ h))
def f_X4_take (σ : Sg) (k0 : Nat) (k1 : Nat) : Option Sg := nam (stI σ k0 0 (rI σ k1 0)) fun s1 => nam (stI s1 k0 1 (rI s1 k1 1)) fun s2 => (f_X7_take s2 (k0 + 1) (k1 + 1)).bind fun s3 => (f_X7_take s3 (k0 + 3) (k1 + 3)).bind fun s4 => (some s4)
set_option maxRecDepth 100000 in
set_option maxHeartbeats 4000000 in
theorem c_X4_take {g : Cx} {σ : Sg} (k0 : Nat) (k1 : Nat) (hk0 : kK k0 = 1) (hk1 : kK k1 = 1) (τ : Sg) (h : f_X4_take σ k0 k1 = some τ) : ∀ l, MetF l yX4_take wsX4_take rm_X4_take g [.ref (g.1 k0), .ref (g.1 k1)] σ none τ := by
  refine MetF.of (own0 := RX4) (lv0 := [(0, .ref (g.1 k0)), (1, .ref (g.1 k1))]) rfl cl_X4_take (by decide) (Nat.le_of_ble_eq_true rfl) rfl ?_
  unfold f_X4_take at h
  refine v_aload_n 1 0 dX4_take_0 rfl rfl rfl ?_
  refine v_aload_n 2 1 dX4_take_1 rfl rfl rfl ?_
  refine vg_1_0 5 hk1 in_X4_take_1 (mem_at 1 rfl) dX4_take_2 rfl ?_
  refine vp_1_0 8 h hk0 in_X4_take_1 (mem_at 1 rfl) dX4_take_5 rfl (fun s1 h => ?_)
  refine v_aload_n 9 0 dX4_take_8 rfl rfl rfl ?_
  refine v_aload_n 10 1 dX4_take_9 rfl rfl rfl ?_
  refine vg_1_1 13 hk1 in_X4_take_1 (mem_at 2 rfl) dX4_take_10 rfl ?_
  refine vp_1_1 16 h hk0 in_X4_take_1 (mem_at 2 rfl) dX4_take_13 rfl (fun s2 h => ?_)
  refine v_aload_n 17 0 dX4_take_16 rfl rfl rfl ?_
  refine vg_1_2 20 (k0 + 1) hk0 in_X4_take_1 (mem_at 3 rfl) rfl dX4_take_17 rfl ?_
  refine v_aload_n 21 1 dX4_take_20 rfl rfl rfl ?_
  refine vg_1_2 24 (k1 + 1) hk1 in_X4_take_1 (mem_at 3 rfl) rfl dX4_take_21 rfl ?_
  obtain ⟨s3, h0, h⟩ := ob h
  refine v_cV 27 4 [.ref (g.1 (k1 + 1))] (kf_1_2 hk0) rfl (c_X7_take (k0 + 1) (k1 + 1) (kf_1_2 hk0) (kf_1_2 hk1) _ h0) cl_X7_take gX4_take_X7_take rfl ⟨Nat.le_of_ble_eq_true rfl, Nat.le_of_ble_eq_true rfl⟩ rfl rfl (Nat.le_of_ble_eq_true rfl) dX4_take_24 rfl ?_
  refine v_aload_n 28 0 dX4_take_27 rfl rfl rfl ?_
  refine vg_1_3 31 (k0 + 3) hk0 in_X4_take_1 (mem_at 4 rfl) rfl dX4_take_28 rfl ?_
  refine v_aload_n 32 1 dX4_take_31 rfl rfl rfl ?_
  refine vg_1_3 35 (k1 + 3) hk1 in_X4_take_1 (mem_at 4 rfl) rfl dX4_take_32 rfl ?_
  obtain ⟨s4, h0, h⟩ := ob h
  refine v_cV 38 4 [.ref (g.1 (k1 + 3))] (kf_1_3 hk0) rfl (c_X7_take (k0 + 3) (k1 + 3) (kf_1_3 hk0) (kf_1_3 hk1) _ h0) cl_X7_take gX4_take_X7_take rfl ⟨Nat.le_of_ble_eq_true rfl, Nat.le_of_ble_eq_true rfl⟩ rfl rfl (Nat.le_of_ble_eq_true rfl) dX4_take_35 rfl ?_
  exact v_vretS h rfl dX4_take_38
-- void take(WidowWeight$Market);
abbrev rm_X3_take : Room := { frames := 3, cells := 0, slots := 0, locals := 64 }
theorem cl_X3_take : Cl yX3_take wsX3_take cX3_take 2 none rm_X3_take 1 := ⟨⟨_, rfl⟩, rfl, rfl, by decide +kernel, by decide +kernel, by decide +kernel⟩
theorem in_X3_take_0 : ∀ w ∈ wsX30, w ∈ wsX3_take := fun w h => List.mem_cons_of_mem _ (List.mem_append_left _ (List.mem_append_left _ (List.mem_append_right _ h)))
def f_X3_take (σ : Sg) (k0 : Nat) (k1 : Nat) : Option Sg := (f_X7_take σ (k0 + 1) (k1 + 1)).bind fun s1 => (f_X7_take s1 (k0 + 3) (k1 + 3)).bind fun s2 => (f_X7_take s2 (k0 + 5) (k1 + 5)).bind fun s3 => (f_X7_take s3 (k0 + 7) (k1 + 7)).bind fun s4 => (f_X7_take s4 (k0 + 9) (k1 + 9)).bind fun s5 => (f_X7_take s5 (k0 + 11) (k1 + 11)).bind fun s6 => (f_X7_take s6 (k0 + 13) (k1 + 13)).bind fun s7 => (f_X7_take s7 (k0 + 15) (k1 + 15)).bind fun s8 => (f_X4_take s8 (k0 + 17) (k1 + 17)).bind fun s9 => (some s9)
set_option maxRecDepth 100000 in
set_option maxHeartbeats 4000000 in
theorem c_X3_take {g : Cx} {σ : Sg} (k0 : Nat) (k1 : Nat) (hk0 : kK k0 = 0) (hk1 : kK k1 = 0) (τ : Sg) (h : f_X3_take σ k0 k1 = some τ) : ∀ l, MetF l yX3_take wsX3_take rm_X3_take g [.ref (g.1 k0), .ref (g.1 k1)] σ none τ := by
  refine MetF.of (own0 := RX3) (lv0 := [(0, .ref (g.1 k0)), (1, .ref (g.1 k1))]) rfl cl_X3_take (by decide) (Nat.le_of_ble_eq_true rfl) rfl ?_
  unfold f_X3_take at h
  refine v_aload_n 1 0 dX3_take_0 rfl rfl rfl ?_
  refine vg_0_0 4 (k0 + 1) hk0 in_X3_take_0 (mem_at 1 rfl) rfl dX3_take_1 rfl ?_
  refine v_aload_n 5 1 dX3_take_4 rfl rfl rfl ?_
  refine vg_0_0 8 (k1 + 1) hk1 in_X3_take_0 (mem_at 1 rfl) rfl dX3_take_5 rfl ?_
  obtain ⟨s1, h0, h⟩ := ob h
  refine v_cV 11 4 [.ref (g.1 (k1 + 1))] (kf_0_0 hk0) rfl (c_X7_take (k0 + 1) (k1 + 1) (kf_0_0 hk0) (kf_0_0 hk1) _ h0) cl_X7_take gX3_take_X7_take rfl ⟨Nat.le_of_ble_eq_true rfl, Nat.le_of_ble_eq_true rfl⟩ rfl rfl (Nat.le_of_ble_eq_true rfl) dX3_take_8 rfl ?_
  refine v_aload_n 12 0 dX3_take_11 rfl rfl rfl ?_
  refine vg_0_1 15 (k0 + 3) hk0 in_X3_take_0 (mem_at 2 rfl) rfl dX3_take_12 rfl ?_
  refine v_aload_n 16 1 dX3_take_15 rfl rfl rfl ?_
  refine vg_0_1 19 (k1 + 3) hk1 in_X3_take_0 (mem_at 2 rfl) rfl dX3_take_16 rfl ?_
  obtain ⟨s2, h0, h⟩ := ob h
  refine v_cV 22 4 [.ref (g.1 (k1 + 3))] (kf_0_1 hk0) rfl (c_X7_take (k0 + 3) (k1 + 3) (kf_0_1 hk0) (kf_0_1 hk1) _ h0) cl_X7_take gX3_take_X7_take rfl ⟨Nat.le_of_ble_eq_true rfl, Nat.le_of_ble_eq_true rfl⟩ rfl rfl (Nat.le_of_ble_eq_true rfl) dX3_take_19 rfl ?_
  refine v_aload_n 23 0 dX3_take_22 rfl rfl rfl ?_
  refine vg_0_2 26 (k0 + 5) hk0 in_X3_take_0 (mem_at 3 rfl) rfl dX3_take_23 rfl ?_
  refine v_aload_n 27 1 dX3_take_26 rfl rfl rfl ?_
  refine vg_0_2 30 (k1 + 5) hk1 in_X3_take_0 (mem_at 3 rfl) rfl dX3_take_27 rfl ?_
  obtain ⟨s3, h0, h⟩ := ob h
  refine v_cV 33 4 [.ref (g.1 (k1 + 5))] (kf_0_2 hk0) rfl (c_X7_take (k0 + 5) (k1 + 5) (kf_0_2 hk0) (kf_0_2 hk1) _ h0) cl_X7_take gX3_take_X7_take rfl ⟨Nat.le_of_ble_eq_true rfl, Nat.le_of_ble_eq_true rfl⟩ rfl rfl (Nat.le_of_ble_eq_true rfl) dX3_take_30 rfl ?_
  refine v_aload_n 34 0 dX3_take_33 rfl rfl rfl ?_
  refine vg_0_3 37 (k0 + 7) hk0 in_X3_take_0 (mem_at 4 rfl) rfl dX3_take_34 rfl ?_
  refine v_aload_n 38 1 dX3_take_37 rfl rfl rfl ?_
  refine vg_0_3 41 (k1 + 7) hk1 in_X3_take_0 (mem_at 4 rfl) rfl dX3_take_38 rfl ?_
  obtain ⟨s4, h0, h⟩ := ob h
  refine v_cV 44 4 [.ref (g.1 (k1 + 7))] (kf_0_3 hk0) rfl (c_X7_take (k0 + 7) (k1 + 7) (kf_0_3 hk0) (kf_0_3 hk1) _ h0) cl_X7_take gX3_take_X7_take rfl ⟨Nat.le_of_ble_eq_true rfl, Nat.le_of_ble_eq_true rfl⟩ rfl rfl (Nat.le_of_ble_eq_true rfl) dX3_take_41 rfl ?_
  refine v_aload_n 45 0 dX3_take_44 rfl rfl rfl ?_
  refine vg_0_4 48 (k0 + 9) hk0 in_X3_take_0 (mem_at 5 rfl) rfl dX3_take_45 rfl ?_
  refine v_aload_n 49 1 dX3_take_48 rfl rfl rfl ?_
  refine vg_0_4 52 (k1 + 9) hk1 in_X3_take_0 (mem_at 5 rfl) rfl dX3_take_49 rfl ?_
  obtain ⟨s5, h0, h⟩ := ob h
  refine v_cV 55 4 [.ref (g.1 (k1 + 9))] (kf_0_4 hk0) rfl (c_X7_take (k0 + 9) (k1 + 9) (kf_0_4 hk0) (kf_0_4 hk1) _ h0) cl_X7_take gX3_take_X7_take rfl ⟨Nat.le_of_ble_eq_true rfl, Nat.le_of_ble_eq_true rfl⟩ rfl rfl (Nat.le_of_ble_eq_true rfl) dX3_take_52 rfl ?_
  refine v_aload_n 56 0 dX3_take_55 rfl rfl rfl ?_
  refine vg_0_5 59 (k0 + 11) hk0 in_X3_take_0 (mem_at 6 rfl) rfl dX3_take_56 rfl ?_
  refine v_aload_n 60 1 dX3_take_59 rfl rfl rfl ?_
  refine vg_0_5 63 (k1 + 11) hk1 in_X3_take_0 (mem_at 6 rfl) rfl dX3_take_60 rfl ?_
  obtain ⟨s6, h0, h⟩ := ob h
  refine v_cV 66 4 [.ref (g.1 (k1 + 11))] (kf_0_5 hk0) rfl (c_X7_take (k0 + 11) (k1 + 11) (kf_0_5 hk0) (kf_0_5 hk1) _ h0) cl_X7_take gX3_take_X7_take rfl ⟨Nat.le_of_ble_eq_true rfl, Nat.le_of_ble_eq_true rfl⟩ rfl rfl (Nat.le_of_ble_eq_true rfl) dX3_take_63 rfl ?_
  refine v_aload_n 67 0 dX3_take_66 rfl rfl rfl ?_
  refine vg_0_6 70 (k0 + 13) hk0 in_X3_take_0 (mem_at 7 rfl) rfl dX3_take_67 rfl ?_
  refine v_aload_n 71 1 dX3_take_70 rfl rfl rfl ?_
  refine vg_0_6 74 (k1 + 13) hk1 in_X3_take_0 (mem_at 7 rfl) rfl dX3_take_71 rfl ?_
  obtain ⟨s7, h0, h⟩ := ob h
  refine v_cV 77 4 [.ref (g.1 (k1 + 13))] (kf_0_6 hk0) rfl (c_X7_take (k0 + 13) (k1 + 13) (kf_0_6 hk0) (kf_0_6 hk1) _ h0) cl_X7_take gX3_take_X7_take rfl ⟨Nat.le_of_ble_eq_true rfl, Nat.le_of_ble_eq_true rfl⟩ rfl rfl (Nat.le_of_ble_eq_true rfl) dX3_take_74 rfl ?_
  refine v_aload_n 78 0 dX3_take_77 rfl rfl rfl ?_
  refine vg_0_7 81 (k0 + 15) hk0 in_X3_take_0 (mem_at 8 rfl) rfl dX3_take_78 rfl ?_
  refine v_aload_n 82 1 dX3_take_81 rfl rfl rfl ?_
  refine vg_0_7 85 (k1 + 15) hk1 in_X3_take_0 (mem_at 8 rfl) rfl dX3_take_82 rfl ?_
  obtain ⟨s8, h0, h⟩ := ob h
  refine v_cV 88 4 [.ref (g.1 (k1 + 15))] (kf_0_7 hk0) rfl (c_X7_take (k0 + 15) (k1 + 15) (kf_0_7 hk0) (kf_0_7 hk1) _ h0) cl_X7_take gX3_take_X7_take rfl ⟨Nat.le_of_ble_eq_true rfl, Nat.le_of_ble_eq_true rfl⟩ rfl rfl (Nat.le_of_ble_eq_true rfl) dX3_take_85 rfl ?_
  refine v_aload_n 89 0 dX3_take_88 rfl rfl rfl ?_
  refine vg_0_8 92 (k0 + 17) hk0 in_X3_take_0 (mem_at 9 rfl) rfl dX3_take_89 rfl ?_
  refine v_aload_n 93 1 dX3_take_92 rfl rfl rfl ?_
  refine vg_0_8 96 (k1 + 17) hk1 in_X3_take_0 (mem_at 9 rfl) rfl dX3_take_93 rfl ?_
  obtain ⟨s9, h0, h⟩ := ob h
  refine v_cV 99 1 [.ref (g.1 (k1 + 17))] (kf_0_8 hk0) rfl (c_X4_take (k0 + 17) (k1 + 17) (kf_0_8 hk0) (kf_0_8 hk1) _ h0) cl_X4_take gX3_take_X4_take rfl ⟨Nat.le_of_ble_eq_true rfl, Nat.le_of_ble_eq_true rfl⟩ rfl rfl (Nat.le_of_ble_eq_true rfl) dX3_take_96 rfl ?_
  exact v_vretS h rfl dX3_take_99
-- int tippingCount();
abbrev rm_X3_tippingCount : Room := { frames := 1, cells := 0, slots := 0, locals := 20 }
theorem cl_X3_tippingCount : Cl yX3_tippingCount wsX3_tippingCount cX3_tippingCount 1 (some .int) rm_X3_tippingCount 0 := ⟨⟨_, rfl⟩, rfl, rfl, by decide +kernel, by decide +kernel, by decide +kernel⟩
theorem in_X3_tippingCount_0 : ∀ w ∈ wsX30, w ∈ wsX3_tippingCount := fun w h => List.mem_cons_of_mem _ (List.mem_append_left _ (List.mem_append_right _ h))
def f_X3_tippingCount (σ : Sg) (k0 : Nat) : Int32 := (f_X7_size σ (k0 + 13)) / 4
set_option maxRecDepth 100000 in
set_option maxHeartbeats 4000000 in
theorem c_X3_tippingCount {g : Cx} {σ : Sg} (k0 : Nat) (hk0 : kK k0 = 0) : ∀ l, MetF l yX3_tippingCount wsX3_tippingCount rm_X3_tippingCount g [.ref (g.1 k0)] σ (some (.int (f_X3_tippingCount σ k0))) σ := by
  have main : ∀ r : Int32, f_X3_tippingCount σ k0 = r → ∀ l, MetF l yX3_tippingCount wsX3_tippingCount rm_X3_tippingCount g [.ref (g.1 k0)] σ (some (.int r)) σ := by
    intro r h
    refine MetF.of (own0 := RX3) (lv0 := [(0, .ref (g.1 k0))]) rfl cl_X3_tippingCount (by decide) (Nat.le_of_ble_eq_true rfl) rfl ?_
    unfold f_X3_tippingCount at h
    refine v_aload_n 1 0 dX3_tippingCount_0 rfl rfl rfl ?_
    refine vg_0_6 4 (k0 + 13) hk0 in_X3_tippingCount_0 (mem_at 1 rfl) rfl dX3_tippingCount_1 rfl ?_
    refine v_cV 7 4 [] (kf_0_6 hk0) rfl (c_X7_size (k0 + 13) (kf_0_6 hk0)) cl_X7_size gX3_tippingCount_X7_size rfl ⟨Nat.le_of_ble_eq_true rfl, Nat.le_of_ble_eq_true rfl⟩ rfl rfl (Nat.le_of_ble_eq_true rfl) dX3_tippingCount_4 rfl ?_
    refine v_iconst 8 4 dX3_tippingCount_7 kc_i_4 rfl ?_
    refine v_idiv 9 kc_ne_4 dX3_tippingCount_8 rfl ?_
    exact v_iretT h rfl dX3_tippingCount_9
  exact main _ rfl
-- boolean isLent(int);
abbrev rm_X4_isLent : Room := { frames := 1, cells := 0, slots := 0, locals := 21 }
theorem cl_X4_isLent : Cl yX4_isLent wsX4_isLent cX4_isLent 2 (some .boolean) rm_X4_isLent 1 := ⟨⟨_, rfl⟩, rfl, rfl, by decide +kernel, by decide +kernel, by decide +kernel⟩
theorem in_X4_isLent_1 : ∀ w ∈ wsX40, w ∈ wsX4_isLent := fun w h => List.mem_cons_of_mem _ (List.mem_append_right _ h)
def f_X4_isLent (σ : Sg) (k0 : Nat) (l1 : Int32) : Int32 := f_X11_hasBit (rI σ k0 1) l1
theorem zb_X4_isLent {σ : Sg} {k0 : Nat} {l1 : Int32} : f_X4_isLent σ k0 l1 = 0 ∨ f_X4_isLent σ k0 l1 = 1 := by
  unfold f_X4_isLent
  try simp only [nam]
  repeat' (first | exact Or.inl rfl | exact Or.inr rfl | split | exact zb_X11_hasBit)
set_option maxRecDepth 100000 in
set_option maxHeartbeats 4000000 in
theorem c_X4_isLent {g : Cx} {σ : Sg} (k0 : Nat) (l1 : Int32) (hk0 : kK k0 = 1) : ∀ l, MetF l yX4_isLent wsX4_isLent rm_X4_isLent g [.ref (g.1 k0), .int l1] σ (some (.int (f_X4_isLent σ k0 l1))) σ := by
  have main : ∀ r : Int32, f_X4_isLent σ k0 l1 = r → ∀ l, MetF l yX4_isLent wsX4_isLent rm_X4_isLent g [.ref (g.1 k0), .int l1] σ (some (.int r)) σ := by
    intro r h
    refine MetF.of (own0 := RX4) (lv0 := [(0, .ref (g.1 k0)), (1, .int l1)]) rfl cl_X4_isLent (by decide) (Nat.le_of_ble_eq_true rfl) rfl ?_
    unfold f_X4_isLent at h
    refine v_aload_n 1 0 dX4_isLent_0 rfl rfl rfl ?_
    refine vg_1_1 4 hk0 in_X4_isLent_1 (mem_at 1 rfl) dX4_isLent_1 rfl ?_
    refine v_iload_n 5 1 dX4_isLent_4 rfl rfl rfl ?_
    refine v_cN 8 [.int (rI σ k0 1), .int l1] (c_X11_hasBit (rI σ k0 1) l1) cl_X11_hasBit gX4_isLent_X11_hasBit_n37 nw_X4_37 (mem_at 2 rfl) (mem_at 3 rfl) ⟨Nat.le_of_ble_eq_true rfl, Nat.le_of_ble_eq_true rfl⟩ rfl rfl (Nat.le_of_ble_eq_true rfl) dX4_isLent_5 rfl ?_
    exact v_zretT h rfl zb_X11_hasBit dX4_isLent_8
  exact main _ rfl
-- int toldOf(int, int);
abbrev rm_X3_toldOf : Room := { frames := 2, cells := 0, slots := 0, locals := 42 }
theorem cl_X3_toldOf : Cl yX3_toldOf wsX3_toldOf cX3_toldOf 3 (some .int) rm_X3_toldOf 2 := ⟨⟨_, rfl⟩, rfl, rfl, by decide +kernel, by decide +kernel, by decide +kernel⟩
theorem in_X3_toldOf_0 : ∀ w ∈ wsX30, w ∈ wsX3_toldOf := fun w h => List.mem_cons_of_mem _ (List.mem_append_left _ (List.mem_append_left _ (List.mem_append_right _ h)))
theorem in_X3_toldOf_1 : ∀ w ∈ wsX40, w ∈ wsX3_toldOf := fun w h => List.mem_cons_of_mem _ (List.mem_append_left _ (List.mem_append_right _ h))
def f_X3_toldOf (σ : Sg) (k0 : Nat) (l1 : Int32) (l2 : Int32) : Option Int32 := (if l2 = 0 then (f_X7_at σ (k0 + 1) l1).bind fun x1 => (some (x1)) else (if l2 = 1 then (f_X7_at σ (k0 + 3) l1).bind fun x2 => (some (x2)) else (if l2 = 2 then (f_X7_at σ (k0 + 17 + 1) l1).bind fun x3 => (some (x3)) else (if l2 = 3 then (f_X7_at σ (k0 + 5) l1).bind fun x4 => (some (x4)) else (if l2 = 4 then (f_X7_at σ (k0 + 17 + 3) l1).bind fun x5 => (some (x5)) else (if (f_X4_isLent σ (k0 + 17) l1) = 0 then (some (0)) else (some (1))))))))
set_option maxRecDepth 100000 in
set_option maxHeartbeats 4000000 in
theorem c_X3_toldOf {g : Cx} {σ : Sg} (k0 : Nat) (l1 : Int32) (l2 : Int32) (hk0 : kK k0 = 0) (r : Int32) (h : f_X3_toldOf σ k0 l1 l2 = some r) : ∀ l, MetF l yX3_toldOf wsX3_toldOf rm_X3_toldOf g [.ref (g.1 k0), .int l1, .int l2] σ (some (.int r)) σ := by
  refine MetF.of (own0 := RX3) (lv0 := [(0, .ref (g.1 k0)), (1, .int l1), (2, .int l2)]) rfl cl_X3_toldOf (by decide) (Nat.le_of_ble_eq_true rfl) rfl ?_
  unfold f_X3_toldOf at h
  refine v_iload_n 1 2 dX3_toldOf_0 rfl rfl rfl ?_
  refine v_ite h (fun q h => ?_) (fun q0 h => ?_)
  · refine v_tabInZ 36 0 dX3_toldOf_1 (ti_of q kc_ti_0) (by decide) (by decide) rfl (by decide) ?_
    refine v_aload_n 37 0 dX3_toldOf_36 rfl rfl rfl ?_
    refine vg_0_0 40 (k0 + 1) hk0 in_X3_toldOf_0 (mem_at 1 rfl) rfl dX3_toldOf_37 rfl ?_
    refine v_iload_n 41 1 dX3_toldOf_40 rfl rfl rfl ?_
    obtain ⟨x1, h0, h⟩ := ob h
    refine v_cV 44 4 [.int l1] (kf_0_0 hk0) rfl (c_X7_at (k0 + 1) l1 (kf_0_0 hk0) _ h0) cl_X7_at gX3_toldOf_X7_at rfl ⟨Nat.le_of_ble_eq_true rfl, Nat.le_of_ble_eq_true rfl⟩ rfl rfl (Nat.le_of_ble_eq_true rfl) dX3_toldOf_41 rfl ?_
    exact v_iretP h rfl dX3_toldOf_44
  refine v_ite h (fun q h => ?_) (fun q1 h => ?_)
  · refine v_tabInZ 45 1 dX3_toldOf_1 (ti_of q kc_ti_1) (by decide) (by decide) rfl (by decide) ?_
    refine v_aload_n 46 0 dX3_toldOf_45 rfl rfl rfl ?_
    refine vg_0_1 49 (k0 + 3) hk0 in_X3_toldOf_0 (mem_at 2 rfl) rfl dX3_toldOf_46 rfl ?_
    refine v_iload_n 50 1 dX3_toldOf_49 rfl rfl rfl ?_
    obtain ⟨x2, h0, h⟩ := ob h
    refine v_cV 53 4 [.int l1] (kf_0_1 hk0) rfl (c_X7_at (k0 + 3) l1 (kf_0_1 hk0) _ h0) cl_X7_at gX3_toldOf_X7_at rfl ⟨Nat.le_of_ble_eq_true rfl, Nat.le_of_ble_eq_true rfl⟩ rfl rfl (Nat.le_of_ble_eq_true rfl) dX3_toldOf_50 rfl ?_
    exact v_iretP h rfl dX3_toldOf_53
  refine v_ite h (fun q h => ?_) (fun q2 h => ?_)
  · refine v_tabInZ 54 2 dX3_toldOf_1 (ti_of q kc_ti_2) (by decide) (by decide) rfl (by decide) ?_
    refine v_aload_n 55 0 dX3_toldOf_54 rfl rfl rfl ?_
    refine vg_0_8 58 (k0 + 17) hk0 in_X3_toldOf_0 (mem_at 3 rfl) rfl dX3_toldOf_55 rfl ?_
    refine vg_1_2 61 (k0 + 17 + 1) (kf_0_8 hk0) in_X3_toldOf_1 (mem_at 4 rfl) rfl dX3_toldOf_58 rfl ?_
    refine v_iload_n 62 1 dX3_toldOf_61 rfl rfl rfl ?_
    obtain ⟨x3, h0, h⟩ := ob h
    refine v_cV 65 4 [.int l1] (kf_1_2 (kf_0_8 hk0)) rfl (c_X7_at (k0 + 17 + 1) l1 (kf_1_2 (kf_0_8 hk0)) _ h0) cl_X7_at gX3_toldOf_X7_at rfl ⟨Nat.le_of_ble_eq_true rfl, Nat.le_of_ble_eq_true rfl⟩ rfl rfl (Nat.le_of_ble_eq_true rfl) dX3_toldOf_62 rfl ?_
    exact v_iretP h rfl dX3_toldOf_65
  refine v_ite h (fun q h => ?_) (fun q3 h => ?_)
  · refine v_tabInZ 66 3 dX3_toldOf_1 (ti_of q kc_ti_3) (by decide) (by decide) rfl (by decide) ?_
    refine v_aload_n 67 0 dX3_toldOf_66 rfl rfl rfl ?_
    refine vg_0_2 70 (k0 + 5) hk0 in_X3_toldOf_0 (mem_at 5 rfl) rfl dX3_toldOf_67 rfl ?_
    refine v_iload_n 71 1 dX3_toldOf_70 rfl rfl rfl ?_
    obtain ⟨x4, h0, h⟩ := ob h
    refine v_cV 74 4 [.int l1] (kf_0_2 hk0) rfl (c_X7_at (k0 + 5) l1 (kf_0_2 hk0) _ h0) cl_X7_at gX3_toldOf_X7_at rfl ⟨Nat.le_of_ble_eq_true rfl, Nat.le_of_ble_eq_true rfl⟩ rfl rfl (Nat.le_of_ble_eq_true rfl) dX3_toldOf_71 rfl ?_
    exact v_iretP h rfl dX3_toldOf_74
  refine v_ite h (fun q h => ?_) (fun q4 h => ?_)
  · refine v_tabInZ 75 4 dX3_toldOf_1 (ti_of q kc_ti_4) (by decide) (by decide) rfl (by decide) ?_
    refine v_aload_n 76 0 dX3_toldOf_75 rfl rfl rfl ?_
    refine vg_0_8 79 (k0 + 17) hk0 in_X3_toldOf_0 (mem_at 3 rfl) rfl dX3_toldOf_76 rfl ?_
    refine vg_1_3 82 (k0 + 17 + 3) (kf_0_8 hk0) in_X3_toldOf_1 (mem_at 6 rfl) rfl dX3_toldOf_79 rfl ?_
    refine v_iload_n 83 1 dX3_toldOf_82 rfl rfl rfl ?_
    obtain ⟨x5, h0, h⟩ := ob h
    refine v_cV 86 4 [.int l1] (kf_1_3 (kf_0_8 hk0)) rfl (c_X7_at (k0 + 17 + 3) l1 (kf_1_3 (kf_0_8 hk0)) _ h0) cl_X7_at gX3_toldOf_X7_at rfl ⟨Nat.le_of_ble_eq_true rfl, Nat.le_of_ble_eq_true rfl⟩ rfl rfl (Nat.le_of_ble_eq_true rfl) dX3_toldOf_83 rfl ?_
    exact v_iretP h rfl dX3_toldOf_86
  have a0 := ne_lit q0 kc_ti_0
  have a1 := ne_lit q1 kc_ti_1
  have a2 := ne_lit q2 kc_ti_2
  have a3 := ne_lit q3 kc_ti_3
  have a4 := ne_lit q4 kc_ti_4
  refine v_tabOut 87 dX3_toldOf_1 (by omega) (by decide) ?_
  refine v_aload_n 88 0 dX3_toldOf_87 rfl rfl rfl ?_
  refine vg_0_8 91 (k0 + 17) hk0 in_X3_toldOf_0 (mem_at 3 rfl) rfl dX3_toldOf_88 rfl ?_
  refine v_iload_n 92 1 dX3_toldOf_91 rfl rfl rfl ?_
  refine v_cV 95 1 [.int l1] (kf_0_8 hk0) rfl (c_X4_isLent (k0 + 17) l1 (kf_0_8 hk0)) cl_X4_isLent gX3_toldOf_X4_isLent rfl ⟨Nat.le_of_ble_eq_true rfl, Nat.le_of_ble_eq_true rfl⟩ rfl rfl (Nat.le_of_ble_eq_true rfl) dX3_toldOf_92 rfl ?_
  refine v_if_eq 98 102 h dX3_toldOf_95 rfl (by decide) (fun h => ?_) (fun h => ?_)
  · refine v_iconst 103 0 dX3_toldOf_102 kc_i_0 rfl ?_
    exact v_iretP h rfl dX3_toldOf_103
  · refine v_iconst 99 1 dX3_toldOf_98 kc_i_1 rfl ?_
    refine v_goto 103 dX3_toldOf_99 (by decide) ?_
    exact v_iretP h rfl dX3_toldOf_103
-- int undoable();
abbrev rm_X3_undoable : Room := { frames := 1, cells := 0, slots := 0, locals := 20 }
theorem cl_X3_undoable : Cl yX3_undoable wsX3_undoable cX3_undoable 1 (some .int) rm_X3_undoable 0 := ⟨⟨_, rfl⟩, rfl, rfl, by decide +kernel, by decide +kernel, by decide +kernel⟩
theorem in_X3_undoable_0 : ∀ w ∈ wsX30, w ∈ wsX3_undoable := fun w h => List.mem_cons_of_mem _ (List.mem_append_left _ (List.mem_append_right _ h))
def f_X3_undoable (σ : Sg) (k0 : Nat) : Int32 := (f_X7_size σ (k0 + 15)) / 16
set_option maxRecDepth 100000 in
set_option maxHeartbeats 4000000 in
theorem c_X3_undoable {g : Cx} {σ : Sg} (k0 : Nat) (hk0 : kK k0 = 0) : ∀ l, MetF l yX3_undoable wsX3_undoable rm_X3_undoable g [.ref (g.1 k0)] σ (some (.int (f_X3_undoable σ k0))) σ := by
  have main : ∀ r : Int32, f_X3_undoable σ k0 = r → ∀ l, MetF l yX3_undoable wsX3_undoable rm_X3_undoable g [.ref (g.1 k0)] σ (some (.int r)) σ := by
    intro r h
    refine MetF.of (own0 := RX3) (lv0 := [(0, .ref (g.1 k0))]) rfl cl_X3_undoable (by decide) (Nat.le_of_ble_eq_true rfl) rfl ?_
    unfold f_X3_undoable at h
    refine v_aload_n 1 0 dX3_undoable_0 rfl rfl rfl ?_
    refine vg_0_7 4 (k0 + 15) hk0 in_X3_undoable_0 (mem_at 1 rfl) rfl dX3_undoable_1 rfl ?_
    refine v_cV 7 4 [] (kf_0_7 hk0) rfl (c_X7_size (k0 + 15) (kf_0_7 hk0)) cl_X7_size gX3_undoable_X7_size rfl ⟨Nat.le_of_ble_eq_true rfl, Nat.le_of_ble_eq_true rfl⟩ rfl rfl (Nat.le_of_ble_eq_true rfl) dX3_undoable_4 rfl ?_
    refine v_bipush 9 16 dX3_undoable_7 kc_b_16 rfl ?_
    refine v_idiv 10 kc_ne_16 dX3_undoable_9 rfl ?_
    exact v_iretT h rfl dX3_undoable_10
  exact main _ rfl
-- boolean wouldLend(int, int);
abbrev rm_X3_wouldLend : Room := { frames := 2, cells := 0, slots := 0, locals := 44 }
theorem cl_X3_wouldLend : Cl yX3_wouldLend wsX3_wouldLend cX3_wouldLend 3 (some .boolean) rm_X3_wouldLend 2 := ⟨⟨_, rfl⟩, rfl, rfl, by decide +kernel, by decide +kernel, by decide +kernel⟩
theorem in_X3_wouldLend_0 : ∀ w ∈ wsX30, w ∈ wsX3_wouldLend := fun w h => List.mem_cons_of_mem _ (List.mem_append_left _ (List.mem_append_left _ (List.mem_append_right _ h)))
theorem in_X3_wouldLend_1 : ∀ w ∈ wsX40, w ∈ wsX3_wouldLend := fun w h => List.mem_cons_of_mem _ (List.mem_append_left _ (List.mem_append_right _ h))
def f_X3_wouldLend (σ : Sg) (k0 : Nat) (l1 : Int32) (l2 : Int32) : Option Int32 := (f_X7_at σ (k0 + 1) l1).bind fun x1 => (f_X7_at σ (k0 + 17 + 3) l1).bind fun x2 => (some (f_X2_lends x1 (rI σ (k0 + 17) 0) x2 l2))
set_option maxRecDepth 100000 in
set_option maxHeartbeats 4000000 in
theorem c_X3_wouldLend {g : Cx} {σ : Sg} (k0 : Nat) (l1 : Int32) (l2 : Int32) (hk0 : kK k0 = 0) (r : Int32) (h : f_X3_wouldLend σ k0 l1 l2 = some r) : ∀ l, MetF l yX3_wouldLend wsX3_wouldLend rm_X3_wouldLend g [.ref (g.1 k0), .int l1, .int l2] σ (some (.int r)) σ := by
  refine MetF.of (own0 := RX3) (lv0 := [(0, .ref (g.1 k0)), (1, .int l1), (2, .int l2)]) rfl cl_X3_wouldLend (by decide) (Nat.le_of_ble_eq_true rfl) rfl ?_
  unfold f_X3_wouldLend at h
  refine v_aload_n 1 0 dX3_wouldLend_0 rfl rfl rfl ?_
  refine vg_0_0 4 (k0 + 1) hk0 in_X3_wouldLend_0 (mem_at 1 rfl) rfl dX3_wouldLend_1 rfl ?_
  refine v_iload_n 5 1 dX3_wouldLend_4 rfl rfl rfl ?_
  obtain ⟨x1, h0, h⟩ := ob h
  refine v_cV 8 4 [.int l1] (kf_0_0 hk0) rfl (c_X7_at (k0 + 1) l1 (kf_0_0 hk0) _ h0) cl_X7_at gX3_wouldLend_X7_at rfl ⟨Nat.le_of_ble_eq_true rfl, Nat.le_of_ble_eq_true rfl⟩ rfl rfl (Nat.le_of_ble_eq_true rfl) dX3_wouldLend_5 rfl ?_
  refine v_aload_n 9 0 dX3_wouldLend_8 rfl rfl rfl ?_
  refine vg_0_8 12 (k0 + 17) hk0 in_X3_wouldLend_0 (mem_at 2 rfl) rfl dX3_wouldLend_9 rfl ?_
  refine vg_1_0 15 (kf_0_8 hk0) in_X3_wouldLend_1 (mem_at 3 rfl) dX3_wouldLend_12 rfl ?_
  refine v_aload_n 16 0 dX3_wouldLend_15 rfl rfl rfl ?_
  refine vg_0_8 19 (k0 + 17) hk0 in_X3_wouldLend_0 (mem_at 2 rfl) rfl dX3_wouldLend_16 rfl ?_
  refine vg_1_3 22 (k0 + 17 + 3) (kf_0_8 hk0) in_X3_wouldLend_1 (mem_at 4 rfl) rfl dX3_wouldLend_19 rfl ?_
  refine v_iload_n 23 1 dX3_wouldLend_22 rfl rfl rfl ?_
  obtain ⟨x2, h0, h⟩ := ob h
  refine v_cV 26 4 [.int l1] (kf_1_3 (kf_0_8 hk0)) rfl (c_X7_at (k0 + 17 + 3) l1 (kf_1_3 (kf_0_8 hk0)) _ h0) cl_X7_at gX3_wouldLend_X7_at rfl ⟨Nat.le_of_ble_eq_true rfl, Nat.le_of_ble_eq_true rfl⟩ rfl rfl (Nat.le_of_ble_eq_true rfl) dX3_wouldLend_23 rfl ?_
  refine v_iload_n 27 2 dX3_wouldLend_26 rfl rfl rfl ?_
  refine v_cS 30 [.int x1, .int (rI σ (k0 + 17) 0), .int x2, .int l2] (c_X2_lends x1 (rI σ (k0 + 17) 0) x2 l2) cl_X2_lends gX3_wouldLend_X2_lends ⟨Nat.le_of_ble_eq_true rfl, Nat.le_of_ble_eq_true rfl⟩ rfl rfl (Nat.le_of_ble_eq_true rfl) dX3_wouldLend_27 rfl ?_
  exact v_zretP h rfl zb_X2_lends dX3_wouldLend_30
-- boolean bringGift(int, int, int);
abbrev rm_X4_bringGift : Room := { frames := 2, cells := 0, slots := 0, locals := 44 }
theorem cl_X4_bringGift : Cl yX4_bringGift wsX4_bringGift cX4_bringGift 6 (some .boolean) rm_X4_bringGift 3 := ⟨⟨_, rfl⟩, rfl, rfl, by decide +kernel, by decide +kernel, by decide +kernel⟩
theorem in_X4_bringGift_1 : ∀ w ∈ wsX40, w ∈ wsX4_bringGift := fun w h => List.mem_cons_of_mem _ (List.mem_append_left _ (List.mem_append_right _ h))
def b_X4_bringGift_72 (k0 : Nat) (l1 : Int32) (l2 : Int32) (l3 : Int32) (σ : Sg) (l5 : Int32) (t0 : Int32) (t1 : Int32) : Option (Int32 × Sg) := (f_X7_put σ (k0 + 3) t1 t0).bind fun s3 => (if l5 = 0 ∨ l5 = 1 then some (l5, s3) else none)
def b_X4_bringGift_40 (k0 : Nat) (l1 : Int32) (l2 : Int32) (l3 : Int32) (σ : Sg) (l4 : Int32) (l5 : Int32) : Option (Int32 × Sg) := (if l5 = 0 then b_X4_bringGift_72 k0 l1 l2 l3 σ l5 (if (l4 - 1) < 0 then 0 else (l4 - 1)) l1 else b_X4_bringGift_72 k0 l1 l2 l3 σ l5 (if 9 < (l4 + (l3 / 3)) then 9 else (l4 + (l3 / 3))) l1)
def f_X4_bringGift (σ : Sg) (k0 : Nat) (l1 : Int32) (l2 : Int32) (l3 : Int32) : Option (Int32 × Sg) := (f_X7_at σ (k0 + 3) l1).bind fun x1 => nam (f_X2_lends l2 (rI σ k0 0) x1 l3) fun x2 => (if x2 = 0 then b_X4_bringGift_40 k0 l1 l2 l3 σ x1 x2 else nam (stI σ k0 1 ((rI σ k0 1) ||| (1 <<< (l1 &&& 31)))) fun s4 => b_X4_bringGift_40 k0 l1 l2 l3 s4 x1 x2)
set_option maxRecDepth 100000 in
set_option maxHeartbeats 4000000 in
theorem q_X4_bringGift_72 {g : Cx} (k0 : Nat) (l1 : Int32) (l2 : Int32) (l3 : Int32) (hk0 : kK k0 = 1) (r : Int32) (τ : Sg) : ∀ σ : Sg, ∀ l5 : Int32, ∀ t0 : Int32, ∀ t1 : Int32, b_X4_bringGift_72 k0 l1 l2 l3 σ l5 t0 t1 = some (r, τ) → V g cX4_bringGift RX4 wsX4_bringGift 6 (some .boolean) rm_X4_bringGift (some (.int r)) τ σ 72 [(5, .int l5)] [.int t0, .int t1, .ref (g.1 (k0 + 3))] := by
  intro σ l5 t0 t1 h
  unfold b_X4_bringGift_72 at h
  obtain ⟨s3, h0, h⟩ := ob h
  refine v_cV 75 4 [.int t1, .int t0] (kf_1_3 hk0) rfl (c_X7_put (k0 + 3) t1 t0 (kf_1_3 hk0) _ h0) cl_X7_put gX4_bringGift_X7_put rfl ⟨Nat.le_of_ble_eq_true rfl, Nat.le_of_ble_eq_true rfl⟩ rfl rfl (Nat.le_of_ble_eq_true rfl) dX4_bringGift_72 rfl ?_
  refine v_iload 77 0 dX4_bringGift_75 rfl rfl ?_
  exact v_zretSc h rfl dX4_bringGift_77
set_option maxRecDepth 100000 in
set_option maxHeartbeats 4000000 in
theorem q_X4_bringGift_40 {g : Cx} (k0 : Nat) (l1 : Int32) (l2 : Int32) (l3 : Int32) (hk0 : kK k0 = 1) (r : Int32) (τ : Sg) : ∀ σ : Sg, ∀ l4 : Int32, ∀ l5 : Int32, b_X4_bringGift_40 k0 l1 l2 l3 σ l4 l5 = some (r, τ) → V g cX4_bringGift RX4 wsX4_bringGift 6 (some .boolean) rm_X4_bringGift (some (.int r)) τ σ 40 [(0, .ref (g.1 k0)), (1, .int l1), (3, .int l3), (4, .int l4), (5, .int l5)] [] := by
  intro σ l4 l5 h
  unfold b_X4_bringGift_40 at h
  refine v_aload_n 41 0 dX4_bringGift_40 rfl rfl rfl ?_
  refine vg_1_3 44 (k0 + 3) hk0 in_X4_bringGift_1 (mem_at 1 rfl) rfl dX4_bringGift_41 rfl ?_
  refine v_iload_n 45 1 dX4_bringGift_44 rfl rfl rfl ?_
  refine v_iload 47 4 dX4_bringGift_45 rfl rfl ?_
  refine v_if_eq 50 64 h dX4_bringGift_47 rfl (by decide) (fun h => ?_) (fun h => ?_)
  · refine v_iload 66 3 dX4_bringGift_64 rfl rfl ?_
    refine v_iconst 67 1 dX4_bringGift_66 kc_i_1 rfl ?_
    refine v_isub 68 dX4_bringGift_67 rfl ?_
    refine v_iconst 69 0 dX4_bringGift_68 kc_i_0 rfl ?_
    refine v_max 72 (mem_at 8 rfl) (mem_at 9 rfl) (mem_at 6 rfl) (mem_at 10 rfl) ⟨Nat.le_of_ble_eq_true rfl, Nat.le_of_ble_eq_true rfl⟩ (Nat.le_of_ble_eq_true rfl) dX4_bringGift_69 rfl ?_
    refine v_sub [4] rfl ?_
    exact q_X4_bringGift_72 k0 l1 l2 l3 hk0 r τ σ l5 (if (l4 - 1) < 0 then 0 else (l4 - 1)) l1 h
  · refine v_iload 52 3 dX4_bringGift_50 rfl rfl ?_
    refine v_iload_n 53 2 dX4_bringGift_52 rfl rfl rfl ?_
    refine v_iconst 54 3 dX4_bringGift_53 kc_i_3 rfl ?_
    refine v_idiv 55 kc_ne_3 dX4_bringGift_54 rfl ?_
    refine v_iadd 56 dX4_bringGift_55 rfl ?_
    refine v_bipush 58 9 dX4_bringGift_56 kc_b_9 rfl ?_
    refine v_min 61 (mem_at 4 rfl) (mem_at 5 rfl) (mem_at 6 rfl) (mem_at 7 rfl) ⟨Nat.le_of_ble_eq_true rfl, Nat.le_of_ble_eq_true rfl⟩ (Nat.le_of_ble_eq_true rfl) dX4_bringGift_58 rfl ?_
    refine v_goto 72 dX4_bringGift_61 (by decide) ?_
    refine v_sub [4] rfl ?_
    exact q_X4_bringGift_72 k0 l1 l2 l3 hk0 r τ σ l5 (if 9 < (l4 + (l3 / 3)) then 9 else (l4 + (l3 / 3))) l1 h
set_option maxRecDepth 100000 in
set_option maxHeartbeats 4000000 in
theorem c_X4_bringGift {g : Cx} {σ : Sg} (k0 : Nat) (l1 : Int32) (l2 : Int32) (l3 : Int32) (hk0 : kK k0 = 1) (r : Int32) (τ : Sg) (h : f_X4_bringGift σ k0 l1 l2 l3 = some (r, τ)) : ∀ l, MetF l yX4_bringGift wsX4_bringGift rm_X4_bringGift g [.ref (g.1 k0), .int l1, .int l2, .int l3] σ (some (.int r)) τ := by
  refine MetF.of (own0 := RX4) (lv0 := [(0, .ref (g.1 k0)), (1, .int l1), (2, .int l2), (3, .int l3)]) rfl cl_X4_bringGift (by decide) (Nat.le_of_ble_eq_true rfl) rfl ?_
  unfold f_X4_bringGift at h
  refine v_aload_n 1 0 dX4_bringGift_0 rfl rfl rfl ?_
  refine vg_1_3 4 (k0 + 3) hk0 in_X4_bringGift_1 (mem_at 1 rfl) rfl dX4_bringGift_1 rfl ?_
  refine v_iload_n 5 1 dX4_bringGift_4 rfl rfl rfl ?_
  obtain ⟨x1, h0, h⟩ := ob h
  refine v_cV 8 4 [.int l1] (kf_1_3 hk0) rfl (c_X7_at (k0 + 3) l1 (kf_1_3 hk0) _ h0) cl_X7_at gX4_bringGift_X7_at rfl ⟨Nat.le_of_ble_eq_true rfl, Nat.le_of_ble_eq_true rfl⟩ rfl rfl (Nat.le_of_ble_eq_true rfl) dX4_bringGift_5 rfl ?_
  refine v_istore 10 dX4_bringGift_8 (by decide) rfl rfl ?_
  refine v_iload_n 11 3 dX4_bringGift_10 rfl rfl rfl ?_
  refine v_aload_n 12 1 dX4_bringGift_11 rfl rfl rfl ?_
  refine vg_1_0 15 hk0 in_X4_bringGift_1 (mem_at 2 rfl) dX4_bringGift_12 rfl ?_
  refine v_iload 17 0 dX4_bringGift_15 rfl rfl ?_
  refine v_iload_n 18 4 dX4_bringGift_17 rfl rfl rfl ?_
  refine v_cS 21 [.int l2, .int (rI σ k0 0), .int x1, .int l3] (c_X2_lends l2 (rI σ k0 0) x1 l3) cl_X2_lends gX4_bringGift_X2_lends ⟨Nat.le_of_ble_eq_true rfl, Nat.le_of_ble_eq_true rfl⟩ rfl rfl (Nat.le_of_ble_eq_true rfl) dX4_bringGift_18 rfl ?_
  refine v_istoreN 23 h dX4_bringGift_21 (by decide) rfl (fun _ => rfl) (fun x2 h => ?_)
  refine v_iload 25 0 dX4_bringGift_23 rfl rfl ?_
  refine v_if_eq 28 40 h dX4_bringGift_25 rfl (by decide) (fun h => ?_) (fun h => ?_)
  · refine v_sub [2, 3, 5, 1, 0] rfl ?_
    exact q_X4_bringGift_40 k0 l1 l2 l3 hk0 r τ σ x1 x2 h
  · refine v_aload_n 29 2 dX4_bringGift_28 rfl rfl rfl ?_
    refine v_dup 30 dX4_bringGift_29 rfl rfl ?_
    refine vg_1_1 33 hk0 in_X4_bringGift_1 (mem_at 3 rfl) dX4_bringGift_30 rfl ?_
    refine v_iconst 34 1 dX4_bringGift_33 kc_i_1 rfl ?_
    refine v_iload_n 35 3 dX4_bringGift_34 rfl rfl rfl ?_
    refine v_ishl 36 dX4_bringGift_35 rfl ?_
    refine v_ior 37 dX4_bringGift_36 rfl ?_
    refine vp_1_1 40 h hk0 in_X4_bringGift_1 (mem_at 3 rfl) dX4_bringGift_37 rfl (fun s4 h => ?_)
    refine v_sub [2, 3, 5, 1, 0] rfl ?_
    exact q_X4_bringGift_40 k0 l1 l2 l3 hk0 r τ s4 x1 x2 h
-- void restore(WidowWeight$Row);
abbrev rm_X4_restore : Room := { frames := 2, cells := 0, slots := 0, locals := 42 }
theorem cl_X4_restore : Cl yX4_restore wsX4_restore cX4_restore 4 none rm_X4_restore 1 := ⟨⟨_, rfl⟩, rfl, rfl, by decide +kernel, by decide +kernel, by decide +kernel⟩
theorem in_X4_restore_1 : ∀ w ∈ wsX40, w ∈ wsX4_restore := fun w h => List.mem_cons_of_mem _ (List.mem_append_left _ (List.mem_append_right _ h))
def b_X4_restore_30 (k0 : Nat) (k1 : Nat) : Nat → Sg → Int32 → Int32 → Option Sg
  | 0, _, _, _ => none
  | f + 1, σ, l2, l3 => (if 7 ≤ l3 then (f_X7_dropLast σ k1 16).bind fun s6 => (some s6) else (f_X7_at σ k1 ((l2 + 2) + (2 * l3))).bind fun x7 => (f_X7_put σ (k0 + 1) l3 x7).bind fun s8 => (f_X7_at s8 k1 ((l2 + 3) + (2 * l3))).bind fun x9 => (f_X7_put s8 (k0 + 3) l3 x9).bind fun s10 => nam (l3 + 1) fun x11 => b_X4_restore_30 k0 k1 f s10 l2 x11)
def f_X4_restore (σ : Sg) (k0 : Nat) (k1 : Nat) : Option Sg := nam ((f_X7_size σ k1) - 16) fun x1 => (f_X7_at σ k1 x1).bind fun x2 => nam (stI σ k0 0 x2) fun s3 => (f_X7_at s3 k1 (x1 + 1)).bind fun x4 => nam (stI s3 k0 1 x4) fun s5 => b_X4_restore_30 k0 k1 FU s5 x1 0
set_option maxRecDepth 100000 in
set_option maxHeartbeats 4000000 in
theorem q_X4_restore_30 {g : Cx} (k0 : Nat) (k1 : Nat) (hk0 : kK k0 = 1) (hk1 : kK k1 = 4) (τ : Sg) : ∀ f : Nat, ∀ σ : Sg, ∀ l2 : Int32, ∀ l3 : Int32, b_X4_restore_30 k0 k1 f σ l2 l3 = some τ → V g cX4_restore RX4 wsX4_restore 4 none rm_X4_restore none τ σ 30 [(0, .ref (g.1 k0)), (1, .ref (g.1 k1)), (2, .int l2), (3, .int l3)] [] := by
  intro f
  induction f with
  | zero =>
    intro σ l2 l3 h
    cases h
  | succ f ih =>
    intro σ l2 l3 h
    rw [b_X4_restore_30] at h
    refine v_iload_n 31 3 dX4_restore_30 rfl rfl rfl ?_
    refine v_bipush 33 7 dX4_restore_31 kc_b_7 rfl ?_
    refine v_icmp_ge 36 80 h dX4_restore_33 rfl (by decide) (fun h => ?_) (fun h => ?_)
    · refine v_aload_n 81 1 dX4_restore_80 rfl rfl rfl ?_
      refine v_bipush 83 16 dX4_restore_81 kc_b_16 rfl ?_
      obtain ⟨s6, h0, h⟩ := ob h
      refine v_cV 86 4 [.int 16] hk1 rfl (c_X7_dropLast k1 16 hk1 _ h0) cl_X7_dropLast gX4_restore_X7_dropLast rfl ⟨Nat.le_of_ble_eq_true rfl, Nat.le_of_ble_eq_true rfl⟩ rfl rfl (Nat.le_of_ble_eq_true rfl) dX4_restore_83 rfl ?_
      exact v_vretS h rfl dX4_restore_86
    · refine v_aload_n 37 0 dX4_restore_36 rfl rfl rfl ?_
      refine vg_1_2 40 (k0 + 1) hk0 in_X4_restore_1 (mem_at 3 rfl) rfl dX4_restore_37 rfl ?_
      refine v_iload_n 41 3 dX4_restore_40 rfl rfl rfl ?_
      refine v_aload_n 42 1 dX4_restore_41 rfl rfl rfl ?_
      refine v_iload_n 43 2 dX4_restore_42 rfl rfl rfl ?_
      refine v_iconst 44 2 dX4_restore_43 kc_i_2 rfl ?_
      refine v_iadd 45 dX4_restore_44 rfl ?_
      refine v_iconst 46 2 dX4_restore_45 kc_i_2 rfl ?_
      refine v_iload_n 47 3 dX4_restore_46 rfl rfl rfl ?_
      refine v_imul 48 dX4_restore_47 rfl ?_
      refine v_iadd 49 dX4_restore_48 rfl ?_
      obtain ⟨x7, h0, h⟩ := ob h
      refine v_cV 52 4 [.int ((l2 + 2) + (2 * l3))] hk1 rfl (c_X7_at k1 ((l2 + 2) + (2 * l3)) hk1 _ h0) cl_X7_at gX4_restore_X7_at rfl ⟨Nat.le_of_ble_eq_true rfl, Nat.le_of_ble_eq_true rfl⟩ rfl rfl (Nat.le_of_ble_eq_true rfl) dX4_restore_49 rfl ?_
      obtain ⟨s8, h0, h⟩ := ob h
      refine v_cV 55 4 [.int l3, .int x7] (kf_1_2 hk0) rfl (c_X7_put (k0 + 1) l3 x7 (kf_1_2 hk0) _ h0) cl_X7_put gX4_restore_X7_put rfl ⟨Nat.le_of_ble_eq_true rfl, Nat.le_of_ble_eq_true rfl⟩ rfl rfl (Nat.le_of_ble_eq_true rfl) dX4_restore_52 rfl ?_
      refine v_aload_n 56 0 dX4_restore_55 rfl rfl rfl ?_
      refine vg_1_3 59 (k0 + 3) hk0 in_X4_restore_1 (mem_at 4 rfl) rfl dX4_restore_56 rfl ?_
      refine v_iload_n 60 3 dX4_restore_59 rfl rfl rfl ?_
      refine v_aload_n 61 1 dX4_restore_60 rfl rfl rfl ?_
      refine v_iload_n 62 2 dX4_restore_61 rfl rfl rfl ?_
      refine v_iconst 63 3 dX4_restore_62 kc_i_3 rfl ?_
      refine v_iadd 64 dX4_restore_63 rfl ?_
      refine v_iconst 65 2 dX4_restore_64 kc_i_2 rfl ?_
      refine v_iload_n 66 3 dX4_restore_65 rfl rfl rfl ?_
      refine v_imul 67 dX4_restore_66 rfl ?_
      refine v_iadd 68 dX4_restore_67 rfl ?_
      obtain ⟨x9, h0, h⟩ := ob h
      refine v_cV 71 4 [.int ((l2 + 3) + (2 * l3))] hk1 rfl (c_X7_at k1 ((l2 + 3) + (2 * l3)) hk1 _ h0) cl_X7_at gX4_restore_X7_at rfl ⟨Nat.le_of_ble_eq_true rfl, Nat.le_of_ble_eq_true rfl⟩ rfl rfl (Nat.le_of_ble_eq_true rfl) dX4_restore_68 rfl ?_
      obtain ⟨s10, h0, h⟩ := ob h
      refine v_cV 74 4 [.int l3, .int x9] (kf_1_3 hk0) rfl (c_X7_put (k0 + 3) l3 x9 (kf_1_3 hk0) _ h0) cl_X7_put gX4_restore_X7_put rfl ⟨Nat.le_of_ble_eq_true rfl, Nat.le_of_ble_eq_true rfl⟩ rfl rfl (Nat.le_of_ble_eq_true rfl) dX4_restore_71 rfl ?_
      refine v_iincN 77 3 h dX4_restore_74 rfl kc_i_1 (by decide) rfl (fun _ => rfl) (fun x11 h => ?_)
      refine v_goto 30 dX4_restore_77 (by decide) ?_
      refine v_sub [1, 2, 3, 0] rfl ?_
      exact ih s10 l2 x11 h
set_option maxRecDepth 100000 in
set_option maxHeartbeats 4000000 in
theorem c_X4_restore {g : Cx} {σ : Sg} (k0 : Nat) (k1 : Nat) (hk0 : kK k0 = 1) (hk1 : kK k1 = 4) (τ : Sg) (h : f_X4_restore σ k0 k1 = some τ) : ∀ l, MetF l yX4_restore wsX4_restore rm_X4_restore g [.ref (g.1 k0), .ref (g.1 k1)] σ none τ := by
  refine MetF.of (own0 := RX4) (lv0 := [(0, .ref (g.1 k0)), (1, .ref (g.1 k1))]) rfl cl_X4_restore (by decide) (Nat.le_of_ble_eq_true rfl) rfl ?_
  unfold f_X4_restore at h
  refine v_aload_n 1 1 dX4_restore_0 rfl rfl rfl ?_
  refine v_cV 4 4 [] hk1 rfl (c_X7_size k1 hk1) cl_X7_size gX4_restore_X7_size rfl ⟨Nat.le_of_ble_eq_true rfl, Nat.le_of_ble_eq_true rfl⟩ rfl rfl (Nat.le_of_ble_eq_true rfl) dX4_restore_1 rfl ?_
  refine v_bipush 6 16 dX4_restore_4 kc_b_16 rfl ?_
  refine v_isub 7 dX4_restore_6 rfl ?_
  refine v_istoreN_n 8 h dX4_restore_7 rfl (by decide) rfl (fun _ => rfl) (fun x1 h => ?_)
  refine v_aload_n 9 1 dX4_restore_8 rfl rfl rfl ?_
  refine v_aload_n 10 2 dX4_restore_9 rfl rfl rfl ?_
  refine v_iload_n 11 0 dX4_restore_10 rfl rfl rfl ?_
  obtain ⟨x2, h0, h⟩ := ob h
  refine v_cV 14 4 [.int x1] hk1 rfl (c_X7_at k1 x1 hk1 _ h0) cl_X7_at gX4_restore_X7_at rfl ⟨Nat.le_of_ble_eq_true rfl, Nat.le_of_ble_eq_true rfl⟩ rfl rfl (Nat.le_of_ble_eq_true rfl) dX4_restore_11 rfl ?_
  refine vp_1_0 17 h hk0 in_X4_restore_1 (mem_at 1 rfl) dX4_restore_14 rfl (fun s3 h => ?_)
  refine v_aload_n 18 1 dX4_restore_17 rfl rfl rfl ?_
  refine v_aload_n 19 2 dX4_restore_18 rfl rfl rfl ?_
  refine v_iload_n 20 0 dX4_restore_19 rfl rfl rfl ?_
  refine v_iconst 21 1 dX4_restore_20 kc_i_1 rfl ?_
  refine v_iadd 22 dX4_restore_21 rfl ?_
  obtain ⟨x4, h0, h⟩ := ob h
  refine v_cV 25 4 [.int (x1 + 1)] hk1 rfl (c_X7_at k1 (x1 + 1) hk1 _ h0) cl_X7_at gX4_restore_X7_at rfl ⟨Nat.le_of_ble_eq_true rfl, Nat.le_of_ble_eq_true rfl⟩ rfl rfl (Nat.le_of_ble_eq_true rfl) dX4_restore_22 rfl ?_
  refine vp_1_1 28 h hk0 in_X4_restore_1 (mem_at 2 rfl) dX4_restore_25 rfl (fun s5 h => ?_)
  refine v_iconst 29 0 dX4_restore_28 kc_i_0 rfl ?_
  refine v_istore_n 30 dX4_restore_29 rfl (by decide) rfl rfl ?_
  refine v_sub [2, 3, 1, 0] rfl ?_
  exact q_X4_restore_30 k0 k1 hk0 hk1 τ FU s5 x1 0 h
