-- private int refuseBad(int);
abbrev rm_X11_refuseBad : Room := { frames := 0, cells := 0, slots := 0, locals := 0 }
theorem cl_X11_refuseBad : Cl yX11_refuseBad wsX11_refuseBad cX11_refuseBad 2 (some .int) rm_X11_refuseBad 1 := ⟨⟨_, rfl⟩, rfl, rfl, by decide +kernel, by decide +kernel, by decide +kernel⟩
theorem in_X11_refuseBad_7 : ∀ w ∈ wsX110, w ∈ wsX11_refuseBad := fun w h => List.mem_cons_of_mem _ (List.mem_append_right _ h)
def f_X11_refuseBad (σ : Sg) (l1 : Int32) : Option (Int32 × Sg) := nam (stI σ 0 12 ((rI σ 0 12) + 1)) fun s1 => (some (l1, s1))
set_option maxRecDepth 100000 in
set_option maxHeartbeats 4000000 in
theorem c_X11_refuseBad {g : Cx} {σ : Sg} (l1 : Int32) (r : Int32) (τ : Sg) (h : f_X11_refuseBad σ l1 = some (r, τ)) : ∀ l, MetF l yX11_refuseBad wsX11_refuseBad rm_X11_refuseBad g [.ref (g.1 0), .int l1] σ (some (.int r)) τ := by
  refine MetF.of (own0 := RX11) (lv0 := [(0, .ref (g.1 0)), (1, .int l1)]) rfl cl_X11_refuseBad (by decide) (Nat.le_of_ble_eq_true rfl) rfl ?_
  unfold f_X11_refuseBad at h
  refine v_aload_n 1 0 dX11_refuseBad_0 rfl rfl rfl ?_
  refine v_dup 2 dX11_refuseBad_1 rfl rfl ?_
  refine vg_7_12 5 (rfl : kK 0 = 7) in_X11_refuseBad_7 (mem_at 1 rfl) dX11_refuseBad_2 rfl ?_
  refine v_iconst 6 1 dX11_refuseBad_5 kc_i_1 rfl ?_
  refine v_iadd 7 dX11_refuseBad_6 rfl ?_
  refine vp_7_12 10 h (rfl : kK 0 = 7) in_X11_refuseBad_7 (mem_at 1 rfl) dX11_refuseBad_7 rfl (fun s1 h => ?_)
  refine v_iload_n 11 1 dX11_refuseBad_10 rfl rfl rfl ?_
  exact v_iretS h rfl dX11_refuseBad_11
-- private int refuseFull();
abbrev rm_X11_refuseFull : Room := { frames := 0, cells := 0, slots := 0, locals := 0 }
theorem cl_X11_refuseFull : Cl yX11_refuseFull wsX11_refuseFull cX11_refuseFull 1 (some .int) rm_X11_refuseFull 0 := ⟨⟨_, rfl⟩, rfl, rfl, by decide +kernel, by decide +kernel, by decide +kernel⟩
theorem in_X11_refuseFull_7 : ∀ w ∈ wsX110, w ∈ wsX11_refuseFull := fun w h => List.mem_cons_of_mem _ (List.mem_append_right _ h)
def f_X11_refuseFull (σ : Sg) : Option (Int32 × Sg) := nam (stI σ 0 14 ((rI σ 0 14) + 1)) fun s1 => (some ((-4), s1))
set_option maxRecDepth 100000 in
set_option maxHeartbeats 4000000 in
theorem c_X11_refuseFull {g : Cx} {σ : Sg} (r : Int32) (τ : Sg) (h : f_X11_refuseFull σ = some (r, τ)) : ∀ l, MetF l yX11_refuseFull wsX11_refuseFull rm_X11_refuseFull g [.ref (g.1 0)] σ (some (.int r)) τ := by
  refine MetF.of (own0 := RX11) (lv0 := [(0, .ref (g.1 0))]) rfl cl_X11_refuseFull (by decide) (Nat.le_of_ble_eq_true rfl) rfl ?_
  unfold f_X11_refuseFull at h
  refine v_aload_n 1 0 dX11_refuseFull_0 rfl rfl rfl ?_
  refine v_dup 2 dX11_refuseFull_1 rfl rfl ?_
  refine vg_7_14 5 (rfl : kK 0 = 7) in_X11_refuseFull_7 (mem_at 1 rfl) dX11_refuseFull_2 rfl ?_
  refine v_iconst 6 1 dX11_refuseFull_5 kc_i_1 rfl ?_
  refine v_iadd 7 dX11_refuseFull_6 rfl ?_
  refine vp_7_14 10 h (rfl : kK 0 = 7) in_X11_refuseFull_7 (mem_at 1 rfl) dX11_refuseFull_7 rfl (fun s1 h => ?_)
  refine v_bipush 12 (-4) dX11_refuseFull_10 kc_b_m4 rfl ?_
  exact v_iretS h rfl dX11_refuseFull_12
-- public int balance(int);
abbrev rm_X11_balance : Room := { frames := 2, cells := 0, slots := 0, locals := 42 }
theorem cl_X11_balance : Cl yX11_balance wsX11_balance cX11_balance 2 (some .int) rm_X11_balance 1 := ⟨⟨_, rfl⟩, rfl, rfl, by decide +kernel, by decide +kernel, by decide +kernel⟩
theorem in_X11_balance_7 : ∀ w ∈ wsX110, w ∈ wsX11_balance := fun w h => List.mem_cons_of_mem _ (List.mem_append_left _ (List.mem_append_left _ (List.mem_append_right _ h)))
theorem in_X11_balance_0 : ∀ w ∈ wsX30, w ∈ wsX11_balance := fun w h => List.mem_cons_of_mem _ (List.mem_append_left _ (List.mem_append_right _ h))
def f_X11_balance (σ : Sg) (l1 : Int32) : Option (Int32 × Sg) := (if (f_X11_isKind l1) = 0 then bnd (f_X11_refuseBad σ (-2)) fun x5 s6 => (some (x5, s6)) else (if (f_X7_isFull σ 8) = 0 then (f_X7_add σ 8 l1).bind fun s1 => (f_X7_restart s1 16).bind fun s2 => (some ((f_X7_size s2 8) - 1, s2)) else bnd (f_X11_refuseFull σ) fun x3 s4 => (some (x3, s4))))
set_option maxRecDepth 100000 in
set_option maxHeartbeats 4000000 in
theorem c_X11_balance {g : Cx} {σ : Sg} (l1 : Int32) (r : Int32) (τ : Sg) (h : f_X11_balance σ l1 = some (r, τ)) : ∀ l, MetF l yX11_balance wsX11_balance rm_X11_balance g [.ref (g.1 0), .int l1] σ (some (.int r)) τ := by
  refine MetF.of (own0 := RX11) (lv0 := [(0, .ref (g.1 0)), (1, .int l1)]) rfl cl_X11_balance (by decide) (Nat.le_of_ble_eq_true rfl) rfl ?_
  unfold f_X11_balance at h
  refine v_iload_n 1 1 dX11_balance_0 rfl rfl rfl ?_
  refine v_cS 4 [.int l1] (c_X11_isKind l1) cl_X11_isKind gX11_balance_X11_isKind ⟨Nat.le_of_ble_eq_true rfl, Nat.le_of_ble_eq_true rfl⟩ rfl rfl (Nat.le_of_ble_eq_true rfl) dX11_balance_1 rfl ?_
  refine v_if_ne 7 14 h dX11_balance_4 rfl (by decide) (fun h => ?_) (fun h => ?_)
  · refine v_aload_n 15 0 dX11_balance_14 rfl rfl rfl ?_
    refine vg_7_0 18 (rfl : kK 0 = 7) in_X11_balance_7 (mem_at 1 rfl) dX11_balance_15 rfl ?_
    refine vg_0_3 21 8 (rfl : kK 1 = 0) in_X11_balance_0 (mem_at 2 rfl) rfl dX11_balance_18 rfl ?_
    refine v_cV 24 4 [] (rfl : kK 8 = 4) rfl (c_X7_isFull 8 (rfl : kK 8 = 4)) cl_X7_isFull gX11_balance_X7_isFull rfl ⟨Nat.le_of_ble_eq_true rfl, Nat.le_of_ble_eq_true rfl⟩ rfl rfl (Nat.le_of_ble_eq_true rfl) dX11_balance_21 rfl ?_
    refine v_if_eq 27 32 h dX11_balance_24 rfl (by decide) (fun h => ?_) (fun h => ?_)
    · refine v_aload_n 33 0 dX11_balance_32 rfl rfl rfl ?_
      refine vg_7_0 36 (rfl : kK 0 = 7) in_X11_balance_7 (mem_at 1 rfl) dX11_balance_33 rfl ?_
      refine vg_0_3 39 8 (rfl : kK 1 = 0) in_X11_balance_0 (mem_at 2 rfl) rfl dX11_balance_36 rfl ?_
      refine v_iload_n 40 1 dX11_balance_39 rfl rfl rfl ?_
      obtain ⟨s1, h0, h⟩ := ob h
      refine v_cV 43 4 [.int l1] (rfl : kK 8 = 4) rfl (c_X7_add 8 l1 (rfl : kK 8 = 4) _ h0) cl_X7_add gX11_balance_X7_add rfl ⟨Nat.le_of_ble_eq_true rfl, Nat.le_of_ble_eq_true rfl⟩ rfl rfl (Nat.le_of_ble_eq_true rfl) dX11_balance_40 rfl ?_
      refine v_aload_n 44 0 dX11_balance_43 rfl rfl rfl ?_
      refine vg_7_0 47 (rfl : kK 0 = 7) in_X11_balance_7 (mem_at 1 rfl) dX11_balance_44 rfl ?_
      refine vg_0_7 50 16 (rfl : kK 1 = 0) in_X11_balance_0 (mem_at 3 rfl) rfl dX11_balance_47 rfl ?_
      obtain ⟨s2, h0, h⟩ := ob h
      refine v_cV 53 4 [] (rfl : kK 16 = 4) rfl (c_X7_restart 16 (rfl : kK 16 = 4) _ h0) cl_X7_restart gX11_balance_X7_restart rfl ⟨Nat.le_of_ble_eq_true rfl, Nat.le_of_ble_eq_true rfl⟩ rfl rfl (Nat.le_of_ble_eq_true rfl) dX11_balance_50 rfl ?_
      refine v_aload_n 54 0 dX11_balance_53 rfl rfl rfl ?_
      refine vg_7_0 57 (rfl : kK 0 = 7) in_X11_balance_7 (mem_at 1 rfl) dX11_balance_54 rfl ?_
      refine vg_0_3 60 8 (rfl : kK 1 = 0) in_X11_balance_0 (mem_at 2 rfl) rfl dX11_balance_57 rfl ?_
      refine v_cV 63 4 [] (rfl : kK 8 = 4) rfl (c_X7_size 8 (rfl : kK 8 = 4)) cl_X7_size gX11_balance_X7_size rfl ⟨Nat.le_of_ble_eq_true rfl, Nat.le_of_ble_eq_true rfl⟩ rfl rfl (Nat.le_of_ble_eq_true rfl) dX11_balance_60 rfl ?_
      refine v_iconst 64 1 dX11_balance_63 kc_i_1 rfl ?_
      refine v_isub 65 dX11_balance_64 rfl ?_
      exact v_iretS h rfl dX11_balance_65
    · refine v_aload_n 28 0 dX11_balance_27 rfl rfl rfl ?_
      obtain ⟨x3, s4, h0, h⟩ := ob2 h
      refine v_cV 31 7 [] (rfl : kK 0 = 7) rfl (c_X11_refuseFull _ _ h0) cl_X11_refuseFull gX11_balance_X11_refuseFull rfl ⟨Nat.le_of_ble_eq_true rfl, Nat.le_of_ble_eq_true rfl⟩ rfl rfl (Nat.le_of_ble_eq_true rfl) dX11_balance_28 rfl ?_
      exact v_iretS h rfl dX11_balance_31
  · refine v_aload_n 8 0 dX11_balance_7 rfl rfl rfl ?_
    refine v_bipush 10 (-2) dX11_balance_8 kc_b_m2 rfl ?_
    obtain ⟨x5, s6, h0, h⟩ := ob2 h
    refine v_cV 13 7 [.int (-2)] (rfl : kK 0 = 7) rfl (c_X11_refuseBad (-2) _ _ h0) cl_X11_refuseBad gX11_balance_X11_refuseBad rfl ⟨Nat.le_of_ble_eq_true rfl, Nat.le_of_ble_eq_true rfl⟩ rfl rfl (Nat.le_of_ble_eq_true rfl) dX11_balance_10 rfl ?_
    exact v_iretS h rfl dX11_balance_13
-- private int refuseNo();
abbrev rm_X11_refuseNo : Room := { frames := 0, cells := 0, slots := 0, locals := 0 }
theorem cl_X11_refuseNo : Cl yX11_refuseNo wsX11_refuseNo cX11_refuseNo 1 (some .int) rm_X11_refuseNo 0 := ⟨⟨_, rfl⟩, rfl, rfl, by decide +kernel, by decide +kernel, by decide +kernel⟩
theorem in_X11_refuseNo_7 : ∀ w ∈ wsX110, w ∈ wsX11_refuseNo := fun w h => List.mem_cons_of_mem _ (List.mem_append_right _ h)
def f_X11_refuseNo (σ : Sg) : Option (Int32 × Sg) := nam (stI σ 0 13 ((rI σ 0 13) + 1)) fun s1 => (some ((-3), s1))
set_option maxRecDepth 100000 in
set_option maxHeartbeats 4000000 in
theorem c_X11_refuseNo {g : Cx} {σ : Sg} (r : Int32) (τ : Sg) (h : f_X11_refuseNo σ = some (r, τ)) : ∀ l, MetF l yX11_refuseNo wsX11_refuseNo rm_X11_refuseNo g [.ref (g.1 0)] σ (some (.int r)) τ := by
  refine MetF.of (own0 := RX11) (lv0 := [(0, .ref (g.1 0))]) rfl cl_X11_refuseNo (by decide) (Nat.le_of_ble_eq_true rfl) rfl ?_
  unfold f_X11_refuseNo at h
  refine v_aload_n 1 0 dX11_refuseNo_0 rfl rfl rfl ?_
  refine v_dup 2 dX11_refuseNo_1 rfl rfl ?_
  refine vg_7_13 5 (rfl : kK 0 = 7) in_X11_refuseNo_7 (mem_at 1 rfl) dX11_refuseNo_2 rfl ?_
  refine v_iconst 6 1 dX11_refuseNo_5 kc_i_1 rfl ?_
  refine v_iadd 7 dX11_refuseNo_6 rfl ?_
  refine vp_7_13 10 h (rfl : kK 0 = 7) in_X11_refuseNo_7 (mem_at 1 rfl) dX11_refuseNo_7 rfl (fun s1 h => ?_)
  refine v_bipush 12 (-3) dX11_refuseNo_10 kc_b_m3 rfl ?_
  exact v_iretS h rfl dX11_refuseNo_12
-- public int buyers(int, int);
abbrev rm_X11_buyers : Room := { frames := 5, cells := 0, slots := 0, locals := 113 }
theorem cl_X11_buyers : Cl yX11_buyers wsX11_buyers cX11_buyers 5 (some .int) rm_X11_buyers 2 := ⟨⟨_, rfl⟩, rfl, rfl, by decide +kernel, by decide +kernel, by decide +kernel⟩
theorem in_X11_buyers_7 : ∀ w ∈ wsX110, w ∈ wsX11_buyers := fun w h => List.mem_cons_of_mem _ (List.mem_append_left _ (List.mem_append_left _ (List.mem_append_left _ (List.mem_append_right _ h))))
theorem in_X11_buyers_0 : ∀ w ∈ wsX30, w ∈ wsX11_buyers := fun w h => List.mem_cons_of_mem _ (List.mem_append_left _ (List.mem_append_left _ (List.mem_append_right _ h)))
theorem in_X11_buyers_1 : ∀ w ∈ wsX40, w ∈ wsX11_buyers := fun w h => List.mem_cons_of_mem _ (List.mem_append_left _ (List.mem_append_right _ h))
def b_X11_buyers_16 (l1 : Int32) (l2 : Int32) (σ : Sg) : Option (Int32 × Sg) := bnd (f_X11_refuseBad σ (-10)) fun x1 s2 => (some (x1, s2))
def f_X11_buyers (σ : Sg) (l1 : Int32) (l2 : Int32) : Option (Int32 × Sg) := (if (f_X3_hasKeeper σ 1 l1) = 0 then b_X11_buyers_16 l1 l2 σ else (if (-1) ≤ l2 then (if (f_X4_isLent σ 18 l1) = 0 then (f_X7_at σ 2 l1).bind fun x3 => (f_X7_at σ 21 l1).bind fun x4 => (f_X2_giftsEnough x3 (rI σ 18 0) x4).bind fun x5 => (if l2 = (-1) then (f_X9_restCount x5).bind fun x7 => (some (x7, σ)) else (f_X9_restingPair x5 l2).bind fun x6 => (if x6 = (-1) then (some ((-5), σ)) else (some (x6, σ)))) else bnd (f_X11_refuseNo σ) fun x8 s9 => (some (x8, s9))) else b_X11_buyers_16 l1 l2 σ))
set_option maxRecDepth 100000 in
set_option maxHeartbeats 4000000 in
theorem q_X11_buyers_16 {g : Cx} (l1 : Int32) (l2 : Int32) (r : Int32) (τ : Sg) : ∀ σ : Sg, b_X11_buyers_16 l1 l2 σ = some (r, τ) → V g cX11_buyers RX11 wsX11_buyers 5 (some .int) rm_X11_buyers (some (.int r)) τ σ 16 [(0, .ref (g.1 0))] [] := by
  intro σ h
  unfold b_X11_buyers_16 at h
  refine v_aload_n 17 0 dX11_buyers_16 rfl rfl rfl ?_
  refine v_bipush 19 (-10) dX11_buyers_17 kc_b_m10 rfl ?_
  obtain ⟨x1, s2, h0, h⟩ := ob2 h
  refine v_cV 22 7 [.int (-10)] (rfl : kK 0 = 7) rfl (c_X11_refuseBad (-10) _ _ h0) cl_X11_refuseBad gX11_buyers_X11_refuseBad rfl ⟨Nat.le_of_ble_eq_true rfl, Nat.le_of_ble_eq_true rfl⟩ rfl rfl (Nat.le_of_ble_eq_true rfl) dX11_buyers_19 rfl ?_
  exact v_iretS h rfl dX11_buyers_22
set_option maxRecDepth 100000 in
set_option maxHeartbeats 4000000 in
theorem c_X11_buyers {g : Cx} {σ : Sg} (l1 : Int32) (l2 : Int32) (r : Int32) (τ : Sg) (h : f_X11_buyers σ l1 l2 = some (r, τ)) : ∀ l, MetF l yX11_buyers wsX11_buyers rm_X11_buyers g [.ref (g.1 0), .int l1, .int l2] σ (some (.int r)) τ := by
  refine MetF.of (own0 := RX11) (lv0 := [(0, .ref (g.1 0)), (1, .int l1), (2, .int l2)]) rfl cl_X11_buyers (by decide) (Nat.le_of_ble_eq_true rfl) rfl ?_
  unfold f_X11_buyers at h
  refine v_aload_n 1 0 dX11_buyers_0 rfl rfl rfl ?_
  refine vg_7_0 4 (rfl : kK 0 = 7) in_X11_buyers_7 (mem_at 1 rfl) dX11_buyers_1 rfl ?_
  refine v_iload_n 5 1 dX11_buyers_4 rfl rfl rfl ?_
  refine v_cV 8 0 [.int l1] (rfl : kK 1 = 0) rfl (c_X3_hasKeeper 1 l1 (rfl : kK 1 = 0)) cl_X3_hasKeeper gX11_buyers_X3_hasKeeper rfl ⟨Nat.le_of_ble_eq_true rfl, Nat.le_of_ble_eq_true rfl⟩ rfl rfl (Nat.le_of_ble_eq_true rfl) dX11_buyers_5 rfl ?_
  refine v_if_eq 11 16 h dX11_buyers_8 rfl (by decide) (fun h => ?_) (fun h => ?_)
  · refine v_sub [0] rfl ?_
    exact q_X11_buyers_16 l1 l2 r τ σ h
  · refine v_iload_n 12 2 dX11_buyers_11 rfl rfl rfl ?_
    refine v_iconst 13 (-1) dX11_buyers_12 kc_i_m1 rfl ?_
    refine v_icmp_ge 16 23 h dX11_buyers_13 rfl (by decide) (fun h => ?_) (fun h => ?_)
    · refine v_aload_n 24 0 dX11_buyers_23 rfl rfl rfl ?_
      refine vg_7_0 27 (rfl : kK 0 = 7) in_X11_buyers_7 (mem_at 1 rfl) dX11_buyers_24 rfl ?_
      refine vg_0_8 30 18 (rfl : kK 1 = 0) in_X11_buyers_0 (mem_at 2 rfl) rfl dX11_buyers_27 rfl ?_
      refine v_iload_n 31 1 dX11_buyers_30 rfl rfl rfl ?_
      refine v_cV 34 1 [.int l1] (rfl : kK 18 = 1) rfl (c_X4_isLent 18 l1 (rfl : kK 18 = 1)) cl_X4_isLent gX11_buyers_X4_isLent rfl ⟨Nat.le_of_ble_eq_true rfl, Nat.le_of_ble_eq_true rfl⟩ rfl rfl (Nat.le_of_ble_eq_true rfl) dX11_buyers_31 rfl ?_
      refine v_if_eq 37 42 h dX11_buyers_34 rfl (by decide) (fun h => ?_) (fun h => ?_)
      · refine v_aload_n 43 0 dX11_buyers_42 rfl rfl rfl ?_
        refine vg_7_0 46 (rfl : kK 0 = 7) in_X11_buyers_7 (mem_at 1 rfl) dX11_buyers_43 rfl ?_
        refine vg_0_0 49 2 (rfl : kK 1 = 0) in_X11_buyers_0 (mem_at 3 rfl) rfl dX11_buyers_46 rfl ?_
        refine v_iload_n 50 1 dX11_buyers_49 rfl rfl rfl ?_
        obtain ⟨x3, h0, h⟩ := ob h
        refine v_cV 53 4 [.int l1] (rfl : kK 2 = 4) rfl (c_X7_at 2 l1 (rfl : kK 2 = 4) _ h0) cl_X7_at gX11_buyers_X7_at rfl ⟨Nat.le_of_ble_eq_true rfl, Nat.le_of_ble_eq_true rfl⟩ rfl rfl (Nat.le_of_ble_eq_true rfl) dX11_buyers_50 rfl ?_
        refine v_aload_n 54 0 dX11_buyers_53 rfl rfl rfl ?_
        refine vg_7_0 57 (rfl : kK 0 = 7) in_X11_buyers_7 (mem_at 1 rfl) dX11_buyers_54 rfl ?_
        refine vg_0_8 60 18 (rfl : kK 1 = 0) in_X11_buyers_0 (mem_at 2 rfl) rfl dX11_buyers_57 rfl ?_
        refine vg_1_0 63 (rfl : kK 18 = 1) in_X11_buyers_1 (mem_at 4 rfl) dX11_buyers_60 rfl ?_
        refine v_aload_n 64 0 dX11_buyers_63 rfl rfl rfl ?_
        refine vg_7_0 67 (rfl : kK 0 = 7) in_X11_buyers_7 (mem_at 1 rfl) dX11_buyers_64 rfl ?_
        refine vg_0_8 70 18 (rfl : kK 1 = 0) in_X11_buyers_0 (mem_at 2 rfl) rfl dX11_buyers_67 rfl ?_
        refine vg_1_3 73 21 (rfl : kK 18 = 1) in_X11_buyers_1 (mem_at 5 rfl) rfl dX11_buyers_70 rfl ?_
        refine v_iload_n 74 1 dX11_buyers_73 rfl rfl rfl ?_
        obtain ⟨x4, h0, h⟩ := ob h
        refine v_cV 77 4 [.int l1] (rfl : kK 21 = 4) rfl (c_X7_at 21 l1 (rfl : kK 21 = 4) _ h0) cl_X7_at gX11_buyers_X7_at rfl ⟨Nat.le_of_ble_eq_true rfl, Nat.le_of_ble_eq_true rfl⟩ rfl rfl (Nat.le_of_ble_eq_true rfl) dX11_buyers_74 rfl ?_
        obtain ⟨x5, h0, h⟩ := ob h
        refine v_cS 80 [.int x3, .int (rI σ 18 0), .int x4] (c_X2_giftsEnough x3 (rI σ 18 0) x4 _ h0) cl_X2_giftsEnough gX11_buyers_X2_giftsEnough ⟨Nat.le_of_ble_eq_true rfl, Nat.le_of_ble_eq_true rfl⟩ rfl rfl (Nat.le_of_ble_eq_true rfl) dX11_buyers_77 rfl ?_
        refine v_istore_n 81 dX11_buyers_80 rfl (by decide) rfl rfl ?_
        refine v_iload_n 82 3 dX11_buyers_81 rfl rfl rfl ?_
        refine v_iconst 83 (-1) dX11_buyers_82 kc_i_m1 rfl ?_
        refine v_icmp_ne 86 91 h dX11_buyers_83 rfl (by decide) (fun h => ?_) (fun h => ?_)
        · refine v_iload_n 92 0 dX11_buyers_91 rfl rfl rfl ?_
          refine v_iload_n 93 3 dX11_buyers_92 rfl rfl rfl ?_
          obtain ⟨x6, h0, h⟩ := ob h
          refine v_cS 96 [.int x5, .int l2] (c_X9_restingPair x5 l2 _ h0) cl_X9_restingPair gX11_buyers_X9_restingPair ⟨Nat.le_of_ble_eq_true rfl, Nat.le_of_ble_eq_true rfl⟩ rfl rfl (Nat.le_of_ble_eq_true rfl) dX11_buyers_93 rfl ?_
          refine v_istore 98 dX11_buyers_96 (by decide) rfl rfl ?_
          refine v_iload 100 0 dX11_buyers_98 rfl rfl ?_
          refine v_iconst 101 (-1) dX11_buyers_100 kc_i_m1 rfl ?_
          refine v_icmp_ne 104 109 h dX11_buyers_101 rfl (by decide) (fun h => ?_) (fun h => ?_)
          · refine v_iload 111 0 dX11_buyers_109 rfl rfl ?_
            exact v_iretS h rfl dX11_buyers_111
          · refine v_bipush 106 (-5) dX11_buyers_104 kc_b_m5 rfl ?_
            refine v_goto 111 dX11_buyers_106 (by decide) ?_
            exact v_iretS h rfl dX11_buyers_111
        · refine v_iload_n 87 0 dX11_buyers_86 rfl rfl rfl ?_
          obtain ⟨x7, h0, h⟩ := ob h
          refine v_cS 90 [.int x5] (c_X9_restCount x5 _ h0) cl_X9_restCount gX11_buyers_X9_restCount ⟨Nat.le_of_ble_eq_true rfl, Nat.le_of_ble_eq_true rfl⟩ rfl rfl (Nat.le_of_ble_eq_true rfl) dX11_buyers_87 rfl ?_
          exact v_iretS h rfl dX11_buyers_90
      · refine v_aload_n 38 0 dX11_buyers_37 rfl rfl rfl ?_
        obtain ⟨x8, s9, h0, h⟩ := ob2 h
        refine v_cV 41 7 [] (rfl : kK 0 = 7) rfl (c_X11_refuseNo _ _ h0) cl_X11_refuseNo gX11_buyers_X11_refuseNo rfl ⟨Nat.le_of_ble_eq_true rfl, Nat.le_of_ble_eq_true rfl⟩ rfl rfl (Nat.le_of_ble_eq_true rfl) dX11_buyers_38 rfl ?_
        exact v_iretS h rfl dX11_buyers_41
    · refine v_sub [0] rfl ?_
      exact q_X11_buyers_16 l1 l2 r τ σ h
-- public int clear();
abbrev rm_X11_clear : Room := { frames := 1, cells := 0, slots := 0, locals := 20 }
theorem cl_X11_clear : Cl yX11_clear wsX11_clear cX11_clear 2 (some .int) rm_X11_clear 0 := ⟨⟨_, rfl⟩, rfl, rfl, by decide +kernel, by decide +kernel, by decide +kernel⟩
theorem in_X11_clear_7 : ∀ w ∈ wsX110, w ∈ wsX11_clear := fun w h => List.mem_cons_of_mem _ (List.mem_append_left _ (List.mem_append_right _ h))
def f_X11_clear (σ : Sg) : Option (Int32 × Sg) := nam (f_X7_size σ 67) fun x1 => (f_X7_restart σ 67).bind fun s2 => (some (x1, s2))
set_option maxRecDepth 100000 in
set_option maxHeartbeats 4000000 in
theorem c_X11_clear {g : Cx} {σ : Sg} (r : Int32) (τ : Sg) (h : f_X11_clear σ = some (r, τ)) : ∀ l, MetF l yX11_clear wsX11_clear rm_X11_clear g [.ref (g.1 0)] σ (some (.int r)) τ := by
  refine MetF.of (own0 := RX11) (lv0 := [(0, .ref (g.1 0))]) rfl cl_X11_clear (by decide) (Nat.le_of_ble_eq_true rfl) rfl ?_
  unfold f_X11_clear at h
  refine v_aload_n 1 0 dX11_clear_0 rfl rfl rfl ?_
  refine vg_7_4 4 (rfl : kK 0 = 7) in_X11_clear_7 (mem_at 1 rfl) dX11_clear_1 rfl ?_
  refine v_cV 7 4 [] (rfl : kK 67 = 4) rfl (c_X7_size 67 (rfl : kK 67 = 4)) cl_X7_size gX11_clear_X7_size rfl ⟨Nat.le_of_ble_eq_true rfl, Nat.le_of_ble_eq_true rfl⟩ rfl rfl (Nat.le_of_ble_eq_true rfl) dX11_clear_4 rfl ?_
  refine v_istoreN_n 8 h dX11_clear_7 rfl (by decide) rfl (fun _ => rfl) (fun x1 h => ?_)
  refine v_aload_n 9 1 dX11_clear_8 rfl rfl rfl ?_
  refine vg_7_4 12 (rfl : kK 0 = 7) in_X11_clear_7 (mem_at 1 rfl) dX11_clear_9 rfl ?_
  obtain ⟨s2, h0, h⟩ := ob h
  refine v_cV 15 4 [] (rfl : kK 67 = 4) rfl (c_X7_restart 67 (rfl : kK 67 = 4) _ h0) cl_X7_restart gX11_clear_X7_restart rfl ⟨Nat.le_of_ble_eq_true rfl, Nat.le_of_ble_eq_true rfl⟩ rfl rfl (Nat.le_of_ble_eq_true rfl) dX11_clear_12 rfl ?_
  refine v_iload_n 16 0 dX11_clear_15 rfl rfl rfl ?_
  exact v_iretS h rfl dX11_clear_16
-- private int howMany(int);
abbrev rm_X11_howMany : Room := { frames := 3, cells := 0, slots := 0, locals := 60 }
theorem cl_X11_howMany : Cl yX11_howMany wsX11_howMany cX11_howMany 2 (some .int) rm_X11_howMany 1 := ⟨⟨_, rfl⟩, rfl, rfl, by decide +kernel, by decide +kernel, by decide +kernel⟩
theorem in_X11_howMany_7 : ∀ w ∈ wsX110, w ∈ wsX11_howMany := fun w h => List.mem_cons_of_mem _ (List.mem_append_left _ (List.mem_append_left _ (List.mem_append_left _ (List.mem_append_right _ h))))
theorem in_X11_howMany_0 : ∀ w ∈ wsX30, w ∈ wsX11_howMany := fun w h => List.mem_cons_of_mem _ (List.mem_append_left _ (List.mem_append_left _ (List.mem_append_right _ h)))
theorem in_X11_howMany_1 : ∀ w ∈ wsX40, w ∈ wsX11_howMany := fun w h => List.mem_cons_of_mem _ (List.mem_append_left _ (List.mem_append_right _ h))
def f_X11_howMany (σ : Sg) (l1 : Int32) : Option Int32 := (if l1 = 0 then (some (f_X3_keeperCount σ 1)) else (if l1 = 1 then (some (f_X7_size σ 8)) else (if l1 = 2 then (some (rI σ 18 0)) else (if l1 = 3 then (some (f_J6_bitCount_0f7a4 (rI σ 18 1))) else (if l1 = 4 then (f_X7_sumOf σ 19 (f_X3_allStones σ 1)).bind fun x1 => (some (x1)) else (if l1 = 5 then (some (f_X3_readingCount σ 1)) else (if l1 = 6 then (some (f_X3_noteCount σ 1)) else (if l1 = 7 then (some (f_X3_tippingCount σ 1)) else (if l1 = 8 then (some (f_X3_undoable σ 1)) else (some (f_X7_size σ 67)))))))))))
set_option maxRecDepth 100000 in
set_option maxHeartbeats 4000000 in
theorem c_X11_howMany {g : Cx} {σ : Sg} (l1 : Int32) (r : Int32) (h : f_X11_howMany σ l1 = some r) : ∀ l, MetF l yX11_howMany wsX11_howMany rm_X11_howMany g [.ref (g.1 0), .int l1] σ (some (.int r)) σ := by
  refine MetF.of (own0 := RX11) (lv0 := [(0, .ref (g.1 0)), (1, .int l1)]) rfl cl_X11_howMany (by decide) (Nat.le_of_ble_eq_true rfl) rfl ?_
  unfold f_X11_howMany at h
  refine v_iload_n 1 1 dX11_howMany_0 rfl rfl rfl ?_
  refine v_ite h (fun q h => ?_) (fun q0 h => ?_)
  · refine v_tabInZ 52 0 dX11_howMany_1 (ti_of q kc_ti_0) (by decide) (by decide) rfl (by decide) ?_
    refine v_aload_n 53 0 dX11_howMany_52 rfl rfl rfl ?_
    refine vg_7_0 56 (rfl : kK 0 = 7) in_X11_howMany_7 (mem_at 1 rfl) dX11_howMany_53 rfl ?_
    refine v_cV 59 0 [] (rfl : kK 1 = 0) rfl (c_X3_keeperCount 1 (rfl : kK 1 = 0)) cl_X3_keeperCount gX11_howMany_X3_keeperCount rfl ⟨Nat.le_of_ble_eq_true rfl, Nat.le_of_ble_eq_true rfl⟩ rfl rfl (Nat.le_of_ble_eq_true rfl) dX11_howMany_56 rfl ?_
    exact v_iretP h rfl dX11_howMany_59
  refine v_ite h (fun q h => ?_) (fun q1 h => ?_)
  · refine v_tabInZ 60 1 dX11_howMany_1 (ti_of q kc_ti_1) (by decide) (by decide) rfl (by decide) ?_
    refine v_aload_n 61 0 dX11_howMany_60 rfl rfl rfl ?_
    refine vg_7_0 64 (rfl : kK 0 = 7) in_X11_howMany_7 (mem_at 1 rfl) dX11_howMany_61 rfl ?_
    refine vg_0_3 67 8 (rfl : kK 1 = 0) in_X11_howMany_0 (mem_at 2 rfl) rfl dX11_howMany_64 rfl ?_
    refine v_cV 70 4 [] (rfl : kK 8 = 4) rfl (c_X7_size 8 (rfl : kK 8 = 4)) cl_X7_size gX11_howMany_X7_size rfl ⟨Nat.le_of_ble_eq_true rfl, Nat.le_of_ble_eq_true rfl⟩ rfl rfl (Nat.le_of_ble_eq_true rfl) dX11_howMany_67 rfl ?_
    exact v_iretP h rfl dX11_howMany_70
  refine v_ite h (fun q h => ?_) (fun q2 h => ?_)
  · refine v_tabInZ 71 2 dX11_howMany_1 (ti_of q kc_ti_2) (by decide) (by decide) rfl (by decide) ?_
    refine v_aload_n 72 0 dX11_howMany_71 rfl rfl rfl ?_
    refine vg_7_0 75 (rfl : kK 0 = 7) in_X11_howMany_7 (mem_at 1 rfl) dX11_howMany_72 rfl ?_
    refine vg_0_8 78 18 (rfl : kK 1 = 0) in_X11_howMany_0 (mem_at 3 rfl) rfl dX11_howMany_75 rfl ?_
    refine vg_1_0 81 (rfl : kK 18 = 1) in_X11_howMany_1 (mem_at 4 rfl) dX11_howMany_78 rfl ?_
    exact v_iretP h rfl dX11_howMany_81
  refine v_ite h (fun q h => ?_) (fun q3 h => ?_)
  · refine v_tabInZ 82 3 dX11_howMany_1 (ti_of q kc_ti_3) (by decide) (by decide) rfl (by decide) ?_
    refine v_aload_n 83 0 dX11_howMany_82 rfl rfl rfl ?_
    refine vg_7_0 86 (rfl : kK 0 = 7) in_X11_howMany_7 (mem_at 1 rfl) dX11_howMany_83 rfl ?_
    refine vg_0_8 89 18 (rfl : kK 1 = 0) in_X11_howMany_0 (mem_at 3 rfl) rfl dX11_howMany_86 rfl ?_
    refine vg_1_1 92 (rfl : kK 18 = 1) in_X11_howMany_1 (mem_at 5 rfl) dX11_howMany_89 rfl ?_
    refine v_cS 95 [.int (rI σ 18 1)] (c_J6_bitCount_0f7a4 (rI σ 18 1)) cl_J6_bitCount_0f7a4 gX11_howMany_J6_bitCount_0f7a4 ⟨Nat.le_of_ble_eq_true rfl, Nat.le_of_ble_eq_true rfl⟩ rfl rfl (Nat.le_of_ble_eq_true rfl) dX11_howMany_92 rfl ?_
    exact v_iretP h rfl dX11_howMany_95
  refine v_ite h (fun q h => ?_) (fun q4 h => ?_)
  · refine v_tabInZ 96 4 dX11_howMany_1 (ti_of q kc_ti_4) (by decide) (by decide) rfl (by decide) ?_
    refine v_aload_n 97 0 dX11_howMany_96 rfl rfl rfl ?_
    refine vg_7_0 100 (rfl : kK 0 = 7) in_X11_howMany_7 (mem_at 1 rfl) dX11_howMany_97 rfl ?_
    refine vg_0_8 103 18 (rfl : kK 1 = 0) in_X11_howMany_0 (mem_at 3 rfl) rfl dX11_howMany_100 rfl ?_
    refine vg_1_2 106 19 (rfl : kK 18 = 1) in_X11_howMany_1 (mem_at 6 rfl) rfl dX11_howMany_103 rfl ?_
    refine v_aload_n 107 0 dX11_howMany_106 rfl rfl rfl ?_
    refine vg_7_0 110 (rfl : kK 0 = 7) in_X11_howMany_7 (mem_at 1 rfl) dX11_howMany_107 rfl ?_
    refine v_cV 113 0 [] (rfl : kK 1 = 0) rfl (c_X3_allStones 1 (rfl : kK 1 = 0)) cl_X3_allStones gX11_howMany_X3_allStones rfl ⟨Nat.le_of_ble_eq_true rfl, Nat.le_of_ble_eq_true rfl⟩ rfl rfl (Nat.le_of_ble_eq_true rfl) dX11_howMany_110 rfl ?_
    obtain ⟨x1, h0, h⟩ := ob h
    refine v_cV 116 4 [.int (f_X3_allStones σ 1)] (rfl : kK 19 = 4) rfl (c_X7_sumOf 19 (f_X3_allStones σ 1) (rfl : kK 19 = 4) _ h0) cl_X7_sumOf gX11_howMany_X7_sumOf rfl ⟨Nat.le_of_ble_eq_true rfl, Nat.le_of_ble_eq_true rfl⟩ rfl rfl (Nat.le_of_ble_eq_true rfl) dX11_howMany_113 rfl ?_
    exact v_iretP h rfl dX11_howMany_116
  refine v_ite h (fun q h => ?_) (fun q5 h => ?_)
  · refine v_tabInZ 117 5 dX11_howMany_1 (ti_of q kc_ti_5) (by decide) (by decide) rfl (by decide) ?_
    refine v_aload_n 118 0 dX11_howMany_117 rfl rfl rfl ?_
    refine vg_7_0 121 (rfl : kK 0 = 7) in_X11_howMany_7 (mem_at 1 rfl) dX11_howMany_118 rfl ?_
    refine v_cV 124 0 [] (rfl : kK 1 = 0) rfl (c_X3_readingCount 1 (rfl : kK 1 = 0)) cl_X3_readingCount gX11_howMany_X3_readingCount rfl ⟨Nat.le_of_ble_eq_true rfl, Nat.le_of_ble_eq_true rfl⟩ rfl rfl (Nat.le_of_ble_eq_true rfl) dX11_howMany_121 rfl ?_
    exact v_iretP h rfl dX11_howMany_124
  refine v_ite h (fun q h => ?_) (fun q6 h => ?_)
  · refine v_tabInZ 125 6 dX11_howMany_1 (ti_of q kc_ti_6) (by decide) (by decide) rfl (by decide) ?_
    refine v_aload_n 126 0 dX11_howMany_125 rfl rfl rfl ?_
    refine vg_7_0 129 (rfl : kK 0 = 7) in_X11_howMany_7 (mem_at 1 rfl) dX11_howMany_126 rfl ?_
    refine v_cV 132 0 [] (rfl : kK 1 = 0) rfl (c_X3_noteCount 1 (rfl : kK 1 = 0)) cl_X3_noteCount gX11_howMany_X3_noteCount rfl ⟨Nat.le_of_ble_eq_true rfl, Nat.le_of_ble_eq_true rfl⟩ rfl rfl (Nat.le_of_ble_eq_true rfl) dX11_howMany_129 rfl ?_
    exact v_iretP h rfl dX11_howMany_132
  refine v_ite h (fun q h => ?_) (fun q7 h => ?_)
  · refine v_tabInZ 133 7 dX11_howMany_1 (ti_of q kc_ti_7) (by decide) (by decide) rfl (by decide) ?_
    refine v_aload_n 134 0 dX11_howMany_133 rfl rfl rfl ?_
    refine vg_7_0 137 (rfl : kK 0 = 7) in_X11_howMany_7 (mem_at 1 rfl) dX11_howMany_134 rfl ?_
    refine v_cV 140 0 [] (rfl : kK 1 = 0) rfl (c_X3_tippingCount 1 (rfl : kK 1 = 0)) cl_X3_tippingCount gX11_howMany_X3_tippingCount rfl ⟨Nat.le_of_ble_eq_true rfl, Nat.le_of_ble_eq_true rfl⟩ rfl rfl (Nat.le_of_ble_eq_true rfl) dX11_howMany_137 rfl ?_
    exact v_iretP h rfl dX11_howMany_140
  refine v_ite h (fun q h => ?_) (fun q8 h => ?_)
  · refine v_tabInZ 141 8 dX11_howMany_1 (ti_of q kc_ti_8) (by decide) (by decide) rfl (by decide) ?_
    refine v_aload_n 142 0 dX11_howMany_141 rfl rfl rfl ?_
    refine vg_7_0 145 (rfl : kK 0 = 7) in_X11_howMany_7 (mem_at 1 rfl) dX11_howMany_142 rfl ?_
    refine v_cV 148 0 [] (rfl : kK 1 = 0) rfl (c_X3_undoable 1 (rfl : kK 1 = 0)) cl_X3_undoable gX11_howMany_X3_undoable rfl ⟨Nat.le_of_ble_eq_true rfl, Nat.le_of_ble_eq_true rfl⟩ rfl rfl (Nat.le_of_ble_eq_true rfl) dX11_howMany_145 rfl ?_
    exact v_iretP h rfl dX11_howMany_148
  have a0 := ne_lit q0 kc_ti_0
  have a1 := ne_lit q1 kc_ti_1
  have a2 := ne_lit q2 kc_ti_2
  have a3 := ne_lit q3 kc_ti_3
  have a4 := ne_lit q4 kc_ti_4
  have a5 := ne_lit q5 kc_ti_5
  have a6 := ne_lit q6 kc_ti_6
  have a7 := ne_lit q7 kc_ti_7
  have a8 := ne_lit q8 kc_ti_8
  refine v_tabOut 149 dX11_howMany_1 (by omega) (by decide) ?_
  refine v_aload_n 150 0 dX11_howMany_149 rfl rfl rfl ?_
  refine vg_7_4 153 (rfl : kK 0 = 7) in_X11_howMany_7 (mem_at 7 rfl) dX11_howMany_150 rfl ?_
  refine v_cV 156 4 [] (rfl : kK 67 = 4) rfl (c_X7_size 67 (rfl : kK 67 = 4)) cl_X7_size gX11_howMany_X7_size rfl ⟨Nat.le_of_ble_eq_true rfl, Nat.le_of_ble_eq_true rfl⟩ rfl rfl (Nat.le_of_ble_eq_true rfl) dX11_howMany_153 rfl ?_
  exact v_iretP h rfl dX11_howMany_156
-- public int count(int);
abbrev rm_X11_count : Room := { frames := 4, cells := 0, slots := 0, locals := 81 }
theorem cl_X11_count : Cl yX11_count wsX11_count cX11_count 2 (some .int) rm_X11_count 1 := ⟨⟨_, rfl⟩, rfl, rfl, by decide +kernel, by decide +kernel, by decide +kernel⟩
def f_X11_count (σ : Sg) (l1 : Int32) : Option (Int32 × Sg) := (if (f_X11_between l1 0 9) = 0 then bnd (f_X11_refuseBad σ (-2)) fun x1 s2 => (some (x1, s2)) else (f_X11_howMany σ l1).bind fun x3 => (some (x3, σ)))
set_option maxRecDepth 100000 in
set_option maxHeartbeats 4000000 in
theorem c_X11_count {g : Cx} {σ : Sg} (l1 : Int32) (r : Int32) (τ : Sg) (h : f_X11_count σ l1 = some (r, τ)) : ∀ l, MetF l yX11_count wsX11_count rm_X11_count g [.ref (g.1 0), .int l1] σ (some (.int r)) τ := by
  refine MetF.of (own0 := RX11) (lv0 := [(0, .ref (g.1 0)), (1, .int l1)]) rfl cl_X11_count (by decide) (Nat.le_of_ble_eq_true rfl) rfl ?_
  unfold f_X11_count at h
  refine v_iload_n 1 1 dX11_count_0 rfl rfl rfl ?_
  refine v_iconst 2 0 dX11_count_1 kc_i_0 rfl ?_
  refine v_bipush 4 9 dX11_count_2 kc_b_9 rfl ?_
  refine v_cS 7 [.int l1, .int 0, .int 9] (c_X11_between l1 0 9) cl_X11_between gX11_count_X11_between ⟨Nat.le_of_ble_eq_true rfl, Nat.le_of_ble_eq_true rfl⟩ rfl rfl (Nat.le_of_ble_eq_true rfl) dX11_count_4 rfl ?_
  refine v_if_eq 10 18 h dX11_count_7 rfl (by decide) (fun h => ?_) (fun h => ?_)
  · refine v_aload_n 19 0 dX11_count_18 rfl rfl rfl ?_
    refine v_bipush 21 (-2) dX11_count_19 kc_b_m2 rfl ?_
    obtain ⟨x1, s2, h0, h⟩ := ob2 h
    refine v_cV 24 7 [.int (-2)] (rfl : kK 0 = 7) rfl (c_X11_refuseBad (-2) _ _ h0) cl_X11_refuseBad gX11_count_X11_refuseBad rfl ⟨Nat.le_of_ble_eq_true rfl, Nat.le_of_ble_eq_true rfl⟩ rfl rfl (Nat.le_of_ble_eq_true rfl) dX11_count_21 rfl ?_
    exact v_iretS h rfl dX11_count_24
  · refine v_aload_n 11 0 dX11_count_10 rfl rfl rfl ?_
    refine v_iload_n 12 1 dX11_count_11 rfl rfl rfl ?_
    obtain ⟨x3, h0, h⟩ := ob h
    refine v_cV 15 7 [.int l1] (rfl : kK 0 = 7) rfl (c_X11_howMany l1 _ h0) cl_X11_howMany gX11_count_X11_howMany rfl ⟨Nat.le_of_ble_eq_true rfl, Nat.le_of_ble_eq_true rfl⟩ rfl rfl (Nat.le_of_ble_eq_true rfl) dX11_count_12 rfl ?_
    refine v_goto 24 dX11_count_15 (by decide) ?_
    exact v_iretS h rfl dX11_count_24
-- public int day(int);
abbrev rm_X11_day : Room := { frames := 4, cells := 0, slots := 0, locals := 87 }
theorem cl_X11_day : Cl yX11_day wsX11_day cX11_day 2 (some .int) rm_X11_day 1 := ⟨⟨_, rfl⟩, rfl, rfl, by decide +kernel, by decide +kernel, by decide +kernel⟩
theorem in_X11_day_7 : ∀ w ∈ wsX110, w ∈ wsX11_day := fun w h => List.mem_cons_of_mem _ (List.mem_append_left _ (List.mem_append_left _ (List.mem_append_left _ (List.mem_append_right _ h))))
theorem in_X11_day_0 : ∀ w ∈ wsX30, w ∈ wsX11_day := fun w h => List.mem_cons_of_mem _ (List.mem_append_left _ (List.mem_append_left _ (List.mem_append_right _ h)))
theorem in_X11_day_1 : ∀ w ∈ wsX40, w ∈ wsX11_day := fun w h => List.mem_cons_of_mem _ (List.mem_append_left _ (List.mem_append_right _ h))
def f_X11_day (σ : Sg) (l1 : Int32) : Option (Int32 × Sg) := (if (f_X11_between l1 1 99) = 0 then bnd (f_X11_refuseBad σ (-2)) fun x4 s5 => (some (x4, s5)) else (f_X3_remember σ 1).bind fun s1 => (f_X3_passDays s1 1 l1).bind fun s2 => (f_X7_sumOf s2 19 (f_X3_allStones s2 1)).bind fun x3 => (some (x3, s2)))
set_option maxRecDepth 100000 in
set_option maxHeartbeats 4000000 in
theorem c_X11_day {g : Cx} {σ : Sg} (l1 : Int32) (r : Int32) (τ : Sg) (h : f_X11_day σ l1 = some (r, τ)) : ∀ l, MetF l yX11_day wsX11_day rm_X11_day g [.ref (g.1 0), .int l1] σ (some (.int r)) τ := by
  refine MetF.of (own0 := RX11) (lv0 := [(0, .ref (g.1 0)), (1, .int l1)]) rfl cl_X11_day (by decide) (Nat.le_of_ble_eq_true rfl) rfl ?_
  unfold f_X11_day at h
  refine v_iload_n 1 1 dX11_day_0 rfl rfl rfl ?_
  refine v_iconst 2 1 dX11_day_1 kc_i_1 rfl ?_
  refine v_bipush 4 99 dX11_day_2 kc_b_99 rfl ?_
  refine v_cS 7 [.int l1, .int 1, .int 99] (c_X11_between l1 1 99) cl_X11_between gX11_day_X11_between ⟨Nat.le_of_ble_eq_true rfl, Nat.le_of_ble_eq_true rfl⟩ rfl rfl (Nat.le_of_ble_eq_true rfl) dX11_day_4 rfl ?_
  refine v_if_ne 10 17 h dX11_day_7 rfl (by decide) (fun h => ?_) (fun h => ?_)
  · refine v_aload_n 18 0 dX11_day_17 rfl rfl rfl ?_
    refine vg_7_0 21 (rfl : kK 0 = 7) in_X11_day_7 (mem_at 1 rfl) dX11_day_18 rfl ?_
    obtain ⟨s1, h0, h⟩ := ob h
    refine v_cV 24 0 [] (rfl : kK 1 = 0) rfl (c_X3_remember 1 (rfl : kK 1 = 0) _ h0) cl_X3_remember gX11_day_X3_remember rfl ⟨Nat.le_of_ble_eq_true rfl, Nat.le_of_ble_eq_true rfl⟩ rfl rfl (Nat.le_of_ble_eq_true rfl) dX11_day_21 rfl ?_
    refine v_aload_n 25 0 dX11_day_24 rfl rfl rfl ?_
    refine vg_7_0 28 (rfl : kK 0 = 7) in_X11_day_7 (mem_at 1 rfl) dX11_day_25 rfl ?_
    refine v_iload_n 29 1 dX11_day_28 rfl rfl rfl ?_
    obtain ⟨s2, h0, h⟩ := ob h
    refine v_cV 32 0 [.int l1] (rfl : kK 1 = 0) rfl (c_X3_passDays 1 l1 (rfl : kK 1 = 0) _ h0) cl_X3_passDays gX11_day_X3_passDays rfl ⟨Nat.le_of_ble_eq_true rfl, Nat.le_of_ble_eq_true rfl⟩ rfl rfl (Nat.le_of_ble_eq_true rfl) dX11_day_29 rfl ?_
    refine v_aload_n 33 0 dX11_day_32 rfl rfl rfl ?_
    refine vg_7_0 36 (rfl : kK 0 = 7) in_X11_day_7 (mem_at 1 rfl) dX11_day_33 rfl ?_
    refine vg_0_8 39 18 (rfl : kK 1 = 0) in_X11_day_0 (mem_at 2 rfl) rfl dX11_day_36 rfl ?_
    refine vg_1_2 42 19 (rfl : kK 18 = 1) in_X11_day_1 (mem_at 3 rfl) rfl dX11_day_39 rfl ?_
    refine v_aload_n 43 0 dX11_day_42 rfl rfl rfl ?_
    refine vg_7_0 46 (rfl : kK 0 = 7) in_X11_day_7 (mem_at 1 rfl) dX11_day_43 rfl ?_
    refine v_cV 49 0 [] (rfl : kK 1 = 0) rfl (c_X3_allStones 1 (rfl : kK 1 = 0)) cl_X3_allStones gX11_day_X3_allStones rfl ⟨Nat.le_of_ble_eq_true rfl, Nat.le_of_ble_eq_true rfl⟩ rfl rfl (Nat.le_of_ble_eq_true rfl) dX11_day_46 rfl ?_
    obtain ⟨x3, h0, h⟩ := ob h
    refine v_cV 52 4 [.int (f_X3_allStones s2 1)] (rfl : kK 19 = 4) rfl (c_X7_sumOf 19 (f_X3_allStones s2 1) (rfl : kK 19 = 4) _ h0) cl_X7_sumOf gX11_day_X7_sumOf rfl ⟨Nat.le_of_ble_eq_true rfl, Nat.le_of_ble_eq_true rfl⟩ rfl rfl (Nat.le_of_ble_eq_true rfl) dX11_day_49 rfl ?_
    exact v_iretS h rfl dX11_day_52
  · refine v_aload_n 11 0 dX11_day_10 rfl rfl rfl ?_
    refine v_bipush 13 (-2) dX11_day_11 kc_b_m2 rfl ?_
    obtain ⟨x4, s5, h0, h⟩ := ob2 h
    refine v_cV 16 7 [.int (-2)] (rfl : kK 0 = 7) rfl (c_X11_refuseBad (-2) _ _ h0) cl_X11_refuseBad gX11_day_X11_refuseBad rfl ⟨Nat.le_of_ble_eq_true rfl, Nat.le_of_ble_eq_true rfl⟩ rfl rfl (Nat.le_of_ble_eq_true rfl) dX11_day_13 rfl ?_
    exact v_iretS h rfl dX11_day_16
-- public long digest();
abbrev rm_X11_digest : Room := { frames := 4, cells := 0, slots := 0, locals := 81 }
theorem cl_X11_digest : Cl yX11_digest wsX11_digest cX11_digest 5 (some .long) rm_X11_digest 0 := ⟨⟨_, rfl⟩, rfl, rfl, by decide +kernel, by decide +kernel, by decide +kernel⟩
theorem in_X11_digest_7 : ∀ w ∈ wsX110, w ∈ wsX11_digest := fun w h => List.mem_cons_of_mem _ (List.mem_append_left _ (List.mem_append_left _ (List.mem_append_left _ (List.mem_append_right _ h))))
theorem in_X11_digest_0 : ∀ w ∈ wsX30, w ∈ wsX11_digest := fun w h => List.mem_cons_of_mem _ (List.mem_append_left _ (List.mem_append_left _ (List.mem_append_right _ h)))
def b_X11_digest_47 (σ : Sg) (c33 : Int64 → Int32 → Option Int64) : Nat → Int64 → Int32 → Int32 → Option Int64
  | 0, _, _, _ => none
  | f + 1, l1, l3, l4 => (if 5 < l4 then nam (l3 + 1) fun x6 => c33 l1 x6 else (f_X3_toldOf σ 1 l3 l4).bind fun x7 => nam ((31 * l1) + (Int32.toInt64 x7)) fun x8 => nam (l4 + 1) fun x9 => b_X11_digest_47 σ c33 f x8 l3 x9)
def b_X11_digest_33 (σ : Sg) : Nat → Int64 → Int32 → Option Int64
  | 0, _, _ => none
  | f + 1, l1, l3 => (if (f_X3_keeperCount σ 1) ≤ l3 then (f_X7_mixedInto σ 8 l1).bind fun x1 => (f_X7_mixedInto σ 10 x1).bind fun x2 => (f_X7_mixedInto σ 12 x2).bind fun x3 => (f_X7_mixedInto σ 14 x3).bind fun x4 => nam ((31 * x4) + (rL σ 0 10)) fun x5 => (some ((31 * x5) + (rL σ 0 11))) else b_X11_digest_47 σ (b_X11_digest_33 σ f) FU l1 l3 0)
def b_X11_digest_6 (σ : Sg) : Nat → Int64 → Int32 → Option Int64
  | 0, _, _ => none
  | f + 1, l1, l3 => (if 9 < l3 then b_X11_digest_33 σ FU l1 0 else (f_X11_howMany σ l3).bind fun x10 => nam ((31 * l1) + (Int32.toInt64 x10)) fun x11 => nam (l3 + 1) fun x12 => b_X11_digest_6 σ f x11 x12)
def f_X11_digest (σ : Sg) : Option Int64 := b_X11_digest_6 σ FU 1481 0
set_option maxRecDepth 100000 in
set_option maxHeartbeats 4000000 in
theorem q_X11_digest_47 {g : Cx} (σ : Sg) (r : Int64) (c33 : Int64 → Int32 → Option Int64) (hc33 : ∀ l1 : Int64, ∀ l3 : Int32, c33 l1 l3 = some r → V g cX11_digest RX11 wsX11_digest 5 (some .long) rm_X11_digest (some (.long r)) σ σ 33 [(0, .ref (g.1 0)), (1, .long l1), (3, .int l3)] []) : ∀ f : Nat, ∀ l1 : Int64, ∀ l3 : Int32, ∀ l4 : Int32, b_X11_digest_47 σ c33 f l1 l3 l4 = some r → V g cX11_digest RX11 wsX11_digest 5 (some .long) rm_X11_digest (some (.long r)) σ σ 47 [(0, .ref (g.1 0)), (1, .long l1), (3, .int l3), (4, .int l4)] [] := by
  intro f
  induction f with
  | zero =>
    intro l1 l3 l4 h
    cases h
  | succ f ih =>
    intro l1 l3 l4 h
    rw [b_X11_digest_47] at h
    refine v_iload 49 3 dX11_digest_47 rfl rfl ?_
    refine v_iconst 50 5 dX11_digest_49 kc_i_5 rfl ?_
    refine v_icmp_gt 53 77 h dX11_digest_50 rfl (by decide) (fun h => ?_) (fun h => ?_)
    · refine v_iincN 80 2 h dX11_digest_77 rfl kc_i_1 (by decide) rfl (fun _ => rfl) (fun x6 h => ?_)
      refine v_goto 33 dX11_digest_80 (by decide) ?_
      refine v_sub [1, 2, 0] rfl ?_
      exact hc33 l1 x6 h
    · refine v_ldc2 56 31 dX11_digest_53 (mem_at 2 rfl) rfl ?_
      refine v_lload_n 57 1 dX11_digest_56 rfl rfl rfl ?_
      refine v_lmul 58 dX11_digest_57 rfl ?_
      refine v_aload_n 59 0 dX11_digest_58 rfl rfl rfl ?_
      refine vg_7_0 62 (rfl : kK 0 = 7) in_X11_digest_7 (mem_at 3 rfl) dX11_digest_59 rfl ?_
      refine v_iload_n 63 2 dX11_digest_62 rfl rfl rfl ?_
      refine v_iload 65 3 dX11_digest_63 rfl rfl ?_
      obtain ⟨x7, h0, h⟩ := ob h
      refine v_cV 68 0 [.int l3, .int l4] (rfl : kK 1 = 0) rfl (c_X3_toldOf 1 l3 l4 (rfl : kK 1 = 0) _ h0) cl_X3_toldOf gX11_digest_X3_toldOf rfl ⟨Nat.le_of_ble_eq_true rfl, Nat.le_of_ble_eq_true rfl⟩ rfl rfl (Nat.le_of_ble_eq_true rfl) dX11_digest_65 rfl ?_
      refine v_i2l 69 dX11_digest_68 rfl ?_
      refine v_ladd 70 dX11_digest_69 rfl ?_
      refine v_lstoreN_n 71 h dX11_digest_70 rfl (by decide) rfl (fun _ => rfl) (fun x8 h => ?_)
      refine v_iincN 74 3 h dX11_digest_71 rfl kc_i_1 (by decide) rfl (fun _ => rfl) (fun x9 h => ?_)
      refine v_goto 47 dX11_digest_74 (by decide) ?_
      refine v_sub [2, 1, 3, 0] rfl ?_
      exact ih x8 l3 x9 h
set_option maxRecDepth 100000 in
set_option maxHeartbeats 4000000 in
theorem q_X11_digest_33 {g : Cx} (σ : Sg) (r : Int64) : ∀ f : Nat, ∀ l1 : Int64, ∀ l3 : Int32, b_X11_digest_33 σ f l1 l3 = some r → V g cX11_digest RX11 wsX11_digest 5 (some .long) rm_X11_digest (some (.long r)) σ σ 33 [(0, .ref (g.1 0)), (1, .long l1), (3, .int l3)] [] := by
  intro f
  induction f with
  | zero =>
    intro l1 l3 h
    cases h
  | succ f ih =>
    intro l1 l3 h
    rw [b_X11_digest_33] at h
    refine v_iload_n 34 2 dX11_digest_33 rfl rfl rfl ?_
    refine v_aload_n 35 0 dX11_digest_34 rfl rfl rfl ?_
    refine vg_7_0 38 (rfl : kK 0 = 7) in_X11_digest_7 (mem_at 3 rfl) dX11_digest_35 rfl ?_
    refine v_cV 41 0 [] (rfl : kK 1 = 0) rfl (c_X3_keeperCount 1 (rfl : kK 1 = 0)) cl_X3_keeperCount gX11_digest_X3_keeperCount rfl ⟨Nat.le_of_ble_eq_true rfl, Nat.le_of_ble_eq_true rfl⟩ rfl rfl (Nat.le_of_ble_eq_true rfl) dX11_digest_38 rfl ?_
    refine v_icmp_ge 44 83 h dX11_digest_41 rfl (by decide) (fun h => ?_) (fun h => ?_)
    · refine v_aload_n 84 0 dX11_digest_83 rfl rfl rfl ?_
      refine vg_7_0 87 (rfl : kK 0 = 7) in_X11_digest_7 (mem_at 3 rfl) dX11_digest_84 rfl ?_
      refine vg_0_3 90 8 (rfl : kK 1 = 0) in_X11_digest_0 (mem_at 4 rfl) rfl dX11_digest_87 rfl ?_
      refine v_lload_n 91 1 dX11_digest_90 rfl rfl rfl ?_
      obtain ⟨x1, h0, h⟩ := ob h
      refine v_cV 94 4 [.long l1] (rfl : kK 8 = 4) rfl (c_X7_mixedInto 8 l1 (rfl : kK 8 = 4) _ h0) cl_X7_mixedInto gX11_digest_X7_mixedInto rfl ⟨Nat.le_of_ble_eq_true rfl, Nat.le_of_ble_eq_true rfl⟩ rfl rfl (Nat.le_of_ble_eq_true rfl) dX11_digest_91 rfl ?_
      refine v_lstore_n 95 dX11_digest_94 rfl (by decide) rfl rfl ?_
      refine v_aload_n 96 1 dX11_digest_95 rfl rfl rfl ?_
      refine vg_7_0 99 (rfl : kK 0 = 7) in_X11_digest_7 (mem_at 3 rfl) dX11_digest_96 rfl ?_
      refine vg_0_4 102 10 (rfl : kK 1 = 0) in_X11_digest_0 (mem_at 5 rfl) rfl dX11_digest_99 rfl ?_
      refine v_lload_n 103 0 dX11_digest_102 rfl rfl rfl ?_
      obtain ⟨x2, h0, h⟩ := ob h
      refine v_cV 106 4 [.long x1] (rfl : kK 10 = 4) rfl (c_X7_mixedInto 10 x1 (rfl : kK 10 = 4) _ h0) cl_X7_mixedInto gX11_digest_X7_mixedInto rfl ⟨Nat.le_of_ble_eq_true rfl, Nat.le_of_ble_eq_true rfl⟩ rfl rfl (Nat.le_of_ble_eq_true rfl) dX11_digest_103 rfl ?_
      refine v_lstore_n 107 dX11_digest_106 rfl (by decide) rfl rfl ?_
      refine v_aload_n 108 1 dX11_digest_107 rfl rfl rfl ?_
      refine vg_7_0 111 (rfl : kK 0 = 7) in_X11_digest_7 (mem_at 3 rfl) dX11_digest_108 rfl ?_
      refine vg_0_5 114 12 (rfl : kK 1 = 0) in_X11_digest_0 (mem_at 6 rfl) rfl dX11_digest_111 rfl ?_
      refine v_lload_n 115 0 dX11_digest_114 rfl rfl rfl ?_
      obtain ⟨x3, h0, h⟩ := ob h
      refine v_cV 118 4 [.long x2] (rfl : kK 12 = 4) rfl (c_X7_mixedInto 12 x2 (rfl : kK 12 = 4) _ h0) cl_X7_mixedInto gX11_digest_X7_mixedInto rfl ⟨Nat.le_of_ble_eq_true rfl, Nat.le_of_ble_eq_true rfl⟩ rfl rfl (Nat.le_of_ble_eq_true rfl) dX11_digest_115 rfl ?_
      refine v_lstore_n 119 dX11_digest_118 rfl (by decide) rfl rfl ?_
      refine v_aload_n 120 1 dX11_digest_119 rfl rfl rfl ?_
      refine vg_7_0 123 (rfl : kK 0 = 7) in_X11_digest_7 (mem_at 3 rfl) dX11_digest_120 rfl ?_
      refine vg_0_6 126 14 (rfl : kK 1 = 0) in_X11_digest_0 (mem_at 7 rfl) rfl dX11_digest_123 rfl ?_
      refine v_lload_n 127 0 dX11_digest_126 rfl rfl rfl ?_
      obtain ⟨x4, h0, h⟩ := ob h
      refine v_cV 130 4 [.long x3] (rfl : kK 14 = 4) rfl (c_X7_mixedInto 14 x3 (rfl : kK 14 = 4) _ h0) cl_X7_mixedInto gX11_digest_X7_mixedInto rfl ⟨Nat.le_of_ble_eq_true rfl, Nat.le_of_ble_eq_true rfl⟩ rfl rfl (Nat.le_of_ble_eq_true rfl) dX11_digest_127 rfl ?_
      refine v_lstore_n 131 dX11_digest_130 rfl (by decide) rfl rfl ?_
      refine v_ldc2 134 31 dX11_digest_131 (mem_at 2 rfl) rfl ?_
      refine v_lload_n 135 0 dX11_digest_134 rfl rfl rfl ?_
      refine v_lmul 136 dX11_digest_135 rfl ?_
      refine v_aload_n 137 1 dX11_digest_136 rfl rfl rfl ?_
      refine vg_7_10 140 (rfl : kK 0 = 7) in_X11_digest_7 (mem_at 8 rfl) dX11_digest_137 rfl ?_
      refine v_ladd 141 dX11_digest_140 rfl ?_
      refine v_lstoreN_n 142 h dX11_digest_141 rfl (by decide) rfl (fun _ => rfl) (fun x5 h => ?_)
      refine v_ldc2 145 31 dX11_digest_142 (mem_at 2 rfl) rfl ?_
      refine v_lload_n 146 0 dX11_digest_145 rfl rfl rfl ?_
      refine v_lmul 147 dX11_digest_146 rfl ?_
      refine v_aload_n 148 1 dX11_digest_147 rfl rfl rfl ?_
      refine vg_7_11 151 (rfl : kK 0 = 7) in_X11_digest_7 (mem_at 9 rfl) dX11_digest_148 rfl ?_
      refine v_ladd 152 dX11_digest_151 rfl ?_
      exact v_lretP h rfl dX11_digest_152
    · refine v_iconst 45 0 dX11_digest_44 kc_i_0 rfl ?_
      refine v_istore 47 dX11_digest_45 (by decide) rfl rfl ?_
      refine v_sub [1, 2, 3, 0] rfl ?_
      exact q_X11_digest_47 σ r (b_X11_digest_33 σ f) ih FU l1 l3 0 h
set_option maxRecDepth 100000 in
set_option maxHeartbeats 4000000 in
theorem q_X11_digest_6 {g : Cx} (σ : Sg) (r : Int64) : ∀ f : Nat, ∀ l1 : Int64, ∀ l3 : Int32, b_X11_digest_6 σ f l1 l3 = some r → V g cX11_digest RX11 wsX11_digest 5 (some .long) rm_X11_digest (some (.long r)) σ σ 6 [(0, .ref (g.1 0)), (1, .long l1), (3, .int l3)] [] := by
  intro f
  induction f with
  | zero =>
    intro l1 l3 h
    cases h
  | succ f ih =>
    intro l1 l3 h
    rw [b_X11_digest_6] at h
    refine v_iload_n 7 2 dX11_digest_6 rfl rfl rfl ?_
    refine v_bipush 9 9 dX11_digest_7 kc_b_9 rfl ?_
    refine v_icmp_gt 12 31 h dX11_digest_9 rfl (by decide) (fun h => ?_) (fun h => ?_)
    · refine v_iconst 32 0 dX11_digest_31 kc_i_0 rfl ?_
      refine v_istore_n 33 dX11_digest_32 rfl (by decide) rfl rfl ?_
      refine v_sub [1, 2, 0] rfl ?_
      exact q_X11_digest_33 σ r FU l1 0 h
    · refine v_ldc2 15 31 dX11_digest_12 (mem_at 2 rfl) rfl ?_
      refine v_lload_n 16 1 dX11_digest_15 rfl rfl rfl ?_
      refine v_lmul 17 dX11_digest_16 rfl ?_
      refine v_aload_n 18 0 dX11_digest_17 rfl rfl rfl ?_
      refine v_iload_n 19 2 dX11_digest_18 rfl rfl rfl ?_
      obtain ⟨x10, h0, h⟩ := ob h
      refine v_cV 22 7 [.int l3] (rfl : kK 0 = 7) rfl (c_X11_howMany l3 _ h0) cl_X11_howMany gX11_digest_X11_howMany rfl ⟨Nat.le_of_ble_eq_true rfl, Nat.le_of_ble_eq_true rfl⟩ rfl rfl (Nat.le_of_ble_eq_true rfl) dX11_digest_19 rfl ?_
      refine v_i2l 23 dX11_digest_22 rfl ?_
      refine v_ladd 24 dX11_digest_23 rfl ?_
      refine v_lstoreN_n 25 h dX11_digest_24 rfl (by decide) rfl (fun _ => rfl) (fun x11 h => ?_)
      refine v_iincN 28 2 h dX11_digest_25 rfl kc_i_1 (by decide) rfl (fun _ => rfl) (fun x12 h => ?_)
      refine v_goto 6 dX11_digest_28 (by decide) ?_
      refine v_sub [2, 1, 0] rfl ?_
      exact ih x11 x12 h
set_option maxRecDepth 100000 in
set_option maxHeartbeats 4000000 in
theorem c_X11_digest {g : Cx} {σ : Sg} (r : Int64) (h : f_X11_digest σ = some r) : ∀ l, MetF l yX11_digest wsX11_digest rm_X11_digest g [.ref (g.1 0)] σ (some (.long r)) σ := by
  refine MetF.of (own0 := RX11) (lv0 := [(0, .ref (g.1 0))]) rfl cl_X11_digest (by decide) (Nat.le_of_ble_eq_true rfl) rfl ?_
  unfold f_X11_digest at h
  refine v_ldc2 3 1481 dX11_digest_0 (mem_at 1 rfl) rfl ?_
  refine v_lstore_n 4 dX11_digest_3 rfl (by decide) rfl rfl ?_
  refine v_iconst 5 0 dX11_digest_4 kc_i_0 rfl ?_
  refine v_istore_n 6 dX11_digest_5 rfl (by decide) rfl rfl ?_
  refine v_sub [2, 1, 0] rfl ?_
  exact q_X11_digest_6 σ r FU 1481 0 h
-- public int forget(int);
abbrev rm_X11_forget : Room := { frames := 4, cells := 0, slots := 0, locals := 81 }
theorem cl_X11_forget : Cl yX11_forget wsX11_forget cX11_forget 4 (some .int) rm_X11_forget 1 := ⟨⟨_, rfl⟩, rfl, rfl, by decide +kernel, by decide +kernel, by decide +kernel⟩
theorem in_X11_forget_7 : ∀ w ∈ wsX110, w ∈ wsX11_forget := fun w h => List.mem_cons_of_mem _ (List.mem_append_left _ (List.mem_append_left _ (List.mem_append_left _ (List.mem_append_right _ h))))
theorem in_X11_forget_0 : ∀ w ∈ wsX30, w ∈ wsX11_forget := fun w h => List.mem_cons_of_mem _ (List.mem_append_left _ (List.mem_append_left _ (List.mem_append_right _ h)))
def b_X11_forget_60 (l1 : Int32) (σ : Sg) (l2 : Int32) (t0 : Nat) : Option (Int32 × Sg) := (f_X7_restart σ t0).bind fun s2 => (some (l2, s2))
def f_X11_forget (σ : Sg) (l1 : Int32) : Option (Int32 × Sg) := (if (f_X11_between l1 0 2) = 0 then bnd (f_X11_refuseBad σ (-2)) fun x3 s4 => (some (x3, s4)) else (f_X11_howMany σ (5 + l1)).bind fun x1 => (if l1 = 0 then b_X11_forget_60 l1 σ x1 10 else (if l1 = 1 then b_X11_forget_60 l1 σ x1 12 else b_X11_forget_60 l1 σ x1 14)))
set_option maxRecDepth 100000 in
set_option maxHeartbeats 4000000 in
theorem q_X11_forget_60 {g : Cx} (l1 : Int32) (r : Int32) (τ : Sg) : ∀ σ : Sg, ∀ l2 : Int32, ∀ t0 : Nat, (kK t0 = 4) → b_X11_forget_60 l1 σ l2 t0 = some (r, τ) → V g cX11_forget RX11 wsX11_forget 4 (some .int) rm_X11_forget (some (.int r)) τ σ 60 [(2, .int l2)] [.ref (g.1 t0)] := by
  intro σ l2 t0 ht0 h
  unfold b_X11_forget_60 at h
  refine v_astore_n 61 dX11_forget_60 rfl (by decide) rfl rfl ?_
  refine v_aload_n 62 0 dX11_forget_61 rfl rfl rfl ?_
  obtain ⟨s2, h0, h⟩ := ob h
  refine v_cV 65 4 [] ht0 rfl (c_X7_restart t0 ht0 _ h0) cl_X7_restart gX11_forget_X7_restart rfl ⟨Nat.le_of_ble_eq_true rfl, Nat.le_of_ble_eq_true rfl⟩ rfl rfl (Nat.le_of_ble_eq_true rfl) dX11_forget_62 rfl ?_
  refine v_iload_n 66 1 dX11_forget_65 rfl rfl rfl ?_
  exact v_iretS h rfl dX11_forget_66
set_option maxRecDepth 100000 in
set_option maxHeartbeats 4000000 in
theorem c_X11_forget {g : Cx} {σ : Sg} (l1 : Int32) (r : Int32) (τ : Sg) (h : f_X11_forget σ l1 = some (r, τ)) : ∀ l, MetF l yX11_forget wsX11_forget rm_X11_forget g [.ref (g.1 0), .int l1] σ (some (.int r)) τ := by
  refine MetF.of (own0 := RX11) (lv0 := [(0, .ref (g.1 0)), (1, .int l1)]) rfl cl_X11_forget (by decide) (Nat.le_of_ble_eq_true rfl) rfl ?_
  unfold f_X11_forget at h
  refine v_iload_n 1 1 dX11_forget_0 rfl rfl rfl ?_
  refine v_iconst 2 0 dX11_forget_1 kc_i_0 rfl ?_
  refine v_iconst 3 2 dX11_forget_2 kc_i_2 rfl ?_
  refine v_cS 6 [.int l1, .int 0, .int 2] (c_X11_between l1 0 2) cl_X11_between gX11_forget_X11_between ⟨Nat.le_of_ble_eq_true rfl, Nat.le_of_ble_eq_true rfl⟩ rfl rfl (Nat.le_of_ble_eq_true rfl) dX11_forget_3 rfl ?_
  refine v_if_ne 9 16 h dX11_forget_6 rfl (by decide) (fun h => ?_) (fun h => ?_)
  · refine v_aload_n 17 0 dX11_forget_16 rfl rfl rfl ?_
    refine v_iconst 18 5 dX11_forget_17 kc_i_5 rfl ?_
    refine v_iload_n 19 1 dX11_forget_18 rfl rfl rfl ?_
    refine v_iadd 20 dX11_forget_19 rfl ?_
    obtain ⟨x1, h0, h⟩ := ob h
    refine v_cV 23 7 [.int (5 + l1)] (rfl : kK 0 = 7) rfl (c_X11_howMany (5 + l1) _ h0) cl_X11_howMany gX11_forget_X11_howMany rfl ⟨Nat.le_of_ble_eq_true rfl, Nat.le_of_ble_eq_true rfl⟩ rfl rfl (Nat.le_of_ble_eq_true rfl) dX11_forget_20 rfl ?_
    refine v_istore_n 24 dX11_forget_23 rfl (by decide) rfl rfl ?_
    refine v_iload_n 25 2 dX11_forget_24 rfl rfl rfl ?_
    refine v_if_ne 28 38 h dX11_forget_25 rfl (by decide) (fun h => ?_) (fun h => ?_)
    · refine v_iload_n 39 2 dX11_forget_38 rfl rfl rfl ?_
      refine v_iconst 40 1 dX11_forget_39 kc_i_1 rfl ?_
      refine v_icmp_ne 43 53 h dX11_forget_40 rfl (by decide) (fun h => ?_) (fun h => ?_)
      · refine v_aload_n 54 1 dX11_forget_53 rfl rfl rfl ?_
        refine vg_7_0 57 (rfl : kK 0 = 7) in_X11_forget_7 (mem_at 1 rfl) dX11_forget_54 rfl ?_
        refine vg_0_6 60 14 (rfl : kK 1 = 0) in_X11_forget_0 (mem_at 4 rfl) rfl dX11_forget_57 rfl ?_
        refine v_sub [0] rfl ?_
        exact q_X11_forget_60 l1 r τ σ x1 14 (rfl : kK 14 = 4) h
      · refine v_aload_n 44 1 dX11_forget_43 rfl rfl rfl ?_
        refine vg_7_0 47 (rfl : kK 0 = 7) in_X11_forget_7 (mem_at 1 rfl) dX11_forget_44 rfl ?_
        refine vg_0_5 50 12 (rfl : kK 1 = 0) in_X11_forget_0 (mem_at 3 rfl) rfl dX11_forget_47 rfl ?_
        refine v_goto 60 dX11_forget_50 (by decide) ?_
        refine v_sub [0] rfl ?_
        exact q_X11_forget_60 l1 r τ σ x1 12 (rfl : kK 12 = 4) h
    · refine v_aload_n 29 1 dX11_forget_28 rfl rfl rfl ?_
      refine vg_7_0 32 (rfl : kK 0 = 7) in_X11_forget_7 (mem_at 1 rfl) dX11_forget_29 rfl ?_
      refine vg_0_4 35 10 (rfl : kK 1 = 0) in_X11_forget_0 (mem_at 2 rfl) rfl dX11_forget_32 rfl ?_
      refine v_goto 60 dX11_forget_35 (by decide) ?_
      refine v_sub [0] rfl ?_
      exact q_X11_forget_60 l1 r τ σ x1 10 (rfl : kK 10 = 4) h
  · refine v_aload_n 10 0 dX11_forget_9 rfl rfl rfl ?_
    refine v_bipush 12 (-2) dX11_forget_10 kc_b_m2 rfl ?_
    obtain ⟨x3, s4, h0, h⟩ := ob2 h
    refine v_cV 15 7 [.int (-2)] (rfl : kK 0 = 7) rfl (c_X11_refuseBad (-2) _ _ h0) cl_X11_refuseBad gX11_forget_X11_refuseBad rfl ⟨Nat.le_of_ble_eq_true rfl, Nat.le_of_ble_eq_true rfl⟩ rfl rfl (Nat.le_of_ble_eq_true rfl) dX11_forget_12 rfl ?_
    exact v_iretS h rfl dX11_forget_15
-- imageNumber(int)
abbrev rm_X11_imageNumber : Room := { frames := 0, cells := 0, slots := 0, locals := 0 }
theorem cl_X11_imageNumber : Cl yX11_imageNumber wsX11_imageNumber cX11_imageNumber 2 (some (.object "WidowWeight$Market")) rm_X11_imageNumber 1 := ⟨⟨_, rfl⟩, rfl, rfl, by decide +kernel, by decide +kernel, by decide +kernel⟩
theorem in_X11_imageNumber_7 : ∀ w ∈ wsX110, w ∈ wsX11_imageNumber := fun w h => List.mem_cons_of_mem _ (List.mem_append_right _ h)
def f_X11_imageNumber (l1 : Int32) : Nat := if l1 = 0 then 23 else 45
theorem kim (l1 : Int32) : kK (f_X11_imageNumber l1) = 0 := by
  unfold f_X11_imageNumber
  split <;> rfl
set_option maxRecDepth 100000 in
set_option maxHeartbeats 4000000 in
theorem c_X11_imageNumber {g : Cx} {σ : Sg} (l1 : Int32) : ∀ l, MetF l yX11_imageNumber wsX11_imageNumber rm_X11_imageNumber g [.ref (g.1 0), .int l1] σ (some (.ref (g.1 (f_X11_imageNumber l1)))) σ := by
  have main : ∀ r : Nat, (if l1 = 0 then 23 else 45) = r → ∀ l, MetF l yX11_imageNumber wsX11_imageNumber rm_X11_imageNumber g [.ref (g.1 0), .int l1] σ (some (.ref (g.1 r))) σ := by
    intro r h
    refine MetF.of (own0 := RX11) (lv0 := [(0, .ref (g.1 0)), (1, .int l1)]) rfl cl_X11_imageNumber (by decide) (Nat.le_of_ble_eq_true rfl) rfl ?_
    refine v_iload_n 1 1 dX11_imageNumber_0 rfl rfl rfl ?_
    refine v_if_ne 4 11 h dX11_imageNumber_1 rfl (by decide) (fun h => ?_) (fun h => ?_)
    · subst h
      refine v_aload_n 12 0 dX11_imageNumber_11 rfl rfl rfl ?_
      refine vg_7_2 15 (rfl : kK 0 = 7) in_X11_imageNumber_7 (mem_at 2 rfl) dX11_imageNumber_12 rfl ?_
      exact v_aret rfl dX11_imageNumber_15
    · subst h
      refine v_aload_n 5 0 dX11_imageNumber_4 rfl rfl rfl ?_
      refine vg_7_1 8 (rfl : kK 0 = 7) in_X11_imageNumber_7 (mem_at 1 rfl) dX11_imageNumber_5 rfl ?_
      refine v_goto 15 dX11_imageNumber_8 (by decide) ?_
      exact v_aret rfl dX11_imageNumber_15
  exact main _ rfl

-- public int from(int);
abbrev rm_X11_from : Room := { frames := 4, cells := 0, slots := 0, locals := 85 }
theorem cl_X11_from : Cl yX11_from wsX11_from cX11_from 2 (some .int) rm_X11_from 1 := ⟨⟨_, rfl⟩, rfl, rfl, by decide +kernel, by decide +kernel, by decide +kernel⟩
theorem in_X11_from_7 : ∀ w ∈ wsX110, w ∈ wsX11_from := fun w h => List.mem_cons_of_mem _ (List.mem_append_left _ (List.mem_append_left _ (List.mem_append_left _ (List.mem_append_right _ h))))
def f_X11_from (σ : Sg) (l1 : Int32) : Option (Int32 × Sg) := (if (f_X11_between l1 0 1) = 0 then bnd (f_X11_refuseBad σ (-2)) fun x4 s5 => (some (x4, s5)) else (if (f_X11_hasBit (rI σ 0 3) l1) = 0 then bnd (f_X11_refuseNo σ) fun x2 s3 => (some (x2, s3)) else (f_X3_take σ 1 (f_X11_imageNumber l1)).bind fun s1 => (some (1, s1))))
set_option maxRecDepth 100000 in
set_option maxHeartbeats 4000000 in
theorem c_X11_from {g : Cx} {σ : Sg} (l1 : Int32) (r : Int32) (τ : Sg) (h : f_X11_from σ l1 = some (r, τ)) : ∀ l, MetF l yX11_from wsX11_from rm_X11_from g [.ref (g.1 0), .int l1] σ (some (.int r)) τ := by
  refine MetF.of (own0 := RX11) (lv0 := [(0, .ref (g.1 0)), (1, .int l1)]) rfl cl_X11_from (by decide) (Nat.le_of_ble_eq_true rfl) rfl ?_
  unfold f_X11_from at h
  refine v_iload_n 1 1 dX11_from_0 rfl rfl rfl ?_
  refine v_iconst 2 0 dX11_from_1 kc_i_0 rfl ?_
  refine v_iconst 3 1 dX11_from_2 kc_i_1 rfl ?_
  refine v_cS 6 [.int l1, .int 0, .int 1] (c_X11_between l1 0 1) cl_X11_between gX11_from_X11_between ⟨Nat.le_of_ble_eq_true rfl, Nat.le_of_ble_eq_true rfl⟩ rfl rfl (Nat.le_of_ble_eq_true rfl) dX11_from_3 rfl ?_
  refine v_if_ne 9 16 h dX11_from_6 rfl (by decide) (fun h => ?_) (fun h => ?_)
  · refine v_aload_n 17 0 dX11_from_16 rfl rfl rfl ?_
    refine vg_7_3 20 (rfl : kK 0 = 7) in_X11_from_7 (mem_at 1 rfl) dX11_from_17 rfl ?_
    refine v_iload_n 21 1 dX11_from_20 rfl rfl rfl ?_
    refine v_cS 24 [.int (rI σ 0 3), .int l1] (c_X11_hasBit (rI σ 0 3) l1) cl_X11_hasBit gX11_from_X11_hasBit ⟨Nat.le_of_ble_eq_true rfl, Nat.le_of_ble_eq_true rfl⟩ rfl rfl (Nat.le_of_ble_eq_true rfl) dX11_from_21 rfl ?_
    refine v_if_ne 27 32 h dX11_from_24 rfl (by decide) (fun h => ?_) (fun h => ?_)
    · refine v_aload_n 33 0 dX11_from_32 rfl rfl rfl ?_
      refine vg_7_0 36 (rfl : kK 0 = 7) in_X11_from_7 (mem_at 2 rfl) dX11_from_33 rfl ?_
      refine v_aload_n 37 0 dX11_from_36 rfl rfl rfl ?_
      refine v_iload_n 38 1 dX11_from_37 rfl rfl rfl ?_
      refine v_cV 41 7 [.int l1] (rfl : kK 0 = 7) rfl (c_X11_imageNumber l1) cl_X11_imageNumber gX11_from_X11_imageNumber rfl ⟨Nat.le_of_ble_eq_true rfl, Nat.le_of_ble_eq_true rfl⟩ rfl rfl (Nat.le_of_ble_eq_true rfl) dX11_from_38 rfl ?_
      obtain ⟨s1, h0, h⟩ := ob h
      refine v_cV 44 0 [.ref (g.1 (f_X11_imageNumber l1))] (rfl : kK 1 = 0) rfl (c_X3_take 1 (f_X11_imageNumber l1) (rfl : kK 1 = 0) (kim l1) _ h0) cl_X3_take gX11_from_X3_take rfl ⟨Nat.le_of_ble_eq_true rfl, Nat.le_of_ble_eq_true rfl⟩ rfl rfl (Nat.le_of_ble_eq_true rfl) dX11_from_41 rfl ?_
      refine v_iconst 45 1 dX11_from_44 kc_i_1 rfl ?_
      exact v_iretS h rfl dX11_from_45
    · refine v_aload_n 28 0 dX11_from_27 rfl rfl rfl ?_
      obtain ⟨x2, s3, h0, h⟩ := ob2 h
      refine v_cV 31 7 [] (rfl : kK 0 = 7) rfl (c_X11_refuseNo _ _ h0) cl_X11_refuseNo gX11_from_X11_refuseNo rfl ⟨Nat.le_of_ble_eq_true rfl, Nat.le_of_ble_eq_true rfl⟩ rfl rfl (Nat.le_of_ble_eq_true rfl) dX11_from_28 rfl ?_
      exact v_iretS h rfl dX11_from_31
  · refine v_aload_n 10 0 dX11_from_9 rfl rfl rfl ?_
    refine v_bipush 12 (-2) dX11_from_10 kc_b_m2 rfl ?_
    obtain ⟨x4, s5, h0, h⟩ := ob2 h
    refine v_cV 15 7 [.int (-2)] (rfl : kK 0 = 7) rfl (c_X11_refuseBad (-2) _ _ h0) cl_X11_refuseBad gX11_from_X11_refuseBad rfl ⟨Nat.le_of_ble_eq_true rfl, Nat.le_of_ble_eq_true rfl⟩ rfl rfl (Nat.le_of_ble_eq_true rfl) dX11_from_12 rfl ?_
    exact v_iretS h rfl dX11_from_15
-- public int gain(int, int);
abbrev rm_X11_gain : Room := { frames := 4, cells := 0, slots := 0, locals := 98 }
theorem cl_X11_gain : Cl yX11_gain wsX11_gain cX11_gain 3 (some .int) rm_X11_gain 2 := ⟨⟨_, rfl⟩, rfl, rfl, by decide +kernel, by decide +kernel, by decide +kernel⟩
theorem in_X11_gain_7 : ∀ w ∈ wsX110, w ∈ wsX11_gain := fun w h => List.mem_cons_of_mem _ (List.mem_append_left _ (List.mem_append_left _ (List.mem_append_left _ (List.mem_append_left _ (List.mem_append_right _ h)))))
theorem in_X11_gain_2 : ∀ w ∈ wsX50, w ∈ wsX11_gain := fun w h => List.mem_cons_of_mem _ (List.mem_append_left _ (List.mem_append_right _ h))
theorem in_X11_gain_0 : ∀ w ∈ wsX30, w ∈ wsX11_gain := fun w h => List.mem_cons_of_mem _ (List.mem_append_left _ (List.mem_append_left _ (List.mem_append_left _ (List.mem_append_right _ h))))
theorem in_X11_gain_1 : ∀ w ∈ wsX40, w ∈ wsX11_gain := fun w h => List.mem_cons_of_mem _ (List.mem_append_left _ (List.mem_append_left _ (List.mem_append_right _ h)))
def b_X11_gain_20 (l1 : Int32) (l2 : Int32) (σ : Sg) : Option (Int32 × Sg) := bnd (f_X11_refuseBad σ (-20000)) fun x1 s2 => (some (x1, s2))
def b_X11_gain_62 (l1 : Int32) (l2 : Int32) (σ : Sg) (t0 : Int32) (t1 : Int32) : Option (Int32 × Sg) := (f_X5_weigh σ 1 t1 t0).bind fun s3 => (if (rI s3 99 0) = 0 then (some ((-10000), s3)) else (some (rI s3 99 4, s3)))
def f_X11_gain (σ : Sg) (l1 : Int32) (l2 : Int32) : Option (Int32 × Sg) := (if (f_X11_between l1 1 999) = 0 then b_X11_gain_20 l1 l2 σ else (if (f_X11_between l2 0 1) = 0 then b_X11_gain_20 l1 l2 σ else (if l2 = 1 then b_X11_gain_62 l1 l2 σ (rI σ 18 1) l1 else b_X11_gain_62 l1 l2 σ (f_X3_allStones σ 1) l1)))
set_option maxRecDepth 100000 in
set_option maxHeartbeats 4000000 in
theorem q_X11_gain_20 {g : Cx} (l1 : Int32) (l2 : Int32) (r : Int32) (τ : Sg) : ∀ σ : Sg, b_X11_gain_20 l1 l2 σ = some (r, τ) → V g cX11_gain RX11 wsX11_gain 3 (some .int) rm_X11_gain (some (.int r)) τ σ 20 [(0, .ref (g.1 0))] [] := by
  intro σ h
  unfold b_X11_gain_20 at h
  refine v_aload_n 21 0 dX11_gain_20 rfl rfl rfl ?_
  refine v_sipush 24 (-20000) dX11_gain_21 kc_s_m20000 rfl ?_
  obtain ⟨x1, s2, h0, h⟩ := ob2 h
  refine v_cV 27 7 [.int (-20000)] (rfl : kK 0 = 7) rfl (c_X11_refuseBad (-20000) _ _ h0) cl_X11_refuseBad gX11_gain_X11_refuseBad rfl ⟨Nat.le_of_ble_eq_true rfl, Nat.le_of_ble_eq_true rfl⟩ rfl rfl (Nat.le_of_ble_eq_true rfl) dX11_gain_24 rfl ?_
  exact v_iretS h rfl dX11_gain_27
set_option maxRecDepth 100000 in
set_option maxHeartbeats 4000000 in
theorem q_X11_gain_62 {g : Cx} (l1 : Int32) (l2 : Int32) (r : Int32) (τ : Sg) : ∀ σ : Sg, ∀ t0 : Int32, ∀ t1 : Int32, b_X11_gain_62 l1 l2 σ t0 t1 = some (r, τ) → V g cX11_gain RX11 wsX11_gain 3 (some .int) rm_X11_gain (some (.int r)) τ σ 62 [(0, .ref (g.1 0))] [.int t0, .int t1, .ref (g.1 1), .ref (g.1 99)] := by
  intro σ t0 t1 h
  unfold b_X11_gain_62 at h
  obtain ⟨s3, h0, h⟩ := ob h
  refine v_cV 65 2 [.ref (g.1 1), .int t1, .int t0] (rfl : kK 99 = 2) rfl (c_X5_weigh 1 t1 t0 (rfl : kK 1 = 0) _ h0) cl_X5_weigh gX11_gain_X5_weigh rfl ⟨Nat.le_of_ble_eq_true rfl, Nat.le_of_ble_eq_true rfl⟩ rfl rfl (Nat.le_of_ble_eq_true rfl) dX11_gain_62 rfl ?_
  refine v_aload_n 66 0 dX11_gain_65 rfl rfl rfl ?_
  refine vg_7_7 69 (rfl : kK 0 = 7) in_X11_gain_7 (mem_at 1 rfl) dX11_gain_66 rfl ?_
  refine vg_2_0 72 (rfl : kK 99 = 2) in_X11_gain_2 (mem_at 5 rfl) dX11_gain_69 rfl ?_
  refine v_if_eq 75 85 h dX11_gain_72 rfl (by decide) (fun h => ?_) (fun h => ?_)
  · refine v_sipush 88 (-10000) dX11_gain_85 kc_s_m10000 rfl ?_
    exact v_iretS h rfl dX11_gain_88
  · refine v_aload_n 76 0 dX11_gain_75 rfl rfl rfl ?_
    refine vg_7_7 79 (rfl : kK 0 = 7) in_X11_gain_7 (mem_at 1 rfl) dX11_gain_76 rfl ?_
    refine vg_2_4 82 (rfl : kK 99 = 2) in_X11_gain_2 (mem_at 6 rfl) dX11_gain_79 rfl ?_
    refine v_goto 88 dX11_gain_82 (by decide) ?_
    exact v_iretS h rfl dX11_gain_88
set_option maxRecDepth 100000 in
set_option maxHeartbeats 4000000 in
theorem c_X11_gain {g : Cx} {σ : Sg} (l1 : Int32) (l2 : Int32) (r : Int32) (τ : Sg) (h : f_X11_gain σ l1 l2 = some (r, τ)) : ∀ l, MetF l yX11_gain wsX11_gain rm_X11_gain g [.ref (g.1 0), .int l1, .int l2] σ (some (.int r)) τ := by
  refine MetF.of (own0 := RX11) (lv0 := [(0, .ref (g.1 0)), (1, .int l1), (2, .int l2)]) rfl cl_X11_gain (by decide) (Nat.le_of_ble_eq_true rfl) rfl ?_
  unfold f_X11_gain at h
  refine v_iload_n 1 1 dX11_gain_0 rfl rfl rfl ?_
  refine v_iconst 2 1 dX11_gain_1 kc_i_1 rfl ?_
  refine v_sipush 5 999 dX11_gain_2 kc_s_999 rfl ?_
  refine v_cS 8 [.int l1, .int 1, .int 999] (c_X11_between l1 1 999) cl_X11_between gX11_gain_X11_between ⟨Nat.le_of_ble_eq_true rfl, Nat.le_of_ble_eq_true rfl⟩ rfl rfl (Nat.le_of_ble_eq_true rfl) dX11_gain_5 rfl ?_
  refine v_if_eq 11 20 h dX11_gain_8 rfl (by decide) (fun h => ?_) (fun h => ?_)
  · refine v_sub [0] rfl ?_
    exact q_X11_gain_20 l1 l2 r τ σ h
  · refine v_iload_n 12 2 dX11_gain_11 rfl rfl rfl ?_
    refine v_iconst 13 0 dX11_gain_12 kc_i_0 rfl ?_
    refine v_iconst 14 1 dX11_gain_13 kc_i_1 rfl ?_
    refine v_cS 17 [.int l2, .int 0, .int 1] (c_X11_between l2 0 1) cl_X11_between gX11_gain_X11_between ⟨Nat.le_of_ble_eq_true rfl, Nat.le_of_ble_eq_true rfl⟩ rfl rfl (Nat.le_of_ble_eq_true rfl) dX11_gain_14 rfl ?_
    refine v_if_ne 20 28 h dX11_gain_17 rfl (by decide) (fun h => ?_) (fun h => ?_)
    · refine v_aload_n 29 0 dX11_gain_28 rfl rfl rfl ?_
      refine vg_7_7 32 (rfl : kK 0 = 7) in_X11_gain_7 (mem_at 1 rfl) dX11_gain_29 rfl ?_
      refine v_aload_n 33 0 dX11_gain_32 rfl rfl rfl ?_
      refine vg_7_0 36 (rfl : kK 0 = 7) in_X11_gain_7 (mem_at 2 rfl) dX11_gain_33 rfl ?_
      refine v_iload_n 37 1 dX11_gain_36 rfl rfl rfl ?_
      refine v_iload_n 38 2 dX11_gain_37 rfl rfl rfl ?_
      refine v_iconst 39 1 dX11_gain_38 kc_i_1 rfl ?_
      refine v_icmp_ne 42 55 h dX11_gain_39 rfl (by decide) (fun h => ?_) (fun h => ?_)
      · refine v_aload_n 56 0 dX11_gain_55 rfl rfl rfl ?_
        refine vg_7_0 59 (rfl : kK 0 = 7) in_X11_gain_7 (mem_at 2 rfl) dX11_gain_56 rfl ?_
        refine v_cV 62 0 [] (rfl : kK 1 = 0) rfl (c_X3_allStones 1 (rfl : kK 1 = 0)) cl_X3_allStones gX11_gain_X3_allStones rfl ⟨Nat.le_of_ble_eq_true rfl, Nat.le_of_ble_eq_true rfl⟩ rfl rfl (Nat.le_of_ble_eq_true rfl) dX11_gain_59 rfl ?_
        refine v_sub [0] rfl ?_
        exact q_X11_gain_62 l1 l2 r τ σ (f_X3_allStones σ 1) l1 h
      · refine v_aload_n 43 0 dX11_gain_42 rfl rfl rfl ?_
        refine vg_7_0 46 (rfl : kK 0 = 7) in_X11_gain_7 (mem_at 2 rfl) dX11_gain_43 rfl ?_
        refine vg_0_8 49 18 (rfl : kK 1 = 0) in_X11_gain_0 (mem_at 3 rfl) rfl dX11_gain_46 rfl ?_
        refine vg_1_1 52 (rfl : kK 18 = 1) in_X11_gain_1 (mem_at 4 rfl) dX11_gain_49 rfl ?_
        refine v_goto 62 dX11_gain_52 (by decide) ?_
        refine v_sub [0] rfl ?_
        exact q_X11_gain_62 l1 l2 r τ σ (rI σ 18 1) l1 h
    · refine v_sub [0] rfl ?_
      exact q_X11_gain_20 l1 l2 r τ σ h
-- public int gifts(int);
abbrev rm_X11_gifts : Room := { frames := 4, cells := 0, slots := 0, locals := 81 }
theorem cl_X11_gifts : Cl yX11_gifts wsX11_gifts cX11_gifts 5 (some .int) rm_X11_gifts 1 := ⟨⟨_, rfl⟩, rfl, rfl, by decide +kernel, by decide +kernel, by decide +kernel⟩
theorem in_X11_gifts_7 : ∀ w ∈ wsX110, w ∈ wsX11_gifts := fun w h => List.mem_cons_of_mem _ (List.mem_append_left _ (List.mem_append_left _ (List.mem_append_left _ (List.mem_append_right _ h))))
theorem in_X11_gifts_0 : ∀ w ∈ wsX30, w ∈ wsX11_gifts := fun w h => List.mem_cons_of_mem _ (List.mem_append_left _ (List.mem_append_left _ (List.mem_append_right _ h)))
theorem in_X11_gifts_1 : ∀ w ∈ wsX40, w ∈ wsX11_gifts := fun w h => List.mem_cons_of_mem _ (List.mem_append_left _ (List.mem_append_right _ h))
def b_X11_gifts_103 (l1 : Int32) (c22 : Sg → Int32 → Int32 → Option (Int32 × Sg)) (σ : Sg) (l2 : Int32) (l3 : Int32) : Option (Int32 × Sg) := nam (l3 + 1) fun x1 => c22 σ l2 x1
def b_X11_gifts_22 (l1 : Int32) : Nat → Sg → Int32 → Int32 → Option (Int32 × Sg)
  | 0, _, _, _ => none
  | f + 1, σ, l2, l3 => (if 7 ≤ l3 then (some (l2, σ)) else (if (f_X11_hasBit l1 l3) = 0 then b_X11_gifts_103 l1 (b_X11_gifts_22 l1 f) σ l2 l3 else (if (f_X4_isLent σ 18 l3) = 0 then (f_X7_at σ 2 l3).bind fun x2 => (f_X7_at σ 21 l3).bind fun x3 => (f_X2_leastGift x2 (rI σ 18 0) x3).bind fun x4 => (if x4 = (-1) then (some ((-1), σ)) else nam (l2 + x4) fun x5 => b_X11_gifts_103 l1 (b_X11_gifts_22 l1 f) σ x5 l3) else b_X11_gifts_103 l1 (b_X11_gifts_22 l1 f) σ l2 l3)))
def f_X11_gifts (σ : Sg) (l1 : Int32) : Option (Int32 × Sg) := (if (f_X3_hasStones σ 1 l1) = 0 then bnd (f_X11_refuseBad σ (-2)) fun x6 s7 => (some (x6, s7)) else b_X11_gifts_22 l1 FU σ 0 0)
set_option maxRecDepth 100000 in
set_option maxHeartbeats 4000000 in
theorem q_X11_gifts_103 {g : Cx} (l1 : Int32) (r : Int32) (τ : Sg) (c22 : Sg → Int32 → Int32 → Option (Int32 × Sg)) (hc22 : ∀ σ : Sg, ∀ l2 : Int32, ∀ l3 : Int32, c22 σ l2 l3 = some (r, τ) → V g cX11_gifts RX11 wsX11_gifts 5 (some .int) rm_X11_gifts (some (.int r)) τ σ 22 [(0, .ref (g.1 0)), (1, .int l1), (2, .int l2), (3, .int l3)] []) : ∀ σ : Sg, ∀ l2 : Int32, ∀ l3 : Int32, b_X11_gifts_103 l1 c22 σ l2 l3 = some (r, τ) → V g cX11_gifts RX11 wsX11_gifts 5 (some .int) rm_X11_gifts (some (.int r)) τ σ 103 [(0, .ref (g.1 0)), (1, .int l1), (2, .int l2), (3, .int l3)] [] := by
  intro σ l2 l3 h
  unfold b_X11_gifts_103 at h
  refine v_iincN 106 3 h dX11_gifts_103 rfl kc_i_1 (by decide) rfl (fun _ => rfl) (fun x1 h => ?_)
  refine v_goto 22 dX11_gifts_106 (by decide) ?_
  refine v_sub [1, 2, 3, 0] rfl ?_
  exact hc22 σ l2 x1 h
set_option maxRecDepth 100000 in
set_option maxHeartbeats 4000000 in
theorem q_X11_gifts_22 {g : Cx} (l1 : Int32) (r : Int32) (τ : Sg) : ∀ f : Nat, ∀ σ : Sg, ∀ l2 : Int32, ∀ l3 : Int32, b_X11_gifts_22 l1 f σ l2 l3 = some (r, τ) → V g cX11_gifts RX11 wsX11_gifts 5 (some .int) rm_X11_gifts (some (.int r)) τ σ 22 [(0, .ref (g.1 0)), (1, .int l1), (2, .int l2), (3, .int l3)] [] := by
  intro f
  induction f with
  | zero =>
    intro σ l2 l3 h
    cases h
  | succ f ih =>
    intro σ l2 l3 h
    rw [b_X11_gifts_22] at h
    refine v_iload_n 23 3 dX11_gifts_22 rfl rfl rfl ?_
    refine v_bipush 25 7 dX11_gifts_23 kc_b_7 rfl ?_
    refine v_icmp_ge 28 109 h dX11_gifts_25 rfl (by decide) (fun h => ?_) (fun h => ?_)
    · refine v_iload_n 110 2 dX11_gifts_109 rfl rfl rfl ?_
      exact v_iretS h rfl dX11_gifts_110
    · refine v_iload_n 29 1 dX11_gifts_28 rfl rfl rfl ?_
      refine v_iload_n 30 3 dX11_gifts_29 rfl rfl rfl ?_
      refine v_cS 33 [.int l1, .int l3] (c_X11_hasBit l1 l3) cl_X11_hasBit gX11_gifts_X11_hasBit ⟨Nat.le_of_ble_eq_true rfl, Nat.le_of_ble_eq_true rfl⟩ rfl rfl (Nat.le_of_ble_eq_true rfl) dX11_gifts_30 rfl ?_
      refine v_if_eq 36 103 h dX11_gifts_33 rfl (by decide) (fun h => ?_) (fun h => ?_)
      · refine v_sub [0, 1, 2, 3] rfl ?_
        exact q_X11_gifts_103 l1 r τ (b_X11_gifts_22 l1 f) ih σ l2 l3 h
      · refine v_aload_n 37 0 dX11_gifts_36 rfl rfl rfl ?_
        refine vg_7_0 40 (rfl : kK 0 = 7) in_X11_gifts_7 (mem_at 1 rfl) dX11_gifts_37 rfl ?_
        refine vg_0_8 43 18 (rfl : kK 1 = 0) in_X11_gifts_0 (mem_at 2 rfl) rfl dX11_gifts_40 rfl ?_
        refine v_iload_n 44 3 dX11_gifts_43 rfl rfl rfl ?_
        refine v_cV 47 1 [.int l3] (rfl : kK 18 = 1) rfl (c_X4_isLent 18 l3 (rfl : kK 18 = 1)) cl_X4_isLent gX11_gifts_X4_isLent rfl ⟨Nat.le_of_ble_eq_true rfl, Nat.le_of_ble_eq_true rfl⟩ rfl rfl (Nat.le_of_ble_eq_true rfl) dX11_gifts_44 rfl ?_
        refine v_if_ne 50 103 h dX11_gifts_47 rfl (by decide) (fun h => ?_) (fun h => ?_)
        · refine v_sub [0, 1, 2, 3] rfl ?_
          exact q_X11_gifts_103 l1 r τ (b_X11_gifts_22 l1 f) ih σ l2 l3 h
        · refine v_aload_n 51 0 dX11_gifts_50 rfl rfl rfl ?_
          refine vg_7_0 54 (rfl : kK 0 = 7) in_X11_gifts_7 (mem_at 1 rfl) dX11_gifts_51 rfl ?_
          refine vg_0_0 57 2 (rfl : kK 1 = 0) in_X11_gifts_0 (mem_at 3 rfl) rfl dX11_gifts_54 rfl ?_
          refine v_iload_n 58 3 dX11_gifts_57 rfl rfl rfl ?_
          obtain ⟨x2, h0, h⟩ := ob h
          refine v_cV 61 4 [.int l3] (rfl : kK 2 = 4) rfl (c_X7_at 2 l3 (rfl : kK 2 = 4) _ h0) cl_X7_at gX11_gifts_X7_at rfl ⟨Nat.le_of_ble_eq_true rfl, Nat.le_of_ble_eq_true rfl⟩ rfl rfl (Nat.le_of_ble_eq_true rfl) dX11_gifts_58 rfl ?_
          refine v_aload_n 62 0 dX11_gifts_61 rfl rfl rfl ?_
          refine vg_7_0 65 (rfl : kK 0 = 7) in_X11_gifts_7 (mem_at 1 rfl) dX11_gifts_62 rfl ?_
          refine vg_0_8 68 18 (rfl : kK 1 = 0) in_X11_gifts_0 (mem_at 2 rfl) rfl dX11_gifts_65 rfl ?_
          refine vg_1_0 71 (rfl : kK 18 = 1) in_X11_gifts_1 (mem_at 4 rfl) dX11_gifts_68 rfl ?_
          refine v_aload_n 72 0 dX11_gifts_71 rfl rfl rfl ?_
          refine vg_7_0 75 (rfl : kK 0 = 7) in_X11_gifts_7 (mem_at 1 rfl) dX11_gifts_72 rfl ?_
          refine vg_0_8 78 18 (rfl : kK 1 = 0) in_X11_gifts_0 (mem_at 2 rfl) rfl dX11_gifts_75 rfl ?_
          refine vg_1_3 81 21 (rfl : kK 18 = 1) in_X11_gifts_1 (mem_at 5 rfl) rfl dX11_gifts_78 rfl ?_
          refine v_iload_n 82 3 dX11_gifts_81 rfl rfl rfl ?_
          obtain ⟨x3, h0, h⟩ := ob h
          refine v_cV 85 4 [.int l3] (rfl : kK 21 = 4) rfl (c_X7_at 21 l3 (rfl : kK 21 = 4) _ h0) cl_X7_at gX11_gifts_X7_at rfl ⟨Nat.le_of_ble_eq_true rfl, Nat.le_of_ble_eq_true rfl⟩ rfl rfl (Nat.le_of_ble_eq_true rfl) dX11_gifts_82 rfl ?_
          obtain ⟨x4, h0, h⟩ := ob h
          refine v_cS 88 [.int x2, .int (rI σ 18 0), .int x3] (c_X2_leastGift x2 (rI σ 18 0) x3 _ h0) cl_X2_leastGift gX11_gifts_X2_leastGift ⟨Nat.le_of_ble_eq_true rfl, Nat.le_of_ble_eq_true rfl⟩ rfl rfl (Nat.le_of_ble_eq_true rfl) dX11_gifts_85 rfl ?_
          refine v_istore 90 dX11_gifts_88 (by decide) rfl rfl ?_
          refine v_iload 92 0 dX11_gifts_90 rfl rfl ?_
          refine v_iconst 93 (-1) dX11_gifts_92 kc_i_m1 rfl ?_
          refine v_icmp_ne 96 98 h dX11_gifts_93 rfl (by decide) (fun h => ?_) (fun h => ?_)
          · refine v_iload_n 99 3 dX11_gifts_98 rfl rfl rfl ?_
            refine v_iload 101 0 dX11_gifts_99 rfl rfl ?_
            refine v_iadd 102 dX11_gifts_101 rfl ?_
            refine v_istoreN_n 103 h dX11_gifts_102 rfl (by decide) rfl (fun _ => rfl) (fun x5 h => ?_)
            refine v_sub [2, 3, 0, 4] rfl ?_
            exact q_X11_gifts_103 l1 r τ (b_X11_gifts_22 l1 f) ih σ x5 l3 h
          · refine v_iconst 97 (-1) dX11_gifts_96 kc_i_m1 rfl ?_
            exact v_iretS h rfl dX11_gifts_97
set_option maxRecDepth 100000 in
set_option maxHeartbeats 4000000 in
theorem c_X11_gifts {g : Cx} {σ : Sg} (l1 : Int32) (r : Int32) (τ : Sg) (h : f_X11_gifts σ l1 = some (r, τ)) : ∀ l, MetF l yX11_gifts wsX11_gifts rm_X11_gifts g [.ref (g.1 0), .int l1] σ (some (.int r)) τ := by
  refine MetF.of (own0 := RX11) (lv0 := [(0, .ref (g.1 0)), (1, .int l1)]) rfl cl_X11_gifts (by decide) (Nat.le_of_ble_eq_true rfl) rfl ?_
  unfold f_X11_gifts at h
  refine v_aload_n 1 0 dX11_gifts_0 rfl rfl rfl ?_
  refine vg_7_0 4 (rfl : kK 0 = 7) in_X11_gifts_7 (mem_at 1 rfl) dX11_gifts_1 rfl ?_
  refine v_iload_n 5 1 dX11_gifts_4 rfl rfl rfl ?_
  refine v_cV 8 0 [.int l1] (rfl : kK 1 = 0) rfl (c_X3_hasStones 1 l1 (rfl : kK 1 = 0)) cl_X3_hasStones gX11_gifts_X3_hasStones rfl ⟨Nat.le_of_ble_eq_true rfl, Nat.le_of_ble_eq_true rfl⟩ rfl rfl (Nat.le_of_ble_eq_true rfl) dX11_gifts_5 rfl ?_
  refine v_if_ne 11 18 h dX11_gifts_8 rfl (by decide) (fun h => ?_) (fun h => ?_)
  · refine v_iconst 19 0 dX11_gifts_18 kc_i_0 rfl ?_
    refine v_istore_n 20 dX11_gifts_19 rfl (by decide) rfl rfl ?_
    refine v_iconst 21 0 dX11_gifts_20 kc_i_0 rfl ?_
    refine v_istore_n 22 dX11_gifts_21 rfl (by decide) rfl rfl ?_
    refine v_sub [2, 3, 1, 0] rfl ?_
    exact q_X11_gifts_22 l1 r τ FU σ 0 0 h
  · refine v_aload_n 12 0 dX11_gifts_11 rfl rfl rfl ?_
    refine v_bipush 14 (-2) dX11_gifts_12 kc_b_m2 rfl ?_
    obtain ⟨x6, s7, h0, h⟩ := ob2 h
    refine v_cV 17 7 [.int (-2)] (rfl : kK 0 = 7) rfl (c_X11_refuseBad (-2) _ _ h0) cl_X11_refuseBad gX11_gifts_X11_refuseBad rfl ⟨Nat.le_of_ble_eq_true rfl, Nat.le_of_ble_eq_true rfl⟩ rfl rfl (Nat.le_of_ble_eq_true rfl) dX11_gifts_14 rfl ?_
    exact v_iretS h rfl dX11_gifts_17
-- private static long greatestDivisor(long, long);
abbrev rm_X11_greatestDivisor : Room := { frames := 0, cells := 0, slots := 0, locals := 0 }
theorem cl_X11_greatestDivisor : Cl yX11_greatestDivisor wsX11_greatestDivisor cX11_greatestDivisor 7 (some .long) rm_X11_greatestDivisor 2 := ⟨⟨_, rfl⟩, rfl, rfl, by decide +kernel, by decide +kernel, by decide +kernel⟩
def b_X11_greatestDivisor_3 : Nat → Int64 → Int64 → Int32 → Option Int64
  | 0, _, _, _ => none
  | f + 1, l0, l2, l4 => (if 100 ≤ l4 then (some (l0)) else (if (lg_cmp l2 0) = 0 then (some (l0)) else if l2 = 0 then none else nam (l0 - l0 / l2 * l2) fun x1 => nam (l4 + 1) fun x2 => b_X11_greatestDivisor_3 f l2 x1 x2))
def f_X11_greatestDivisor (l0 : Int64) (l2 : Int64) : Option Int64 := b_X11_greatestDivisor_3 FU l0 l2 0
set_option maxRecDepth 100000 in
set_option maxHeartbeats 4000000 in
theorem q_X11_greatestDivisor_3 {g : Cx} {σ : Sg} (r : Int64) : ∀ f : Nat, ∀ l0 : Int64, ∀ l2 : Int64, ∀ l4 : Int32, b_X11_greatestDivisor_3 f l0 l2 l4 = some r → V g cX11_greatestDivisor RX11 wsX11_greatestDivisor 7 (some .long) rm_X11_greatestDivisor (some (.long r)) σ σ 3 [(0, .long l0), (2, .long l2), (4, .int l4)] [] := by
  intro f
  induction f with
  | zero =>
    intro l0 l2 l4 h
    cases h
  | succ f ih =>
    intro l0 l2 l4 h
    rw [b_X11_greatestDivisor_3] at h
    refine v_iload 5 2 dX11_greatestDivisor_3 rfl rfl ?_
    refine v_bipush 7 100 dX11_greatestDivisor_5 kc_b_100 rfl ?_
    refine v_icmp_ge 10 32 h dX11_greatestDivisor_7 rfl (by decide) (fun h => ?_) (fun h => ?_)
    · refine v_lload_n 33 0 dX11_greatestDivisor_32 rfl rfl rfl ?_
      exact v_lretP h rfl dX11_greatestDivisor_33
    · refine v_lload_n 11 1 dX11_greatestDivisor_10 rfl rfl rfl ?_
      refine v_lconst 12 0 dX11_greatestDivisor_11 kc_l_0 rfl ?_
      refine v_lcmp 13 dX11_greatestDivisor_12 rfl ?_
      refine v_if_eq 16 32 h dX11_greatestDivisor_13 rfl (by decide) (fun h => ?_) (fun h => ?_)
      · refine v_lload_n 33 0 dX11_greatestDivisor_32 rfl rfl rfl ?_
        exact v_lretP h rfl dX11_greatestDivisor_33
      · refine v_lload_n 17 0 dX11_greatestDivisor_16 rfl rfl rfl ?_
        refine v_lload_n 18 1 dX11_greatestDivisor_17 rfl rfl rfl ?_
        refine v_lremC 19 h dX11_greatestDivisor_18 rfl (fun h => ?_)
        refine v_lstoreN 21 h dX11_greatestDivisor_19 (by decide) rfl (fun _ => rfl) (fun x1 h => ?_)
        refine v_lload_n 22 2 dX11_greatestDivisor_21 rfl rfl rfl ?_
        refine v_lstore_n 23 dX11_greatestDivisor_22 rfl (by decide) rfl rfl ?_
        refine v_lload 25 1 dX11_greatestDivisor_23 rfl rfl ?_
        refine v_lstore_n 26 dX11_greatestDivisor_25 rfl (by decide) rfl rfl ?_
        refine v_iincN 29 3 h dX11_greatestDivisor_26 rfl kc_i_1 (by decide) rfl (fun _ => rfl) (fun x2 h => ?_)
        refine v_goto 3 dX11_greatestDivisor_29 (by decide) ?_
        refine v_sub [2, 1, 0] rfl ?_
        exact ih l2 x1 x2 h
set_option maxRecDepth 100000 in
set_option maxHeartbeats 4000000 in
theorem c_X11_greatestDivisor {g : Cx} {σ : Sg} (l0 : Int64) (l2 : Int64) (r : Int64) (h : f_X11_greatestDivisor l0 l2 = some r) : ∀ l, MetF l yX11_greatestDivisor wsX11_greatestDivisor rm_X11_greatestDivisor g [.long l0, .long l2] σ (some (.long r)) σ := by
  refine MetF.of (own0 := RX11) (lv0 := [(0, .long l0), (2, .long l2)]) rfl cl_X11_greatestDivisor (by decide) (Nat.le_of_ble_eq_true rfl) rfl ?_
  unfold f_X11_greatestDivisor at h
  refine v_iconst 1 0 dX11_greatestDivisor_0 kc_i_0 rfl ?_
  refine v_istore 3 dX11_greatestDivisor_1 (by decide) rfl rfl ?_
  refine v_sub [1, 2, 0] rfl ?_
  exact q_X11_greatestDivisor_3 r FU l0 l2 0 h
-- public int held(int, int);
abbrev rm_X11_held : Room := { frames := 3, cells := 0, slots := 0, locals := 61 }
theorem cl_X11_held : Cl yX11_held wsX11_held cX11_held 4 (some .int) rm_X11_held 2 := ⟨⟨_, rfl⟩, rfl, rfl, by decide +kernel, by decide +kernel, by decide +kernel⟩
theorem in_X11_held_7 : ∀ w ∈ wsX110, w ∈ wsX11_held := fun w h => List.mem_cons_of_mem _ (List.mem_append_left _ (List.mem_append_left _ (List.mem_append_right _ h)))
theorem in_X11_held_0 : ∀ w ∈ wsX30, w ∈ wsX11_held := fun w h => List.mem_cons_of_mem _ (List.mem_append_left _ (List.mem_append_right _ h))
def b_X11_held_22 (l1 : Int32) (l2 : Int32) (σ : Sg) : Option (Int32 × Sg) := bnd (f_X11_refuseBad σ (-2)) fun x1 s2 => (some (x1, s2))
def f_X11_held (σ : Sg) (l1 : Int32) (l2 : Int32) : Option (Int32 × Sg) := (if (f_X3_hasKeeper σ 1 l1) = 0 then b_X11_held_22 l1 l2 σ else (if (f_X11_between l2 1 250) = 0 then b_X11_held_22 l1 l2 σ else (f_X7_at σ 6 l1).bind fun x3 => (f_X7_put σ 6 l1 l2).bind fun s4 => (f_X7_restart s4 16).bind fun s5 => (some (x3, s5))))
set_option maxRecDepth 100000 in
set_option maxHeartbeats 4000000 in
theorem q_X11_held_22 {g : Cx} (l1 : Int32) (l2 : Int32) (r : Int32) (τ : Sg) : ∀ σ : Sg, b_X11_held_22 l1 l2 σ = some (r, τ) → V g cX11_held RX11 wsX11_held 4 (some .int) rm_X11_held (some (.int r)) τ σ 22 [(0, .ref (g.1 0))] [] := by
  intro σ h
  unfold b_X11_held_22 at h
  refine v_aload_n 23 0 dX11_held_22 rfl rfl rfl ?_
  refine v_bipush 25 (-2) dX11_held_23 kc_b_m2 rfl ?_
  obtain ⟨x1, s2, h0, h⟩ := ob2 h
  refine v_cV 28 7 [.int (-2)] (rfl : kK 0 = 7) rfl (c_X11_refuseBad (-2) _ _ h0) cl_X11_refuseBad gX11_held_X11_refuseBad rfl ⟨Nat.le_of_ble_eq_true rfl, Nat.le_of_ble_eq_true rfl⟩ rfl rfl (Nat.le_of_ble_eq_true rfl) dX11_held_25 rfl ?_
  exact v_iretS h rfl dX11_held_28
set_option maxRecDepth 100000 in
set_option maxHeartbeats 4000000 in
theorem c_X11_held {g : Cx} {σ : Sg} (l1 : Int32) (l2 : Int32) (r : Int32) (τ : Sg) (h : f_X11_held σ l1 l2 = some (r, τ)) : ∀ l, MetF l yX11_held wsX11_held rm_X11_held g [.ref (g.1 0), .int l1, .int l2] σ (some (.int r)) τ := by
  refine MetF.of (own0 := RX11) (lv0 := [(0, .ref (g.1 0)), (1, .int l1), (2, .int l2)]) rfl cl_X11_held (by decide) (Nat.le_of_ble_eq_true rfl) rfl ?_
  unfold f_X11_held at h
  refine v_aload_n 1 0 dX11_held_0 rfl rfl rfl ?_
  refine vg_7_0 4 (rfl : kK 0 = 7) in_X11_held_7 (mem_at 1 rfl) dX11_held_1 rfl ?_
  refine v_iload_n 5 1 dX11_held_4 rfl rfl rfl ?_
  refine v_cV 8 0 [.int l1] (rfl : kK 1 = 0) rfl (c_X3_hasKeeper 1 l1 (rfl : kK 1 = 0)) cl_X3_hasKeeper gX11_held_X3_hasKeeper rfl ⟨Nat.le_of_ble_eq_true rfl, Nat.le_of_ble_eq_true rfl⟩ rfl rfl (Nat.le_of_ble_eq_true rfl) dX11_held_5 rfl ?_
  refine v_if_eq 11 22 h dX11_held_8 rfl (by decide) (fun h => ?_) (fun h => ?_)
  · refine v_sub [0] rfl ?_
    exact q_X11_held_22 l1 l2 r τ σ h
  · refine v_iload_n 12 2 dX11_held_11 rfl rfl rfl ?_
    refine v_iconst 13 1 dX11_held_12 kc_i_1 rfl ?_
    refine v_sipush 16 250 dX11_held_13 kc_s_250 rfl ?_
    refine v_cS 19 [.int l2, .int 1, .int 250] (c_X11_between l2 1 250) cl_X11_between gX11_held_X11_between ⟨Nat.le_of_ble_eq_true rfl, Nat.le_of_ble_eq_true rfl⟩ rfl rfl (Nat.le_of_ble_eq_true rfl) dX11_held_16 rfl ?_
    refine v_if_ne 22 29 h dX11_held_19 rfl (by decide) (fun h => ?_) (fun h => ?_)
    · refine v_aload_n 30 0 dX11_held_29 rfl rfl rfl ?_
      refine vg_7_0 33 (rfl : kK 0 = 7) in_X11_held_7 (mem_at 1 rfl) dX11_held_30 rfl ?_
      refine vg_0_2 36 6 (rfl : kK 1 = 0) in_X11_held_0 (mem_at 2 rfl) rfl dX11_held_33 rfl ?_
      refine v_iload_n 37 1 dX11_held_36 rfl rfl rfl ?_
      obtain ⟨x3, h0, h⟩ := ob h
      refine v_cV 40 4 [.int l1] (rfl : kK 6 = 4) rfl (c_X7_at 6 l1 (rfl : kK 6 = 4) _ h0) cl_X7_at gX11_held_X7_at rfl ⟨Nat.le_of_ble_eq_true rfl, Nat.le_of_ble_eq_true rfl⟩ rfl rfl (Nat.le_of_ble_eq_true rfl) dX11_held_37 rfl ?_
      refine v_istore_n 41 dX11_held_40 rfl (by decide) rfl rfl ?_
      refine v_aload_n 42 1 dX11_held_41 rfl rfl rfl ?_
      refine vg_7_0 45 (rfl : kK 0 = 7) in_X11_held_7 (mem_at 1 rfl) dX11_held_42 rfl ?_
      refine vg_0_2 48 6 (rfl : kK 1 = 0) in_X11_held_0 (mem_at 2 rfl) rfl dX11_held_45 rfl ?_
      refine v_iload_n 49 2 dX11_held_48 rfl rfl rfl ?_
      refine v_iload_n 50 3 dX11_held_49 rfl rfl rfl ?_
      obtain ⟨s4, h0, h⟩ := ob h
      refine v_cV 53 4 [.int l1, .int l2] (rfl : kK 6 = 4) rfl (c_X7_put 6 l1 l2 (rfl : kK 6 = 4) _ h0) cl_X7_put gX11_held_X7_put rfl ⟨Nat.le_of_ble_eq_true rfl, Nat.le_of_ble_eq_true rfl⟩ rfl rfl (Nat.le_of_ble_eq_true rfl) dX11_held_50 rfl ?_
      refine v_aload_n 54 1 dX11_held_53 rfl rfl rfl ?_
      refine vg_7_0 57 (rfl : kK 0 = 7) in_X11_held_7 (mem_at 1 rfl) dX11_held_54 rfl ?_
      refine vg_0_7 60 16 (rfl : kK 1 = 0) in_X11_held_0 (mem_at 3 rfl) rfl dX11_held_57 rfl ?_
      obtain ⟨s5, h0, h⟩ := ob h
      refine v_cV 63 4 [] (rfl : kK 16 = 4) rfl (c_X7_restart 16 (rfl : kK 16 = 4) _ h0) cl_X7_restart gX11_held_X7_restart rfl ⟨Nat.le_of_ble_eq_true rfl, Nat.le_of_ble_eq_true rfl⟩ rfl rfl (Nat.le_of_ble_eq_true rfl) dX11_held_60 rfl ?_
      refine v_iload_n 64 0 dX11_held_63 rfl rfl rfl ?_
      exact v_iretS h rfl dX11_held_64
    · refine v_sub [0] rfl ?_
      exact q_X11_held_22 l1 l2 r τ σ h
-- public int image(int);
abbrev rm_X11_image : Room := { frames := 4, cells := 0, slots := 0, locals := 85 }
theorem cl_X11_image : Cl yX11_image wsX11_image cX11_image 2 (some .int) rm_X11_image 1 := ⟨⟨_, rfl⟩, rfl, rfl, by decide +kernel, by decide +kernel, by decide +kernel⟩
theorem in_X11_image_7 : ∀ w ∈ wsX110, w ∈ wsX11_image := fun w h => List.mem_cons_of_mem _ (List.mem_append_left _ (List.mem_append_left _ (List.mem_append_left _ (List.mem_append_right _ h))))
def f_X11_image (σ : Sg) (l1 : Int32) : Option (Int32 × Sg) := (if (f_X11_between l1 0 1) = 0 then bnd (f_X11_refuseBad σ (-2)) fun x3 s4 => (some (x3, s4)) else (f_X3_take σ (f_X11_imageNumber l1) 1).bind fun s1 => nam (stI s1 0 3 ((rI s1 0 3) ||| (1 <<< (l1 &&& 31)))) fun s2 => (some (1, s2)))
set_option maxRecDepth 100000 in
set_option maxHeartbeats 4000000 in
theorem c_X11_image {g : Cx} {σ : Sg} (l1 : Int32) (r : Int32) (τ : Sg) (h : f_X11_image σ l1 = some (r, τ)) : ∀ l, MetF l yX11_image wsX11_image rm_X11_image g [.ref (g.1 0), .int l1] σ (some (.int r)) τ := by
  refine MetF.of (own0 := RX11) (lv0 := [(0, .ref (g.1 0)), (1, .int l1)]) rfl cl_X11_image (by decide) (Nat.le_of_ble_eq_true rfl) rfl ?_
  unfold f_X11_image at h
  refine v_iload_n 1 1 dX11_image_0 rfl rfl rfl ?_
  refine v_iconst 2 0 dX11_image_1 kc_i_0 rfl ?_
  refine v_iconst 3 1 dX11_image_2 kc_i_1 rfl ?_
  refine v_cS 6 [.int l1, .int 0, .int 1] (c_X11_between l1 0 1) cl_X11_between gX11_image_X11_between ⟨Nat.le_of_ble_eq_true rfl, Nat.le_of_ble_eq_true rfl⟩ rfl rfl (Nat.le_of_ble_eq_true rfl) dX11_image_3 rfl ?_
  refine v_if_ne 9 16 h dX11_image_6 rfl (by decide) (fun h => ?_) (fun h => ?_)
  · refine v_aload_n 17 0 dX11_image_16 rfl rfl rfl ?_
    refine v_iload_n 18 1 dX11_image_17 rfl rfl rfl ?_
    refine v_cV 21 7 [.int l1] (rfl : kK 0 = 7) rfl (c_X11_imageNumber l1) cl_X11_imageNumber gX11_image_X11_imageNumber rfl ⟨Nat.le_of_ble_eq_true rfl, Nat.le_of_ble_eq_true rfl⟩ rfl rfl (Nat.le_of_ble_eq_true rfl) dX11_image_18 rfl ?_
    refine v_aload_n 22 0 dX11_image_21 rfl rfl rfl ?_
    refine vg_7_0 25 (rfl : kK 0 = 7) in_X11_image_7 (mem_at 1 rfl) dX11_image_22 rfl ?_
    obtain ⟨s1, h0, h⟩ := ob h
    refine v_cV 28 0 [.ref (g.1 1)] (kim l1) rfl (c_X3_take (f_X11_imageNumber l1) 1 (kim l1) (rfl : kK 1 = 0) _ h0) cl_X3_take gX11_image_X3_take rfl ⟨Nat.le_of_ble_eq_true rfl, Nat.le_of_ble_eq_true rfl⟩ rfl rfl (Nat.le_of_ble_eq_true rfl) dX11_image_25 rfl ?_
    refine v_aload_n 29 0 dX11_image_28 rfl rfl rfl ?_
    refine v_dup 30 dX11_image_29 rfl rfl ?_
    refine vg_7_3 33 (rfl : kK 0 = 7) in_X11_image_7 (mem_at 2 rfl) dX11_image_30 rfl ?_
    refine v_iconst 34 1 dX11_image_33 kc_i_1 rfl ?_
    refine v_iload_n 35 1 dX11_image_34 rfl rfl rfl ?_
    refine v_ishl 36 dX11_image_35 rfl ?_
    refine v_ior 37 dX11_image_36 rfl ?_
    refine vp_7_3 40 h (rfl : kK 0 = 7) in_X11_image_7 (mem_at 2 rfl) dX11_image_37 rfl (fun s2 h => ?_)
    refine v_iconst 41 1 dX11_image_40 kc_i_1 rfl ?_
    exact v_iretS h rfl dX11_image_41
  · refine v_aload_n 10 0 dX11_image_9 rfl rfl rfl ?_
    refine v_bipush 12 (-2) dX11_image_10 kc_b_m2 rfl ?_
    obtain ⟨x3, s4, h0, h⟩ := ob2 h
    refine v_cV 15 7 [.int (-2)] (rfl : kK 0 = 7) rfl (c_X11_refuseBad (-2) _ _ h0) cl_X11_refuseBad gX11_image_X11_refuseBad rfl ⟨Nat.le_of_ble_eq_true rfl, Nat.le_of_ble_eq_true rfl⟩ rfl rfl (Nat.le_of_ble_eq_true rfl) dX11_image_12 rfl ?_
    exact v_iretS h rfl dX11_image_15
-- public int is(int);
abbrev rm_X11_is : Room := { frames := 4, cells := 0, slots := 0, locals := 89 }
theorem cl_X11_is : Cl yX11_is wsX11_is cX11_is 2 (some .int) rm_X11_is 1 := ⟨⟨_, rfl⟩, rfl, rfl, by decide +kernel, by decide +kernel, by decide +kernel⟩
theorem in_X11_is_7 : ∀ w ∈ wsX110, w ∈ wsX11_is := fun w h => List.mem_cons_of_mem _ (List.mem_append_left _ (List.mem_append_left _ (List.mem_append_right _ h)))
def f_X11_is (σ : Sg) (l1 : Int32) : Option (Int32 × Sg) := (if (f_X3_hasKeeper σ 1 l1) = 0 then bnd (f_X11_refuseBad σ (-2)) fun x1 s2 => (some (x1, s2)) else (f_X1_kindsOfKeeper σ 1 l1).bind fun x3 => (some (x3, σ)))
set_option maxRecDepth 100000 in
set_option maxHeartbeats 4000000 in
theorem c_X11_is {g : Cx} {σ : Sg} (l1 : Int32) (r : Int32) (τ : Sg) (h : f_X11_is σ l1 = some (r, τ)) : ∀ l, MetF l yX11_is wsX11_is rm_X11_is g [.ref (g.1 0), .int l1] σ (some (.int r)) τ := by
  refine MetF.of (own0 := RX11) (lv0 := [(0, .ref (g.1 0)), (1, .int l1)]) rfl cl_X11_is (by decide) (Nat.le_of_ble_eq_true rfl) rfl ?_
  unfold f_X11_is at h
  refine v_aload_n 1 0 dX11_is_0 rfl rfl rfl ?_
  refine vg_7_0 4 (rfl : kK 0 = 7) in_X11_is_7 (mem_at 1 rfl) dX11_is_1 rfl ?_
  refine v_iload_n 5 1 dX11_is_4 rfl rfl rfl ?_
  refine v_cV 8 0 [.int l1] (rfl : kK 1 = 0) rfl (c_X3_hasKeeper 1 l1 (rfl : kK 1 = 0)) cl_X3_hasKeeper gX11_is_X3_hasKeeper rfl ⟨Nat.le_of_ble_eq_true rfl, Nat.le_of_ble_eq_true rfl⟩ rfl rfl (Nat.le_of_ble_eq_true rfl) dX11_is_5 rfl ?_
  refine v_if_eq 11 22 h dX11_is_8 rfl (by decide) (fun h => ?_) (fun h => ?_)
  · refine v_aload_n 23 0 dX11_is_22 rfl rfl rfl ?_
    refine v_bipush 25 (-2) dX11_is_23 kc_b_m2 rfl ?_
    obtain ⟨x1, s2, h0, h⟩ := ob2 h
    refine v_cV 28 7 [.int (-2)] (rfl : kK 0 = 7) rfl (c_X11_refuseBad (-2) _ _ h0) cl_X11_refuseBad gX11_is_X11_refuseBad rfl ⟨Nat.le_of_ble_eq_true rfl, Nat.le_of_ble_eq_true rfl⟩ rfl rfl (Nat.le_of_ble_eq_true rfl) dX11_is_25 rfl ?_
    exact v_iretS h rfl dX11_is_28
  · refine v_aload_n 12 0 dX11_is_11 rfl rfl rfl ?_
    refine vg_7_0 15 (rfl : kK 0 = 7) in_X11_is_7 (mem_at 1 rfl) dX11_is_12 rfl ?_
    refine v_iload_n 16 1 dX11_is_15 rfl rfl rfl ?_
    obtain ⟨x3, h0, h⟩ := ob h
    refine v_cS 19 [.ref (g.1 1), .int l1] (c_X1_kindsOfKeeper 1 l1 (rfl : kK 1 = 0) _ h0) cl_X1_kindsOfKeeper gX11_is_X1_kindsOfKeeper ⟨Nat.le_of_ble_eq_true rfl, Nat.le_of_ble_eq_true rfl⟩ rfl rfl (Nat.le_of_ble_eq_true rfl) dX11_is_16 rfl ?_
    refine v_goto 28 dX11_is_19 (by decide) ?_
    exact v_iretS h rfl dX11_is_28
-- private void keepFraction(long, long);
abbrev rm_X11_keepFraction : Room := { frames := 1, cells := 0, slots := 0, locals := 26 }
theorem cl_X11_keepFraction : Cl yX11_keepFraction wsX11_keepFraction cX11_keepFraction 7 none rm_X11_keepFraction 2 := ⟨⟨_, rfl⟩, rfl, rfl, by decide +kernel, by decide +kernel, by decide +kernel⟩
theorem in_X11_keepFraction_7 : ∀ w ∈ wsX110, w ∈ wsX11_keepFraction := fun w h => List.mem_cons_of_mem _ (List.mem_append_right _ h)
def f_X11_keepFraction (σ : Sg) (l1 : Int64) (l3 : Int64) : Option Sg := (f_X11_greatestDivisor l1 l3).bind fun x1 => (if (lg_cmp x1 0) ≤ 0 then (some σ) else if x1 = 0 then none else nam (stL σ 0 10 (l1 / x1)) fun s2 => if x1 = 0 then none else nam (stL s2 0 11 (l3 / x1)) fun s3 => (some s3))
set_option maxRecDepth 100000 in
set_option maxHeartbeats 4000000 in
theorem c_X11_keepFraction {g : Cx} {σ : Sg} (l1 : Int64) (l3 : Int64) (τ : Sg) (h : f_X11_keepFraction σ l1 l3 = some τ) : ∀ l, MetF l yX11_keepFraction wsX11_keepFraction rm_X11_keepFraction g [.ref (g.1 0), .long l1, .long l3] σ none τ := by
  refine MetF.of (own0 := RX11) (lv0 := [(0, .ref (g.1 0)), (1, .long l1), (3, .long l3)]) rfl cl_X11_keepFraction (by decide) (Nat.le_of_ble_eq_true rfl) rfl ?_
  unfold f_X11_keepFraction at h
  refine v_lload_n 1 1 dX11_keepFraction_0 rfl rfl rfl ?_
  refine v_lload_n 2 2 dX11_keepFraction_1 rfl rfl rfl ?_
  obtain ⟨x1, h0, h⟩ := ob h
  refine v_cS 5 [.long l1, .long l3] (c_X11_greatestDivisor l1 l3 _ h0) cl_X11_greatestDivisor gX11_keepFraction_X11_greatestDivisor ⟨Nat.le_of_ble_eq_true rfl, Nat.le_of_ble_eq_true rfl⟩ rfl rfl (Nat.le_of_ble_eq_true rfl) dX11_keepFraction_2 rfl ?_
  refine v_lstore 7 dX11_keepFraction_5 (by decide) rfl rfl ?_
  refine v_lload 9 0 dX11_keepFraction_7 rfl rfl ?_
  refine v_lconst 10 0 dX11_keepFraction_9 kc_l_0 rfl ?_
  refine v_lcmp 11 dX11_keepFraction_10 rfl ?_
  refine v_if_le 14 30 h dX11_keepFraction_11 rfl (by decide) (fun h => ?_) (fun h => ?_)
  · exact v_vretS h rfl dX11_keepFraction_30
  · refine v_aload_n 15 1 dX11_keepFraction_14 rfl rfl rfl ?_
    refine v_lload_n 16 2 dX11_keepFraction_15 rfl rfl rfl ?_
    refine v_lload 18 0 dX11_keepFraction_16 rfl rfl ?_
    refine v_ldivC 19 h dX11_keepFraction_18 rfl (fun h => ?_)
    refine vp_7_10 22 h (rfl : kK 0 = 7) in_X11_keepFraction_7 (mem_at 1 rfl) dX11_keepFraction_19 rfl (fun s2 h => ?_)
    refine v_aload_n 23 1 dX11_keepFraction_22 rfl rfl rfl ?_
    refine v_lload_n 24 3 dX11_keepFraction_23 rfl rfl rfl ?_
    refine v_lload 26 0 dX11_keepFraction_24 rfl rfl ?_
    refine v_ldivC 27 h dX11_keepFraction_26 rfl (fun h => ?_)
    refine vp_7_11 30 h (rfl : kK 0 = 7) in_X11_keepFraction_7 (mem_at 2 rfl) dX11_keepFraction_27 rfl (fun s3 h => ?_)
    exact v_vretS h rfl dX11_keepFraction_30
-- public int keeper(int, int, int);
abbrev rm_X11_keeper : Room := { frames := 2, cells := 0, slots := 0, locals := 44 }
theorem cl_X11_keeper : Cl yX11_keeper wsX11_keeper cX11_keeper 4 (some .int) rm_X11_keeper 3 := ⟨⟨_, rfl⟩, rfl, rfl, by decide +kernel, by decide +kernel, by decide +kernel⟩
theorem in_X11_keeper_7 : ∀ w ∈ wsX110, w ∈ wsX11_keeper := fun w h => List.mem_cons_of_mem _ (List.mem_append_left _ (List.mem_append_left _ (List.mem_append_left _ (List.mem_append_right _ h))))
theorem in_X11_keeper_0 : ∀ w ∈ wsX30, w ∈ wsX11_keeper := fun w h => List.mem_cons_of_mem _ (List.mem_append_left _ (List.mem_append_left _ (List.mem_append_right _ h)))
def b_X11_keeper_28 (l1 : Int32) (l2 : Int32) (l3 : Int32) (σ : Sg) : Option (Int32 × Sg) := bnd (f_X11_refuseBad σ (-2)) fun x1 s2 => (some (x1, s2))
def f_X11_keeper (σ : Sg) (l1 : Int32) (l2 : Int32) (l3 : Int32) : Option (Int32 × Sg) := (if (f_X11_isKind l1) = 0 then b_X11_keeper_28 l1 l2 l3 σ else (if (f_X11_between l2 0 11) = 0 then b_X11_keeper_28 l1 l2 l3 σ else (if (f_X11_between l3 1 250) = 0 then b_X11_keeper_28 l1 l2 l3 σ else (if (f_X7_isFull σ 2) = 0 then (f_X3_addKeeper σ 1 l1 l2 l3).bind fun s3 => (f_X7_restart s3 16).bind fun s4 => (some ((f_X3_keeperCount s4 1) - 1, s4)) else bnd (f_X11_refuseFull σ) fun x5 s6 => (some (x5, s6))))))
set_option maxRecDepth 100000 in
set_option maxHeartbeats 4000000 in
theorem q_X11_keeper_28 {g : Cx} (l1 : Int32) (l2 : Int32) (l3 : Int32) (r : Int32) (τ : Sg) : ∀ σ : Sg, b_X11_keeper_28 l1 l2 l3 σ = some (r, τ) → V g cX11_keeper RX11 wsX11_keeper 4 (some .int) rm_X11_keeper (some (.int r)) τ σ 28 [(0, .ref (g.1 0))] [] := by
  intro σ h
  unfold b_X11_keeper_28 at h
  refine v_aload_n 29 0 dX11_keeper_28 rfl rfl rfl ?_
  refine v_bipush 31 (-2) dX11_keeper_29 kc_b_m2 rfl ?_
  obtain ⟨x1, s2, h0, h⟩ := ob2 h
  refine v_cV 34 7 [.int (-2)] (rfl : kK 0 = 7) rfl (c_X11_refuseBad (-2) _ _ h0) cl_X11_refuseBad gX11_keeper_X11_refuseBad rfl ⟨Nat.le_of_ble_eq_true rfl, Nat.le_of_ble_eq_true rfl⟩ rfl rfl (Nat.le_of_ble_eq_true rfl) dX11_keeper_31 rfl ?_
  exact v_iretS h rfl dX11_keeper_34
set_option maxRecDepth 100000 in
set_option maxHeartbeats 4000000 in
theorem c_X11_keeper {g : Cx} {σ : Sg} (l1 : Int32) (l2 : Int32) (l3 : Int32) (r : Int32) (τ : Sg) (h : f_X11_keeper σ l1 l2 l3 = some (r, τ)) : ∀ l, MetF l yX11_keeper wsX11_keeper rm_X11_keeper g [.ref (g.1 0), .int l1, .int l2, .int l3] σ (some (.int r)) τ := by
  refine MetF.of (own0 := RX11) (lv0 := [(0, .ref (g.1 0)), (1, .int l1), (2, .int l2), (3, .int l3)]) rfl cl_X11_keeper (by decide) (Nat.le_of_ble_eq_true rfl) rfl ?_
  unfold f_X11_keeper at h
  refine v_iload_n 1 1 dX11_keeper_0 rfl rfl rfl ?_
  refine v_cS 4 [.int l1] (c_X11_isKind l1) cl_X11_isKind gX11_keeper_X11_isKind ⟨Nat.le_of_ble_eq_true rfl, Nat.le_of_ble_eq_true rfl⟩ rfl rfl (Nat.le_of_ble_eq_true rfl) dX11_keeper_1 rfl ?_
  refine v_if_eq 7 28 h dX11_keeper_4 rfl (by decide) (fun h => ?_) (fun h => ?_)
  · refine v_sub [0] rfl ?_
    exact q_X11_keeper_28 l1 l2 l3 r τ σ h
  · refine v_iload_n 8 2 dX11_keeper_7 rfl rfl rfl ?_
    refine v_iconst 9 0 dX11_keeper_8 kc_i_0 rfl ?_
    refine v_bipush 11 11 dX11_keeper_9 kc_b_11 rfl ?_
    refine v_cS 14 [.int l2, .int 0, .int 11] (c_X11_between l2 0 11) cl_X11_between gX11_keeper_X11_between ⟨Nat.le_of_ble_eq_true rfl, Nat.le_of_ble_eq_true rfl⟩ rfl rfl (Nat.le_of_ble_eq_true rfl) dX11_keeper_11 rfl ?_
    refine v_if_eq 17 28 h dX11_keeper_14 rfl (by decide) (fun h => ?_) (fun h => ?_)
    · refine v_sub [0] rfl ?_
      exact q_X11_keeper_28 l1 l2 l3 r τ σ h
    · refine v_iload_n 18 3 dX11_keeper_17 rfl rfl rfl ?_
      refine v_iconst 19 1 dX11_keeper_18 kc_i_1 rfl ?_
      refine v_sipush 22 250 dX11_keeper_19 kc_s_250 rfl ?_
      refine v_cS 25 [.int l3, .int 1, .int 250] (c_X11_between l3 1 250) cl_X11_between gX11_keeper_X11_between ⟨Nat.le_of_ble_eq_true rfl, Nat.le_of_ble_eq_true rfl⟩ rfl rfl (Nat.le_of_ble_eq_true rfl) dX11_keeper_22 rfl ?_
      refine v_if_ne 28 35 h dX11_keeper_25 rfl (by decide) (fun h => ?_) (fun h => ?_)
      · refine v_aload_n 36 0 dX11_keeper_35 rfl rfl rfl ?_
        refine vg_7_0 39 (rfl : kK 0 = 7) in_X11_keeper_7 (mem_at 1 rfl) dX11_keeper_36 rfl ?_
        refine vg_0_0 42 2 (rfl : kK 1 = 0) in_X11_keeper_0 (mem_at 2 rfl) rfl dX11_keeper_39 rfl ?_
        refine v_cV 45 4 [] (rfl : kK 2 = 4) rfl (c_X7_isFull 2 (rfl : kK 2 = 4)) cl_X7_isFull gX11_keeper_X7_isFull rfl ⟨Nat.le_of_ble_eq_true rfl, Nat.le_of_ble_eq_true rfl⟩ rfl rfl (Nat.le_of_ble_eq_true rfl) dX11_keeper_42 rfl ?_
        refine v_if_eq 48 53 h dX11_keeper_45 rfl (by decide) (fun h => ?_) (fun h => ?_)
        · refine v_aload_n 54 0 dX11_keeper_53 rfl rfl rfl ?_
          refine vg_7_0 57 (rfl : kK 0 = 7) in_X11_keeper_7 (mem_at 1 rfl) dX11_keeper_54 rfl ?_
          refine v_iload_n 58 1 dX11_keeper_57 rfl rfl rfl ?_
          refine v_iload_n 59 2 dX11_keeper_58 rfl rfl rfl ?_
          refine v_iload_n 60 3 dX11_keeper_59 rfl rfl rfl ?_
          obtain ⟨s3, h0, h⟩ := ob h
          refine v_cV 63 0 [.int l1, .int l2, .int l3] (rfl : kK 1 = 0) rfl (c_X3_addKeeper 1 l1 l2 l3 (rfl : kK 1 = 0) _ h0) cl_X3_addKeeper gX11_keeper_X3_addKeeper rfl ⟨Nat.le_of_ble_eq_true rfl, Nat.le_of_ble_eq_true rfl⟩ rfl rfl (Nat.le_of_ble_eq_true rfl) dX11_keeper_60 rfl ?_
          refine v_aload_n 64 0 dX11_keeper_63 rfl rfl rfl ?_
          refine vg_7_0 67 (rfl : kK 0 = 7) in_X11_keeper_7 (mem_at 1 rfl) dX11_keeper_64 rfl ?_
          refine vg_0_7 70 16 (rfl : kK 1 = 0) in_X11_keeper_0 (mem_at 3 rfl) rfl dX11_keeper_67 rfl ?_
          obtain ⟨s4, h0, h⟩ := ob h
          refine v_cV 73 4 [] (rfl : kK 16 = 4) rfl (c_X7_restart 16 (rfl : kK 16 = 4) _ h0) cl_X7_restart gX11_keeper_X7_restart rfl ⟨Nat.le_of_ble_eq_true rfl, Nat.le_of_ble_eq_true rfl⟩ rfl rfl (Nat.le_of_ble_eq_true rfl) dX11_keeper_70 rfl ?_
          refine v_aload_n 74 0 dX11_keeper_73 rfl rfl rfl ?_
          refine vg_7_0 77 (rfl : kK 0 = 7) in_X11_keeper_7 (mem_at 1 rfl) dX11_keeper_74 rfl ?_
          refine v_cV 80 0 [] (rfl : kK 1 = 0) rfl (c_X3_keeperCount 1 (rfl : kK 1 = 0)) cl_X3_keeperCount gX11_keeper_X3_keeperCount rfl ⟨Nat.le_of_ble_eq_true rfl, Nat.le_of_ble_eq_true rfl⟩ rfl rfl (Nat.le_of_ble_eq_true rfl) dX11_keeper_77 rfl ?_
          refine v_iconst 81 1 dX11_keeper_80 kc_i_1 rfl ?_
          refine v_isub 82 dX11_keeper_81 rfl ?_
          exact v_iretS h rfl dX11_keeper_82
        · refine v_aload_n 49 0 dX11_keeper_48 rfl rfl rfl ?_
          obtain ⟨x5, s6, h0, h⟩ := ob2 h
          refine v_cV 52 7 [] (rfl : kK 0 = 7) rfl (c_X11_refuseFull _ _ h0) cl_X11_refuseFull gX11_keeper_X11_refuseFull rfl ⟨Nat.le_of_ble_eq_true rfl, Nat.le_of_ble_eq_true rfl⟩ rfl rfl (Nat.le_of_ble_eq_true rfl) dX11_keeper_49 rfl ?_
          exact v_iretS h rfl dX11_keeper_52
      · refine v_sub [0] rfl ?_
        exact q_X11_keeper_28 l1 l2 l3 r τ σ h
-- public int lay(int);
abbrev rm_X11_lay : Room := { frames := 6, cells := 0, slots := 0, locals := 134 }
theorem cl_X11_lay : Cl yX11_lay wsX11_lay cX11_lay 3 (some .int) rm_X11_lay 1 := ⟨⟨_, rfl⟩, rfl, rfl, by decide +kernel, by decide +kernel, by decide +kernel⟩
theorem in_X11_lay_7 : ∀ w ∈ wsX110, w ∈ wsX11_lay := fun w h => List.mem_cons_of_mem _ (List.mem_append_left _ (List.mem_append_left _ (List.mem_append_left _ (List.mem_append_right _ h))))
def f_X11_lay (σ : Sg) (l1 : Int32) : Option (Int32 × Sg) := (if (f_X3_hasBalance σ 1 l1) = 0 then bnd (f_X11_refuseBad σ (-2)) fun x4 s5 => (some (x4, s5)) else (f_X1_kindsOfBalance σ 1 l1).bind fun x1 => (if x1 = 0 then (some ((-1), σ)) else bnd (f_X1_bestGrains σ x1) fun x2 s3 => (some (x2, s3))))
set_option maxRecDepth 100000 in
set_option maxHeartbeats 4000000 in
theorem c_X11_lay {g : Cx} {σ : Sg} (l1 : Int32) (r : Int32) (τ : Sg) (h : f_X11_lay σ l1 = some (r, τ)) : ∀ l, MetF l yX11_lay wsX11_lay rm_X11_lay g [.ref (g.1 0), .int l1] σ (some (.int r)) τ := by
  refine MetF.of (own0 := RX11) (lv0 := [(0, .ref (g.1 0)), (1, .int l1)]) rfl cl_X11_lay (by decide) (Nat.le_of_ble_eq_true rfl) rfl ?_
  unfold f_X11_lay at h
  refine v_aload_n 1 0 dX11_lay_0 rfl rfl rfl ?_
  refine vg_7_0 4 (rfl : kK 0 = 7) in_X11_lay_7 (mem_at 1 rfl) dX11_lay_1 rfl ?_
  refine v_iload_n 5 1 dX11_lay_4 rfl rfl rfl ?_
  refine v_cV 8 0 [.int l1] (rfl : kK 1 = 0) rfl (c_X3_hasBalance 1 l1 (rfl : kK 1 = 0)) cl_X3_hasBalance gX11_lay_X3_hasBalance rfl ⟨Nat.le_of_ble_eq_true rfl, Nat.le_of_ble_eq_true rfl⟩ rfl rfl (Nat.le_of_ble_eq_true rfl) dX11_lay_5 rfl ?_
  refine v_if_ne 11 18 h dX11_lay_8 rfl (by decide) (fun h => ?_) (fun h => ?_)
  · refine v_aload_n 19 0 dX11_lay_18 rfl rfl rfl ?_
    refine vg_7_0 22 (rfl : kK 0 = 7) in_X11_lay_7 (mem_at 1 rfl) dX11_lay_19 rfl ?_
    refine v_iload_n 23 1 dX11_lay_22 rfl rfl rfl ?_
    obtain ⟨x1, h0, h⟩ := ob h
    refine v_cS 26 [.ref (g.1 1), .int l1] (c_X1_kindsOfBalance 1 l1 (rfl : kK 1 = 0) _ h0) cl_X1_kindsOfBalance gX11_lay_X1_kindsOfBalance ⟨Nat.le_of_ble_eq_true rfl, Nat.le_of_ble_eq_true rfl⟩ rfl rfl (Nat.le_of_ble_eq_true rfl) dX11_lay_23 rfl ?_
    refine v_istore_n 27 dX11_lay_26 rfl (by decide) rfl rfl ?_
    refine v_iload_n 28 0 dX11_lay_27 rfl rfl rfl ?_
    refine v_if_ne 31 35 h dX11_lay_28 rfl (by decide) (fun h => ?_) (fun h => ?_)
    · refine v_iload_n 36 0 dX11_lay_35 rfl rfl rfl ?_
      refine v_aload_n 37 1 dX11_lay_36 rfl rfl rfl ?_
      refine vg_7_9 40 (rfl : kK 0 = 7) in_X11_lay_7 (mem_at 2 rfl) dX11_lay_37 rfl ?_
      obtain ⟨x2, s3, h0, h⟩ := ob2 h
      refine v_cS 43 [.int x1, .ref (g.1 107)] (c_X1_bestGrains x1 _ _ h0) cl_X1_bestGrains gX11_lay_X1_bestGrains ⟨Nat.le_of_ble_eq_true rfl, Nat.le_of_ble_eq_true rfl⟩ rfl rfl (Nat.le_of_ble_eq_true rfl) dX11_lay_40 rfl ?_
      exact v_iretS h rfl dX11_lay_43
    · refine v_iconst 32 (-1) dX11_lay_31 kc_i_m1 rfl ?_
      refine v_goto 43 dX11_lay_32 (by decide) ?_
      exact v_iretS h rfl dX11_lay_43
  · refine v_aload_n 12 0 dX11_lay_11 rfl rfl rfl ?_
    refine v_bipush 14 (-2) dX11_lay_12 kc_b_m2 rfl ?_
    obtain ⟨x4, s5, h0, h⟩ := ob2 h
    refine v_cV 17 7 [.int (-2)] (rfl : kK 0 = 7) rfl (c_X11_refuseBad (-2) _ _ h0) cl_X11_refuseBad gX11_lay_X11_refuseBad rfl ⟨Nat.le_of_ble_eq_true rfl, Nat.le_of_ble_eq_true rfl⟩ rfl rfl (Nat.le_of_ble_eq_true rfl) dX11_lay_14 rfl ?_
    exact v_iretS h rfl dX11_lay_17
-- public int lift();
abbrev rm_X11_lift : Room := { frames := 5, cells := 0, slots := 0, locals := 123 }
theorem cl_X11_lift : Cl yX11_lift wsX11_lift cX11_lift 3 (some .int) rm_X11_lift 0 := ⟨⟨_, rfl⟩, rfl, rfl, by decide +kernel, by decide +kernel, by decide +kernel⟩
theorem in_X11_lift_7 : ∀ w ∈ wsX110, w ∈ wsX11_lift := fun w h => List.mem_cons_of_mem _ (List.mem_append_left _ (List.mem_append_left _ (List.mem_append_left _ (List.mem_append_right _ h))))
def f_X11_lift (σ : Sg) : Option (Int32 × Sg) := (f_X1_mayBeOff σ 1 (-1)).bind fun x1 => (f_X1_mayBeOff σ 1 1).bind fun x2 => (if (x1 ||| x2) = 0 then (some ((-1), σ)) else bnd (f_X1_bestPair σ 1 x1 x2) fun x3 s4 => (some (x3, s4)))
set_option maxRecDepth 100000 in
set_option maxHeartbeats 4000000 in
theorem c_X11_lift {g : Cx} {σ : Sg} (r : Int32) (τ : Sg) (h : f_X11_lift σ = some (r, τ)) : ∀ l, MetF l yX11_lift wsX11_lift rm_X11_lift g [.ref (g.1 0)] σ (some (.int r)) τ := by
  refine MetF.of (own0 := RX11) (lv0 := [(0, .ref (g.1 0))]) rfl cl_X11_lift (by decide) (Nat.le_of_ble_eq_true rfl) rfl ?_
  unfold f_X11_lift at h
  refine v_aload_n 1 0 dX11_lift_0 rfl rfl rfl ?_
  refine vg_7_0 4 (rfl : kK 0 = 7) in_X11_lift_7 (mem_at 1 rfl) dX11_lift_1 rfl ?_
  refine v_iconst 5 (-1) dX11_lift_4 kc_i_m1 rfl ?_
  obtain ⟨x1, h0, h⟩ := ob h
  refine v_cS 8 [.ref (g.1 1), .int (-1)] (c_X1_mayBeOff 1 (-1) (rfl : kK 1 = 0) _ h0) cl_X1_mayBeOff gX11_lift_X1_mayBeOff ⟨Nat.le_of_ble_eq_true rfl, Nat.le_of_ble_eq_true rfl⟩ rfl rfl (Nat.le_of_ble_eq_true rfl) dX11_lift_5 rfl ?_
  refine v_istore_n 9 dX11_lift_8 rfl (by decide) rfl rfl ?_
  refine v_aload_n 10 1 dX11_lift_9 rfl rfl rfl ?_
  refine vg_7_0 13 (rfl : kK 0 = 7) in_X11_lift_7 (mem_at 1 rfl) dX11_lift_10 rfl ?_
  refine v_iconst 14 1 dX11_lift_13 kc_i_1 rfl ?_
  obtain ⟨x2, h0, h⟩ := ob h
  refine v_cS 17 [.ref (g.1 1), .int 1] (c_X1_mayBeOff 1 1 (rfl : kK 1 = 0) _ h0) cl_X1_mayBeOff gX11_lift_X1_mayBeOff ⟨Nat.le_of_ble_eq_true rfl, Nat.le_of_ble_eq_true rfl⟩ rfl rfl (Nat.le_of_ble_eq_true rfl) dX11_lift_14 rfl ?_
  refine v_istore_n 18 dX11_lift_17 rfl (by decide) rfl rfl ?_
  refine v_iload_n 19 1 dX11_lift_18 rfl rfl rfl ?_
  refine v_iload_n 20 0 dX11_lift_19 rfl rfl rfl ?_
  refine v_ior 21 dX11_lift_20 rfl ?_
  refine v_if_ne 24 28 h dX11_lift_21 rfl (by decide) (fun h => ?_) (fun h => ?_)
  · refine v_aload_n 29 2 dX11_lift_28 rfl rfl rfl ?_
    refine vg_7_0 32 (rfl : kK 0 = 7) in_X11_lift_7 (mem_at 1 rfl) dX11_lift_29 rfl ?_
    refine v_iload_n 33 1 dX11_lift_32 rfl rfl rfl ?_
    refine v_iload_n 34 0 dX11_lift_33 rfl rfl rfl ?_
    refine v_aload_n 35 2 dX11_lift_34 rfl rfl rfl ?_
    refine vg_7_9 38 (rfl : kK 0 = 7) in_X11_lift_7 (mem_at 2 rfl) dX11_lift_35 rfl ?_
    obtain ⟨x3, s4, h0, h⟩ := ob2 h
    refine v_cS 41 [.ref (g.1 1), .int x1, .int x2, .ref (g.1 107)] (c_X1_bestPair 1 x1 x2 (rfl : kK 1 = 0) _ _ h0) cl_X1_bestPair gX11_lift_X1_bestPair ⟨Nat.le_of_ble_eq_true rfl, Nat.le_of_ble_eq_true rfl⟩ rfl rfl (Nat.le_of_ble_eq_true rfl) dX11_lift_38 rfl ?_
    exact v_iretS h rfl dX11_lift_41
  · refine v_iconst 25 (-1) dX11_lift_24 kc_i_m1 rfl ?_
    refine v_goto 41 dX11_lift_25 (by decide) ?_
    exact v_iretS h rfl dX11_lift_41
-- public int load(int, int, int);
abbrev rm_X11_load : Room := { frames := 4, cells := 0, slots := 0, locals := 98 }
theorem cl_X11_load : Cl yX11_load wsX11_load cX11_load 4 (some .int) rm_X11_load 3 := ⟨⟨_, rfl⟩, rfl, rfl, by decide +kernel, by decide +kernel, by decide +kernel⟩
theorem in_X11_load_7 : ∀ w ∈ wsX110, w ∈ wsX11_load := fun w h => List.mem_cons_of_mem _ (List.mem_append_left _ (List.mem_append_left _ (List.mem_append_left _ (List.mem_append_left _ (List.mem_append_right _ h)))))
theorem in_X11_load_2 : ∀ w ∈ wsX50, w ∈ wsX11_load := fun w h => List.mem_cons_of_mem _ (List.mem_append_left _ (List.mem_append_right _ h))
theorem in_X11_load_0 : ∀ w ∈ wsX30, w ∈ wsX11_load := fun w h => List.mem_cons_of_mem _ (List.mem_append_left _ (List.mem_append_left _ (List.mem_append_left _ (List.mem_append_right _ h))))
theorem in_X11_load_1 : ∀ w ∈ wsX40, w ∈ wsX11_load := fun w h => List.mem_cons_of_mem _ (List.mem_append_left _ (List.mem_append_left _ (List.mem_append_right _ h)))
def b_X11_load_29 (l1 : Int32) (l2 : Int32) (l3 : Int32) (σ : Sg) : Option (Int32 × Sg) := bnd (f_X11_refuseBad σ (-20000)) fun x1 s2 => (some (x1, s2))
def b_X11_load_71 (l1 : Int32) (l2 : Int32) (l3 : Int32) (σ : Sg) (t0 : Int32) (t1 : Int32) : Option (Int32 × Sg) := (f_X5_weigh σ 1 t1 t0).bind fun s3 => (if (rI s3 99 0) = 0 then (some ((-10000), s3)) else (if l3 = 0 then (some (rI s3 99 1, s3)) else (if l3 = 1 then (some (rI s3 99 2, s3)) else (some (rI s3 99 3, s3)))))
def f_X11_load (σ : Sg) (l1 : Int32) (l2 : Int32) (l3 : Int32) : Option (Int32 × Sg) := (if (f_X11_between l1 1 999) = 0 then b_X11_load_29 l1 l2 l3 σ else (if (f_X11_between l2 0 1) = 0 then b_X11_load_29 l1 l2 l3 σ else (if (f_X11_between l3 0 2) = 0 then b_X11_load_29 l1 l2 l3 σ else (if l2 = 1 then b_X11_load_71 l1 l2 l3 σ (rI σ 18 1) l1 else b_X11_load_71 l1 l2 l3 σ (f_X3_allStones σ 1) l1))))
set_option maxRecDepth 100000 in
set_option maxHeartbeats 4000000 in
theorem q_X11_load_29 {g : Cx} (l1 : Int32) (l2 : Int32) (l3 : Int32) (r : Int32) (τ : Sg) : ∀ σ : Sg, b_X11_load_29 l1 l2 l3 σ = some (r, τ) → V g cX11_load RX11 wsX11_load 4 (some .int) rm_X11_load (some (.int r)) τ σ 29 [(0, .ref (g.1 0))] [] := by
  intro σ h
  unfold b_X11_load_29 at h
  refine v_aload_n 30 0 dX11_load_29 rfl rfl rfl ?_
  refine v_sipush 33 (-20000) dX11_load_30 kc_s_m20000 rfl ?_
  obtain ⟨x1, s2, h0, h⟩ := ob2 h
  refine v_cV 36 7 [.int (-20000)] (rfl : kK 0 = 7) rfl (c_X11_refuseBad (-20000) _ _ h0) cl_X11_refuseBad gX11_load_X11_refuseBad rfl ⟨Nat.le_of_ble_eq_true rfl, Nat.le_of_ble_eq_true rfl⟩ rfl rfl (Nat.le_of_ble_eq_true rfl) dX11_load_33 rfl ?_
  exact v_iretS h rfl dX11_load_36
set_option maxRecDepth 100000 in
set_option maxHeartbeats 4000000 in
theorem q_X11_load_71 {g : Cx} (l1 : Int32) (l2 : Int32) (l3 : Int32) (r : Int32) (τ : Sg) : ∀ σ : Sg, ∀ t0 : Int32, ∀ t1 : Int32, b_X11_load_71 l1 l2 l3 σ t0 t1 = some (r, τ) → V g cX11_load RX11 wsX11_load 4 (some .int) rm_X11_load (some (.int r)) τ σ 71 [(0, .ref (g.1 0)), (3, .int l3)] [.int t0, .int t1, .ref (g.1 1), .ref (g.1 99)] := by
  intro σ t0 t1 h
  unfold b_X11_load_71 at h
  obtain ⟨s3, h0, h⟩ := ob h
  refine v_cV 74 2 [.ref (g.1 1), .int t1, .int t0] (rfl : kK 99 = 2) rfl (c_X5_weigh 1 t1 t0 (rfl : kK 1 = 0) _ h0) cl_X5_weigh gX11_load_X5_weigh rfl ⟨Nat.le_of_ble_eq_true rfl, Nat.le_of_ble_eq_true rfl⟩ rfl rfl (Nat.le_of_ble_eq_true rfl) dX11_load_71 rfl ?_
  refine v_aload_n 75 0 dX11_load_74 rfl rfl rfl ?_
  refine vg_7_7 78 (rfl : kK 0 = 7) in_X11_load_7 (mem_at 1 rfl) dX11_load_75 rfl ?_
  refine vg_2_0 81 (rfl : kK 99 = 2) in_X11_load_2 (mem_at 5 rfl) dX11_load_78 rfl ?_
  refine v_if_ne 84 88 h dX11_load_81 rfl (by decide) (fun h => ?_) (fun h => ?_)
  · refine v_iload_n 89 1 dX11_load_88 rfl rfl rfl ?_
    refine v_if_ne 92 102 h dX11_load_89 rfl (by decide) (fun h => ?_) (fun h => ?_)
    · refine v_iload_n 103 1 dX11_load_102 rfl rfl rfl ?_
      refine v_iconst 104 1 dX11_load_103 kc_i_1 rfl ?_
      refine v_icmp_ne 107 117 h dX11_load_104 rfl (by decide) (fun h => ?_) (fun h => ?_)
      · refine v_aload_n 118 0 dX11_load_117 rfl rfl rfl ?_
        refine vg_7_7 121 (rfl : kK 0 = 7) in_X11_load_7 (mem_at 1 rfl) dX11_load_118 rfl ?_
        refine vg_2_3 124 (rfl : kK 99 = 2) in_X11_load_2 (mem_at 8 rfl) dX11_load_121 rfl ?_
        exact v_iretS h rfl dX11_load_124
      · refine v_aload_n 108 0 dX11_load_107 rfl rfl rfl ?_
        refine vg_7_7 111 (rfl : kK 0 = 7) in_X11_load_7 (mem_at 1 rfl) dX11_load_108 rfl ?_
        refine vg_2_2 114 (rfl : kK 99 = 2) in_X11_load_2 (mem_at 7 rfl) dX11_load_111 rfl ?_
        refine v_goto 124 dX11_load_114 (by decide) ?_
        exact v_iretS h rfl dX11_load_124
    · refine v_aload_n 93 0 dX11_load_92 rfl rfl rfl ?_
      refine vg_7_7 96 (rfl : kK 0 = 7) in_X11_load_7 (mem_at 1 rfl) dX11_load_93 rfl ?_
      refine vg_2_1 99 (rfl : kK 99 = 2) in_X11_load_2 (mem_at 6 rfl) dX11_load_96 rfl ?_
      refine v_goto 124 dX11_load_99 (by decide) ?_
      exact v_iretS h rfl dX11_load_124
  · refine v_sipush 87 (-10000) dX11_load_84 kc_s_m10000 rfl ?_
    exact v_iretS h rfl dX11_load_87
set_option maxRecDepth 100000 in
set_option maxHeartbeats 4000000 in
theorem c_X11_load {g : Cx} {σ : Sg} (l1 : Int32) (l2 : Int32) (l3 : Int32) (r : Int32) (τ : Sg) (h : f_X11_load σ l1 l2 l3 = some (r, τ)) : ∀ l, MetF l yX11_load wsX11_load rm_X11_load g [.ref (g.1 0), .int l1, .int l2, .int l3] σ (some (.int r)) τ := by
  refine MetF.of (own0 := RX11) (lv0 := [(0, .ref (g.1 0)), (1, .int l1), (2, .int l2), (3, .int l3)]) rfl cl_X11_load (by decide) (Nat.le_of_ble_eq_true rfl) rfl ?_
  unfold f_X11_load at h
  refine v_iload_n 1 1 dX11_load_0 rfl rfl rfl ?_
  refine v_iconst 2 1 dX11_load_1 kc_i_1 rfl ?_
  refine v_sipush 5 999 dX11_load_2 kc_s_999 rfl ?_
  refine v_cS 8 [.int l1, .int 1, .int 999] (c_X11_between l1 1 999) cl_X11_between gX11_load_X11_between ⟨Nat.le_of_ble_eq_true rfl, Nat.le_of_ble_eq_true rfl⟩ rfl rfl (Nat.le_of_ble_eq_true rfl) dX11_load_5 rfl ?_
  refine v_if_eq 11 29 h dX11_load_8 rfl (by decide) (fun h => ?_) (fun h => ?_)
  · refine v_sub [0] rfl ?_
    exact q_X11_load_29 l1 l2 l3 r τ σ h
  · refine v_iload_n 12 2 dX11_load_11 rfl rfl rfl ?_
    refine v_iconst 13 0 dX11_load_12 kc_i_0 rfl ?_
    refine v_iconst 14 1 dX11_load_13 kc_i_1 rfl ?_
    refine v_cS 17 [.int l2, .int 0, .int 1] (c_X11_between l2 0 1) cl_X11_between gX11_load_X11_between ⟨Nat.le_of_ble_eq_true rfl, Nat.le_of_ble_eq_true rfl⟩ rfl rfl (Nat.le_of_ble_eq_true rfl) dX11_load_14 rfl ?_
    refine v_if_eq 20 29 h dX11_load_17 rfl (by decide) (fun h => ?_) (fun h => ?_)
    · refine v_sub [0] rfl ?_
      exact q_X11_load_29 l1 l2 l3 r τ σ h
    · refine v_iload_n 21 3 dX11_load_20 rfl rfl rfl ?_
      refine v_iconst 22 0 dX11_load_21 kc_i_0 rfl ?_
      refine v_iconst 23 2 dX11_load_22 kc_i_2 rfl ?_
      refine v_cS 26 [.int l3, .int 0, .int 2] (c_X11_between l3 0 2) cl_X11_between gX11_load_X11_between ⟨Nat.le_of_ble_eq_true rfl, Nat.le_of_ble_eq_true rfl⟩ rfl rfl (Nat.le_of_ble_eq_true rfl) dX11_load_23 rfl ?_
      refine v_if_ne 29 37 h dX11_load_26 rfl (by decide) (fun h => ?_) (fun h => ?_)
      · refine v_aload_n 38 0 dX11_load_37 rfl rfl rfl ?_
        refine vg_7_7 41 (rfl : kK 0 = 7) in_X11_load_7 (mem_at 1 rfl) dX11_load_38 rfl ?_
        refine v_aload_n 42 0 dX11_load_41 rfl rfl rfl ?_
        refine vg_7_0 45 (rfl : kK 0 = 7) in_X11_load_7 (mem_at 2 rfl) dX11_load_42 rfl ?_
        refine v_iload_n 46 1 dX11_load_45 rfl rfl rfl ?_
        refine v_iload_n 47 2 dX11_load_46 rfl rfl rfl ?_
        refine v_iconst 48 1 dX11_load_47 kc_i_1 rfl ?_
        refine v_icmp_ne 51 64 h dX11_load_48 rfl (by decide) (fun h => ?_) (fun h => ?_)
        · refine v_aload_n 65 0 dX11_load_64 rfl rfl rfl ?_
          refine vg_7_0 68 (rfl : kK 0 = 7) in_X11_load_7 (mem_at 2 rfl) dX11_load_65 rfl ?_
          refine v_cV 71 0 [] (rfl : kK 1 = 0) rfl (c_X3_allStones 1 (rfl : kK 1 = 0)) cl_X3_allStones gX11_load_X3_allStones rfl ⟨Nat.le_of_ble_eq_true rfl, Nat.le_of_ble_eq_true rfl⟩ rfl rfl (Nat.le_of_ble_eq_true rfl) dX11_load_68 rfl ?_
          refine v_sub [0, 3] rfl ?_
          exact q_X11_load_71 l1 l2 l3 r τ σ (f_X3_allStones σ 1) l1 h
        · refine v_aload_n 52 0 dX11_load_51 rfl rfl rfl ?_
          refine vg_7_0 55 (rfl : kK 0 = 7) in_X11_load_7 (mem_at 2 rfl) dX11_load_52 rfl ?_
          refine vg_0_8 58 18 (rfl : kK 1 = 0) in_X11_load_0 (mem_at 3 rfl) rfl dX11_load_55 rfl ?_
          refine vg_1_1 61 (rfl : kK 18 = 1) in_X11_load_1 (mem_at 4 rfl) dX11_load_58 rfl ?_
          refine v_goto 71 dX11_load_61 (by decide) ?_
          refine v_sub [0, 3] rfl ?_
          exact q_X11_load_71 l1 l2 l3 r τ σ (rI σ 18 1) l1 h
      · refine v_sub [0] rfl ?_
        exact q_X11_load_29 l1 l2 l3 r τ σ h
-- public int market();
abbrev rm_X11_market : Room := { frames := 3, cells := 0, slots := 0, locals := 60 }
theorem cl_X11_market : Cl yX11_market wsX11_market cX11_market 2 (some .int) rm_X11_market 0 := ⟨⟨_, rfl⟩, rfl, rfl, by decide +kernel, by decide +kernel, by decide +kernel⟩
theorem in_X11_market_7 : ∀ w ∈ wsX110, w ∈ wsX11_market := fun w h => List.mem_cons_of_mem _ (List.mem_append_left _ (List.mem_append_left _ (List.mem_append_left _ (List.mem_append_right _ h))))
def f_X11_market (σ : Sg) : Option (Int32 × Sg) := nam (f_X3_keeperCount σ 1) fun x1 => (f_X3_restart σ 1).bind fun s2 => (some (x1, s2))
set_option maxRecDepth 100000 in
set_option maxHeartbeats 4000000 in
theorem c_X11_market {g : Cx} {σ : Sg} (r : Int32) (τ : Sg) (h : f_X11_market σ = some (r, τ)) : ∀ l, MetF l yX11_market wsX11_market rm_X11_market g [.ref (g.1 0)] σ (some (.int r)) τ := by
  refine MetF.of (own0 := RX11) (lv0 := [(0, .ref (g.1 0))]) rfl cl_X11_market (by decide) (Nat.le_of_ble_eq_true rfl) rfl ?_
  unfold f_X11_market at h
  refine v_aload_n 1 0 dX11_market_0 rfl rfl rfl ?_
  refine vg_7_0 4 (rfl : kK 0 = 7) in_X11_market_7 (mem_at 1 rfl) dX11_market_1 rfl ?_
  refine v_cV 7 0 [] (rfl : kK 1 = 0) rfl (c_X3_keeperCount 1 (rfl : kK 1 = 0)) cl_X3_keeperCount gX11_market_X3_keeperCount rfl ⟨Nat.le_of_ble_eq_true rfl, Nat.le_of_ble_eq_true rfl⟩ rfl rfl (Nat.le_of_ble_eq_true rfl) dX11_market_4 rfl ?_
  refine v_istoreN_n 8 h dX11_market_7 rfl (by decide) rfl (fun _ => rfl) (fun x1 h => ?_)
  refine v_aload_n 9 1 dX11_market_8 rfl rfl rfl ?_
  refine vg_7_0 12 (rfl : kK 0 = 7) in_X11_market_7 (mem_at 1 rfl) dX11_market_9 rfl ?_
  obtain ⟨s2, h0, h⟩ := ob h
  refine v_cV 15 0 [] (rfl : kK 1 = 0) rfl (c_X3_restart 1 (rfl : kK 1 = 0) _ h0) cl_X3_restart gX11_market_X3_restart rfl ⟨Nat.le_of_ble_eq_true rfl, Nat.le_of_ble_eq_true rfl⟩ rfl rfl (Nat.le_of_ble_eq_true rfl) dX11_market_12 rfl ?_
  refine v_iload_n 16 0 dX11_market_15 rfl rfl rfl ?_
  exact v_iretS h rfl dX11_market_16
-- public int maybe(int);
abbrev rm_X11_maybe : Room := { frames := 5, cells := 0, slots := 0, locals := 117 }
theorem cl_X11_maybe : Cl yX11_maybe wsX11_maybe cX11_maybe 2 (some .int) rm_X11_maybe 1 := ⟨⟨_, rfl⟩, rfl, rfl, by decide +kernel, by decide +kernel, by decide +kernel⟩
theorem in_X11_maybe_7 : ∀ w ∈ wsX110, w ∈ wsX11_maybe := fun w h => List.mem_cons_of_mem _ (List.mem_append_left _ (List.mem_append_left _ (List.mem_append_right _ h)))
def b_X11_maybe_29 (l1 : Int32) (σ : Sg) (t0 : Int32) : Option (Int32 × Sg) := (f_X1_mayBeOff σ 1 t0).bind fun x1 => (some (x1, σ))
def f_X11_maybe (σ : Sg) (l1 : Int32) : Option (Int32 × Sg) := (if (f_X11_between l1 0 1) = 0 then bnd (f_X11_refuseBad σ (-2)) fun x2 s3 => (some (x2, s3)) else (if l1 = 0 then b_X11_maybe_29 l1 σ (-1) else b_X11_maybe_29 l1 σ 1))
set_option maxRecDepth 100000 in
set_option maxHeartbeats 4000000 in
theorem q_X11_maybe_29 {g : Cx} (l1 : Int32) (r : Int32) (τ : Sg) : ∀ σ : Sg, ∀ t0 : Int32, b_X11_maybe_29 l1 σ t0 = some (r, τ) → V g cX11_maybe RX11 wsX11_maybe 2 (some .int) rm_X11_maybe (some (.int r)) τ σ 29 [] [.int t0, .ref (g.1 1)] := by
  intro σ t0 h
  unfold b_X11_maybe_29 at h
  obtain ⟨x1, h0, h⟩ := ob h
  refine v_cS 32 [.ref (g.1 1), .int t0] (c_X1_mayBeOff 1 t0 (rfl : kK 1 = 0) _ h0) cl_X1_mayBeOff gX11_maybe_X1_mayBeOff ⟨Nat.le_of_ble_eq_true rfl, Nat.le_of_ble_eq_true rfl⟩ rfl rfl (Nat.le_of_ble_eq_true rfl) dX11_maybe_29 rfl ?_
  exact v_iretS h rfl dX11_maybe_32
set_option maxRecDepth 100000 in
set_option maxHeartbeats 4000000 in
theorem c_X11_maybe {g : Cx} {σ : Sg} (l1 : Int32) (r : Int32) (τ : Sg) (h : f_X11_maybe σ l1 = some (r, τ)) : ∀ l, MetF l yX11_maybe wsX11_maybe rm_X11_maybe g [.ref (g.1 0), .int l1] σ (some (.int r)) τ := by
  refine MetF.of (own0 := RX11) (lv0 := [(0, .ref (g.1 0)), (1, .int l1)]) rfl cl_X11_maybe (by decide) (Nat.le_of_ble_eq_true rfl) rfl ?_
  unfold f_X11_maybe at h
  refine v_iload_n 1 1 dX11_maybe_0 rfl rfl rfl ?_
  refine v_iconst 2 0 dX11_maybe_1 kc_i_0 rfl ?_
  refine v_iconst 3 1 dX11_maybe_2 kc_i_1 rfl ?_
  refine v_cS 6 [.int l1, .int 0, .int 1] (c_X11_between l1 0 1) cl_X11_between gX11_maybe_X11_between ⟨Nat.le_of_ble_eq_true rfl, Nat.le_of_ble_eq_true rfl⟩ rfl rfl (Nat.le_of_ble_eq_true rfl) dX11_maybe_3 rfl ?_
  refine v_if_ne 9 16 h dX11_maybe_6 rfl (by decide) (fun h => ?_) (fun h => ?_)
  · refine v_aload_n 17 0 dX11_maybe_16 rfl rfl rfl ?_
    refine vg_7_0 20 (rfl : kK 0 = 7) in_X11_maybe_7 (mem_at 1 rfl) dX11_maybe_17 rfl ?_
    refine v_iload_n 21 1 dX11_maybe_20 rfl rfl rfl ?_
    refine v_if_ne 24 28 h dX11_maybe_21 rfl (by decide) (fun h => ?_) (fun h => ?_)
    · refine v_iconst 29 1 dX11_maybe_28 kc_i_1 rfl ?_
      refine v_sub [] rfl ?_
      exact q_X11_maybe_29 l1 r τ σ 1 h
    · refine v_iconst 25 (-1) dX11_maybe_24 kc_i_m1 rfl ?_
      refine v_goto 29 dX11_maybe_25 (by decide) ?_
      refine v_sub [] rfl ?_
      exact q_X11_maybe_29 l1 r τ σ (-1) h
  · refine v_aload_n 10 0 dX11_maybe_9 rfl rfl rfl ?_
    refine v_bipush 12 (-2) dX11_maybe_10 kc_b_m2 rfl ?_
    obtain ⟨x2, s3, h0, h⟩ := ob2 h
    refine v_cV 15 7 [.int (-2)] (rfl : kK 0 = 7) rfl (c_X11_refuseBad (-2) _ _ h0) cl_X11_refuseBad gX11_maybe_X11_refuseBad rfl ⟨Nat.le_of_ble_eq_true rfl, Nat.le_of_ble_eq_true rfl⟩ rfl rfl (Nat.le_of_ble_eq_true rfl) dX11_maybe_12 rfl ?_
    exact v_iretS h rfl dX11_maybe_15
-- public int note(int, int, int, int);
abbrev rm_X11_note : Room := { frames := 3, cells := 0, slots := 0, locals := 61 }
theorem cl_X11_note : Cl yX11_note wsX11_note cX11_note 5 (some .int) rm_X11_note 4 := ⟨⟨_, rfl⟩, rfl, rfl, by decide +kernel, by decide +kernel, by decide +kernel⟩
theorem in_X11_note_7 : ∀ w ∈ wsX110, w ∈ wsX11_note := fun w h => List.mem_cons_of_mem _ (List.mem_append_left _ (List.mem_append_left _ (List.mem_append_right _ h)))
theorem in_X11_note_0 : ∀ w ∈ wsX30, w ∈ wsX11_note := fun w h => List.mem_cons_of_mem _ (List.mem_append_left _ (List.mem_append_right _ h))
def b_X11_note_44 (l1 : Int32) (l2 : Int32) (l3 : Int32) (l4 : Int32) (σ : Sg) : Option (Int32 × Sg) := bnd (f_X11_refuseBad σ (-2)) fun x1 s2 => (some (x1, s2))
def f_X11_note (σ : Sg) (l1 : Int32) (l2 : Int32) (l3 : Int32) (l4 : Int32) : Option (Int32 × Sg) := (if (f_X3_hasKeeper σ 1 l1) = 0 then b_X11_note_44 l1 l2 l3 l4 σ else (if (f_X11_between l2 1 250) = 0 then b_X11_note_44 l1 l2 l3 l4 σ else (if (f_X11_between l3 0 99) = 0 then b_X11_note_44 l1 l2 l3 l4 σ else (if (f_X11_between l4 1 250) = 0 then b_X11_note_44 l1 l2 l3 l4 σ else (if (f_X7_isFull σ 12) = 0 then (f_X7_add σ 12 l1).bind fun s3 => (f_X7_add s3 12 l2).bind fun s4 => (f_X7_add s4 12 l3).bind fun s5 => (f_X7_add s5 12 l4).bind fun s6 => (some (f_X3_noteCount s6 1, s6)) else bnd (f_X11_refuseFull σ) fun x7 s8 => (some (x7, s8)))))))
set_option maxRecDepth 100000 in
set_option maxHeartbeats 4000000 in
theorem q_X11_note_44 {g : Cx} (l1 : Int32) (l2 : Int32) (l3 : Int32) (l4 : Int32) (r : Int32) (τ : Sg) : ∀ σ : Sg, b_X11_note_44 l1 l2 l3 l4 σ = some (r, τ) → V g cX11_note RX11 wsX11_note 5 (some .int) rm_X11_note (some (.int r)) τ σ 44 [(0, .ref (g.1 0))] [] := by
  intro σ h
  unfold b_X11_note_44 at h
  refine v_aload_n 45 0 dX11_note_44 rfl rfl rfl ?_
  refine v_bipush 47 (-2) dX11_note_45 kc_b_m2 rfl ?_
  obtain ⟨x1, s2, h0, h⟩ := ob2 h
  refine v_cV 50 7 [.int (-2)] (rfl : kK 0 = 7) rfl (c_X11_refuseBad (-2) _ _ h0) cl_X11_refuseBad gX11_note_X11_refuseBad rfl ⟨Nat.le_of_ble_eq_true rfl, Nat.le_of_ble_eq_true rfl⟩ rfl rfl (Nat.le_of_ble_eq_true rfl) dX11_note_47 rfl ?_
  exact v_iretS h rfl dX11_note_50
set_option maxRecDepth 100000 in
set_option maxHeartbeats 4000000 in
theorem c_X11_note {g : Cx} {σ : Sg} (l1 : Int32) (l2 : Int32) (l3 : Int32) (l4 : Int32) (r : Int32) (τ : Sg) (h : f_X11_note σ l1 l2 l3 l4 = some (r, τ)) : ∀ l, MetF l yX11_note wsX11_note rm_X11_note g [.ref (g.1 0), .int l1, .int l2, .int l3, .int l4] σ (some (.int r)) τ := by
  refine MetF.of (own0 := RX11) (lv0 := [(0, .ref (g.1 0)), (1, .int l1), (2, .int l2), (3, .int l3), (4, .int l4)]) rfl cl_X11_note (by decide) (Nat.le_of_ble_eq_true rfl) rfl ?_
  unfold f_X11_note at h
  refine v_aload_n 1 0 dX11_note_0 rfl rfl rfl ?_
  refine vg_7_0 4 (rfl : kK 0 = 7) in_X11_note_7 (mem_at 1 rfl) dX11_note_1 rfl ?_
  refine v_iload_n 5 1 dX11_note_4 rfl rfl rfl ?_
  refine v_cV 8 0 [.int l1] (rfl : kK 1 = 0) rfl (c_X3_hasKeeper 1 l1 (rfl : kK 1 = 0)) cl_X3_hasKeeper gX11_note_X3_hasKeeper rfl ⟨Nat.le_of_ble_eq_true rfl, Nat.le_of_ble_eq_true rfl⟩ rfl rfl (Nat.le_of_ble_eq_true rfl) dX11_note_5 rfl ?_
  refine v_if_eq 11 44 h dX11_note_8 rfl (by decide) (fun h => ?_) (fun h => ?_)
  · refine v_sub [0] rfl ?_
    exact q_X11_note_44 l1 l2 l3 l4 r τ σ h
  · refine v_iload_n 12 2 dX11_note_11 rfl rfl rfl ?_
    refine v_iconst 13 1 dX11_note_12 kc_i_1 rfl ?_
    refine v_sipush 16 250 dX11_note_13 kc_s_250 rfl ?_
    refine v_cS 19 [.int l2, .int 1, .int 250] (c_X11_between l2 1 250) cl_X11_between gX11_note_X11_between ⟨Nat.le_of_ble_eq_true rfl, Nat.le_of_ble_eq_true rfl⟩ rfl rfl (Nat.le_of_ble_eq_true rfl) dX11_note_16 rfl ?_
    refine v_if_eq 22 44 h dX11_note_19 rfl (by decide) (fun h => ?_) (fun h => ?_)
    · refine v_sub [0] rfl ?_
      exact q_X11_note_44 l1 l2 l3 l4 r τ σ h
    · refine v_iload_n 23 3 dX11_note_22 rfl rfl rfl ?_
      refine v_iconst 24 0 dX11_note_23 kc_i_0 rfl ?_
      refine v_bipush 26 99 dX11_note_24 kc_b_99 rfl ?_
      refine v_cS 29 [.int l3, .int 0, .int 99] (c_X11_between l3 0 99) cl_X11_between gX11_note_X11_between ⟨Nat.le_of_ble_eq_true rfl, Nat.le_of_ble_eq_true rfl⟩ rfl rfl (Nat.le_of_ble_eq_true rfl) dX11_note_26 rfl ?_
      refine v_if_eq 32 44 h dX11_note_29 rfl (by decide) (fun h => ?_) (fun h => ?_)
      · refine v_sub [0] rfl ?_
        exact q_X11_note_44 l1 l2 l3 l4 r τ σ h
      · refine v_iload 34 4 dX11_note_32 rfl rfl ?_
        refine v_iconst 35 1 dX11_note_34 kc_i_1 rfl ?_
        refine v_sipush 38 250 dX11_note_35 kc_s_250 rfl ?_
        refine v_cS 41 [.int l4, .int 1, .int 250] (c_X11_between l4 1 250) cl_X11_between gX11_note_X11_between ⟨Nat.le_of_ble_eq_true rfl, Nat.le_of_ble_eq_true rfl⟩ rfl rfl (Nat.le_of_ble_eq_true rfl) dX11_note_38 rfl ?_
        refine v_if_ne 44 51 h dX11_note_41 rfl (by decide) (fun h => ?_) (fun h => ?_)
        · refine v_aload_n 52 0 dX11_note_51 rfl rfl rfl ?_
          refine vg_7_0 55 (rfl : kK 0 = 7) in_X11_note_7 (mem_at 1 rfl) dX11_note_52 rfl ?_
          refine vg_0_5 58 12 (rfl : kK 1 = 0) in_X11_note_0 (mem_at 2 rfl) rfl dX11_note_55 rfl ?_
          refine v_cV 61 4 [] (rfl : kK 12 = 4) rfl (c_X7_isFull 12 (rfl : kK 12 = 4)) cl_X7_isFull gX11_note_X7_isFull rfl ⟨Nat.le_of_ble_eq_true rfl, Nat.le_of_ble_eq_true rfl⟩ rfl rfl (Nat.le_of_ble_eq_true rfl) dX11_note_58 rfl ?_
          refine v_if_eq 64 69 h dX11_note_61 rfl (by decide) (fun h => ?_) (fun h => ?_)
          · refine v_aload_n 70 0 dX11_note_69 rfl rfl rfl ?_
            refine vg_7_0 73 (rfl : kK 0 = 7) in_X11_note_7 (mem_at 1 rfl) dX11_note_70 rfl ?_
            refine vg_0_5 76 12 (rfl : kK 1 = 0) in_X11_note_0 (mem_at 2 rfl) rfl dX11_note_73 rfl ?_
            refine v_iload_n 77 1 dX11_note_76 rfl rfl rfl ?_
            obtain ⟨s3, h0, h⟩ := ob h
            refine v_cV 80 4 [.int l1] (rfl : kK 12 = 4) rfl (c_X7_add 12 l1 (rfl : kK 12 = 4) _ h0) cl_X7_add gX11_note_X7_add rfl ⟨Nat.le_of_ble_eq_true rfl, Nat.le_of_ble_eq_true rfl⟩ rfl rfl (Nat.le_of_ble_eq_true rfl) dX11_note_77 rfl ?_
            refine v_aload_n 81 0 dX11_note_80 rfl rfl rfl ?_
            refine vg_7_0 84 (rfl : kK 0 = 7) in_X11_note_7 (mem_at 1 rfl) dX11_note_81 rfl ?_
            refine vg_0_5 87 12 (rfl : kK 1 = 0) in_X11_note_0 (mem_at 2 rfl) rfl dX11_note_84 rfl ?_
            refine v_iload_n 88 2 dX11_note_87 rfl rfl rfl ?_
            obtain ⟨s4, h0, h⟩ := ob h
            refine v_cV 91 4 [.int l2] (rfl : kK 12 = 4) rfl (c_X7_add 12 l2 (rfl : kK 12 = 4) _ h0) cl_X7_add gX11_note_X7_add rfl ⟨Nat.le_of_ble_eq_true rfl, Nat.le_of_ble_eq_true rfl⟩ rfl rfl (Nat.le_of_ble_eq_true rfl) dX11_note_88 rfl ?_
            refine v_aload_n 92 0 dX11_note_91 rfl rfl rfl ?_
            refine vg_7_0 95 (rfl : kK 0 = 7) in_X11_note_7 (mem_at 1 rfl) dX11_note_92 rfl ?_
            refine vg_0_5 98 12 (rfl : kK 1 = 0) in_X11_note_0 (mem_at 2 rfl) rfl dX11_note_95 rfl ?_
            refine v_iload_n 99 3 dX11_note_98 rfl rfl rfl ?_
            obtain ⟨s5, h0, h⟩ := ob h
            refine v_cV 102 4 [.int l3] (rfl : kK 12 = 4) rfl (c_X7_add 12 l3 (rfl : kK 12 = 4) _ h0) cl_X7_add gX11_note_X7_add rfl ⟨Nat.le_of_ble_eq_true rfl, Nat.le_of_ble_eq_true rfl⟩ rfl rfl (Nat.le_of_ble_eq_true rfl) dX11_note_99 rfl ?_
            refine v_aload_n 103 0 dX11_note_102 rfl rfl rfl ?_
            refine vg_7_0 106 (rfl : kK 0 = 7) in_X11_note_7 (mem_at 1 rfl) dX11_note_103 rfl ?_
            refine vg_0_5 109 12 (rfl : kK 1 = 0) in_X11_note_0 (mem_at 2 rfl) rfl dX11_note_106 rfl ?_
            refine v_iload 111 4 dX11_note_109 rfl rfl ?_
            obtain ⟨s6, h0, h⟩ := ob h
            refine v_cV 114 4 [.int l4] (rfl : kK 12 = 4) rfl (c_X7_add 12 l4 (rfl : kK 12 = 4) _ h0) cl_X7_add gX11_note_X7_add rfl ⟨Nat.le_of_ble_eq_true rfl, Nat.le_of_ble_eq_true rfl⟩ rfl rfl (Nat.le_of_ble_eq_true rfl) dX11_note_111 rfl ?_
            refine v_aload_n 115 0 dX11_note_114 rfl rfl rfl ?_
            refine vg_7_0 118 (rfl : kK 0 = 7) in_X11_note_7 (mem_at 1 rfl) dX11_note_115 rfl ?_
            refine v_cV 121 0 [] (rfl : kK 1 = 0) rfl (c_X3_noteCount 1 (rfl : kK 1 = 0)) cl_X3_noteCount gX11_note_X3_noteCount rfl ⟨Nat.le_of_ble_eq_true rfl, Nat.le_of_ble_eq_true rfl⟩ rfl rfl (Nat.le_of_ble_eq_true rfl) dX11_note_118 rfl ?_
            exact v_iretS h rfl dX11_note_121
          · refine v_aload_n 65 0 dX11_note_64 rfl rfl rfl ?_
            obtain ⟨x7, s8, h0, h⟩ := ob2 h
            refine v_cV 68 7 [] (rfl : kK 0 = 7) rfl (c_X11_refuseFull _ _ h0) cl_X11_refuseFull gX11_note_X11_refuseFull rfl ⟨Nat.le_of_ble_eq_true rfl, Nat.le_of_ble_eq_true rfl⟩ rfl rfl (Nat.le_of_ble_eq_true rfl) dX11_note_65 rfl ?_
            exact v_iretS h rfl dX11_note_68
        · refine v_sub [0] rfl ?_
          exact q_X11_note_44 l1 l2 l3 l4 r τ σ h
-- public int of(int, int);
abbrev rm_X11_of : Room := { frames := 3, cells := 0, slots := 0, locals := 64 }
theorem cl_X11_of : Cl yX11_of wsX11_of cX11_of 3 (some .int) rm_X11_of 2 := ⟨⟨_, rfl⟩, rfl, rfl, by decide +kernel, by decide +kernel, by decide +kernel⟩
theorem in_X11_of_7 : ∀ w ∈ wsX110, w ∈ wsX11_of := fun w h => List.mem_cons_of_mem _ (List.mem_append_left _ (List.mem_append_left _ (List.mem_append_left _ (List.mem_append_right _ h))))
def b_X11_of_20 (l1 : Int32) (l2 : Int32) (σ : Sg) : Option (Int32 × Sg) := bnd (f_X11_refuseBad σ (-2)) fun x1 s2 => (some (x1, s2))
def f_X11_of (σ : Sg) (l1 : Int32) (l2 : Int32) : Option (Int32 × Sg) := (if (f_X3_hasKeeper σ 1 l1) = 0 then b_X11_of_20 l1 l2 σ else (if (f_X11_between l2 0 5) = 0 then b_X11_of_20 l1 l2 σ else (f_X3_toldOf σ 1 l1 l2).bind fun x3 => (some (x3, σ))))
set_option maxRecDepth 100000 in
set_option maxHeartbeats 4000000 in
theorem q_X11_of_20 {g : Cx} (l1 : Int32) (l2 : Int32) (r : Int32) (τ : Sg) : ∀ σ : Sg, b_X11_of_20 l1 l2 σ = some (r, τ) → V g cX11_of RX11 wsX11_of 3 (some .int) rm_X11_of (some (.int r)) τ σ 20 [(0, .ref (g.1 0))] [] := by
  intro σ h
  unfold b_X11_of_20 at h
  refine v_aload_n 21 0 dX11_of_20 rfl rfl rfl ?_
  refine v_bipush 23 (-2) dX11_of_21 kc_b_m2 rfl ?_
  obtain ⟨x1, s2, h0, h⟩ := ob2 h
  refine v_cV 26 7 [.int (-2)] (rfl : kK 0 = 7) rfl (c_X11_refuseBad (-2) _ _ h0) cl_X11_refuseBad gX11_of_X11_refuseBad rfl ⟨Nat.le_of_ble_eq_true rfl, Nat.le_of_ble_eq_true rfl⟩ rfl rfl (Nat.le_of_ble_eq_true rfl) dX11_of_23 rfl ?_
  exact v_iretS h rfl dX11_of_26
set_option maxRecDepth 100000 in
set_option maxHeartbeats 4000000 in
theorem c_X11_of {g : Cx} {σ : Sg} (l1 : Int32) (l2 : Int32) (r : Int32) (τ : Sg) (h : f_X11_of σ l1 l2 = some (r, τ)) : ∀ l, MetF l yX11_of wsX11_of rm_X11_of g [.ref (g.1 0), .int l1, .int l2] σ (some (.int r)) τ := by
  refine MetF.of (own0 := RX11) (lv0 := [(0, .ref (g.1 0)), (1, .int l1), (2, .int l2)]) rfl cl_X11_of (by decide) (Nat.le_of_ble_eq_true rfl) rfl ?_
  unfold f_X11_of at h
  refine v_aload_n 1 0 dX11_of_0 rfl rfl rfl ?_
  refine vg_7_0 4 (rfl : kK 0 = 7) in_X11_of_7 (mem_at 1 rfl) dX11_of_1 rfl ?_
  refine v_iload_n 5 1 dX11_of_4 rfl rfl rfl ?_
  refine v_cV 8 0 [.int l1] (rfl : kK 1 = 0) rfl (c_X3_hasKeeper 1 l1 (rfl : kK 1 = 0)) cl_X3_hasKeeper gX11_of_X3_hasKeeper rfl ⟨Nat.le_of_ble_eq_true rfl, Nat.le_of_ble_eq_true rfl⟩ rfl rfl (Nat.le_of_ble_eq_true rfl) dX11_of_5 rfl ?_
  refine v_if_eq 11 20 h dX11_of_8 rfl (by decide) (fun h => ?_) (fun h => ?_)
  · refine v_sub [0] rfl ?_
    exact q_X11_of_20 l1 l2 r τ σ h
  · refine v_iload_n 12 2 dX11_of_11 rfl rfl rfl ?_
    refine v_iconst 13 0 dX11_of_12 kc_i_0 rfl ?_
    refine v_iconst 14 5 dX11_of_13 kc_i_5 rfl ?_
    refine v_cS 17 [.int l2, .int 0, .int 5] (c_X11_between l2 0 5) cl_X11_between gX11_of_X11_between ⟨Nat.le_of_ble_eq_true rfl, Nat.le_of_ble_eq_true rfl⟩ rfl rfl (Nat.le_of_ble_eq_true rfl) dX11_of_14 rfl ?_
    refine v_if_ne 20 27 h dX11_of_17 rfl (by decide) (fun h => ?_) (fun h => ?_)
    · refine v_aload_n 28 0 dX11_of_27 rfl rfl rfl ?_
      refine vg_7_0 31 (rfl : kK 0 = 7) in_X11_of_7 (mem_at 1 rfl) dX11_of_28 rfl ?_
      refine v_iload_n 32 1 dX11_of_31 rfl rfl rfl ?_
      refine v_iload_n 33 2 dX11_of_32 rfl rfl rfl ?_
      obtain ⟨x3, h0, h⟩ := ob h
      refine v_cV 36 0 [.int l1, .int l2] (rfl : kK 1 = 0) rfl (c_X3_toldOf 1 l1 l2 (rfl : kK 1 = 0) _ h0) cl_X3_toldOf gX11_of_X3_toldOf rfl ⟨Nat.le_of_ble_eq_true rfl, Nat.le_of_ble_eq_true rfl⟩ rfl rfl (Nat.le_of_ble_eq_true rfl) dX11_of_33 rfl ?_
      exact v_iretS h rfl dX11_of_36
    · refine v_sub [0] rfl ?_
      exact q_X11_of_20 l1 l2 r τ σ h
-- public int off(int, int);
abbrev rm_X11_off : Room := { frames := 3, cells := 0, slots := 0, locals := 61 }
theorem cl_X11_off : Cl yX11_off wsX11_off cX11_off 5 (some .int) rm_X11_off 2 := ⟨⟨_, rfl⟩, rfl, rfl, by decide +kernel, by decide +kernel, by decide +kernel⟩
theorem in_X11_off_7 : ∀ w ∈ wsX110, w ∈ wsX11_off := fun w h => List.mem_cons_of_mem _ (List.mem_append_left _ (List.mem_append_left _ (List.mem_append_left _ (List.mem_append_right _ h))))
theorem in_X11_off_0 : ∀ w ∈ wsX30, w ∈ wsX11_off := fun w h => List.mem_cons_of_mem _ (List.mem_append_left _ (List.mem_append_left _ (List.mem_append_right _ h)))
theorem in_X11_off_1 : ∀ w ∈ wsX40, w ∈ wsX11_off := fun w h => List.mem_cons_of_mem _ (List.mem_append_left _ (List.mem_append_right _ h))
def b_X11_off_21 (l1 : Int32) (l2 : Int32) (σ : Sg) : Option (Int32 × Sg) := bnd (f_X11_refuseBad σ (-2)) fun x1 s2 => (some (x1, s2))
def b_X11_off_46 (l1 : Int32) (l2 : Int32) : Nat → Sg → Int32 → Int32 → Option (Int32 × Sg)
  | 0, _, _, _ => none
  | f + 1, σ, l3, l4 => (if 99 < l4 then (some ((-1), σ)) else (f_X7_at σ 6 l1).bind fun x4 => (if (if 0 ≤ (l3 - x4) then (l3 - x4) else 0 - (l3 - x4)) < l2 then (f_X7_at σ 2 l1).bind fun x5 => nam (f_X2_behind x5 l3 ((rI σ 18 0) + l4)) fun x6 => nam (l4 + 1) fun x7 => b_X11_off_46 l1 l2 f σ x6 x7 else (some (l4, σ))))
def f_X11_off (σ : Sg) (l1 : Int32) (l2 : Int32) : Option (Int32 × Sg) := (if (f_X3_hasKeeper σ 1 l1) = 0 then b_X11_off_21 l1 l2 σ else (if (f_X11_between l2 1 99) = 0 then b_X11_off_21 l1 l2 σ else (f_X7_at σ 19 l1).bind fun x3 => b_X11_off_46 l1 l2 FU σ x3 0))
set_option maxRecDepth 100000 in
set_option maxHeartbeats 4000000 in
theorem q_X11_off_21 {g : Cx} (l1 : Int32) (l2 : Int32) (r : Int32) (τ : Sg) : ∀ σ : Sg, b_X11_off_21 l1 l2 σ = some (r, τ) → V g cX11_off RX11 wsX11_off 5 (some .int) rm_X11_off (some (.int r)) τ σ 21 [(0, .ref (g.1 0))] [] := by
  intro σ h
  unfold b_X11_off_21 at h
  refine v_aload_n 22 0 dX11_off_21 rfl rfl rfl ?_
  refine v_bipush 24 (-2) dX11_off_22 kc_b_m2 rfl ?_
  obtain ⟨x1, s2, h0, h⟩ := ob2 h
  refine v_cV 27 7 [.int (-2)] (rfl : kK 0 = 7) rfl (c_X11_refuseBad (-2) _ _ h0) cl_X11_refuseBad gX11_off_X11_refuseBad rfl ⟨Nat.le_of_ble_eq_true rfl, Nat.le_of_ble_eq_true rfl⟩ rfl rfl (Nat.le_of_ble_eq_true rfl) dX11_off_24 rfl ?_
  exact v_iretS h rfl dX11_off_27
set_option maxRecDepth 100000 in
set_option maxHeartbeats 4000000 in
theorem q_X11_off_46 {g : Cx} (l1 : Int32) (l2 : Int32) (r : Int32) (τ : Sg) : ∀ f : Nat, ∀ σ : Sg, ∀ l3 : Int32, ∀ l4 : Int32, b_X11_off_46 l1 l2 f σ l3 l4 = some (r, τ) → V g cX11_off RX11 wsX11_off 5 (some .int) rm_X11_off (some (.int r)) τ σ 46 [(0, .ref (g.1 0)), (1, .int l1), (2, .int l2), (3, .int l3), (4, .int l4)] [] := by
  intro f
  induction f with
  | zero =>
    intro σ l3 l4 h
    cases h
  | succ f ih =>
    intro σ l3 l4 h
    rw [b_X11_off_46] at h
    refine v_iload 48 4 dX11_off_46 rfl rfl ?_
    refine v_bipush 50 99 dX11_off_48 kc_b_99 rfl ?_
    refine v_icmp_gt 53 111 h dX11_off_50 rfl (by decide) (fun h => ?_) (fun h => ?_)
    · refine v_iconst 112 (-1) dX11_off_111 kc_i_m1 rfl ?_
      exact v_iretS h rfl dX11_off_112
    · refine v_iload_n 54 3 dX11_off_53 rfl rfl rfl ?_
      refine v_aload_n 55 0 dX11_off_54 rfl rfl rfl ?_
      refine vg_7_0 58 (rfl : kK 0 = 7) in_X11_off_7 (mem_at 1 rfl) dX11_off_55 rfl ?_
      refine vg_0_2 61 6 (rfl : kK 1 = 0) in_X11_off_0 (mem_at 4 rfl) rfl dX11_off_58 rfl ?_
      refine v_iload_n 62 1 dX11_off_61 rfl rfl rfl ?_
      obtain ⟨x4, h0, h⟩ := ob h
      refine v_cV 65 4 [.int l1] (rfl : kK 6 = 4) rfl (c_X7_at 6 l1 (rfl : kK 6 = 4) _ h0) cl_X7_at gX11_off_X7_at rfl ⟨Nat.le_of_ble_eq_true rfl, Nat.le_of_ble_eq_true rfl⟩ rfl rfl (Nat.le_of_ble_eq_true rfl) dX11_off_62 rfl ?_
      refine v_isub 66 dX11_off_65 rfl ?_
      refine v_abs 69 (mem_at 5 rfl) (mem_at 6 rfl) (mem_at 7 rfl) (mem_at 8 rfl) ⟨Nat.le_of_ble_eq_true rfl, Nat.le_of_ble_eq_true rfl⟩ (Nat.le_of_ble_eq_true rfl) dX11_off_66 rfl ?_
      refine v_iload_n 70 2 dX11_off_69 rfl rfl rfl ?_
      refine v_icmp_lt 73 76 h dX11_off_70 rfl (by decide) (fun h => ?_) (fun h => ?_)
      · refine v_aload_n 77 0 dX11_off_76 rfl rfl rfl ?_
        refine vg_7_0 80 (rfl : kK 0 = 7) in_X11_off_7 (mem_at 1 rfl) dX11_off_77 rfl ?_
        refine vg_0_0 83 2 (rfl : kK 1 = 0) in_X11_off_0 (mem_at 9 rfl) rfl dX11_off_80 rfl ?_
        refine v_iload_n 84 1 dX11_off_83 rfl rfl rfl ?_
        obtain ⟨x5, h0, h⟩ := ob h
        refine v_cV 87 4 [.int l1] (rfl : kK 2 = 4) rfl (c_X7_at 2 l1 (rfl : kK 2 = 4) _ h0) cl_X7_at gX11_off_X7_at rfl ⟨Nat.le_of_ble_eq_true rfl, Nat.le_of_ble_eq_true rfl⟩ rfl rfl (Nat.le_of_ble_eq_true rfl) dX11_off_84 rfl ?_
        refine v_iload_n 88 3 dX11_off_87 rfl rfl rfl ?_
        refine v_aload_n 89 0 dX11_off_88 rfl rfl rfl ?_
        refine vg_7_0 92 (rfl : kK 0 = 7) in_X11_off_7 (mem_at 1 rfl) dX11_off_89 rfl ?_
        refine vg_0_8 95 18 (rfl : kK 1 = 0) in_X11_off_0 (mem_at 2 rfl) rfl dX11_off_92 rfl ?_
        refine vg_1_0 98 (rfl : kK 18 = 1) in_X11_off_1 (mem_at 10 rfl) dX11_off_95 rfl ?_
        refine v_iload 100 4 dX11_off_98 rfl rfl ?_
        refine v_iadd 101 dX11_off_100 rfl ?_
        refine v_cS 104 [.int x5, .int l3, .int ((rI σ 18 0) + l4)] (c_X2_behind x5 l3 ((rI σ 18 0) + l4)) cl_X2_behind gX11_off_X2_behind ⟨Nat.le_of_ble_eq_true rfl, Nat.le_of_ble_eq_true rfl⟩ rfl rfl (Nat.le_of_ble_eq_true rfl) dX11_off_101 rfl ?_
        refine v_istoreN_n 105 h dX11_off_104 rfl (by decide) rfl (fun _ => rfl) (fun x6 h => ?_)
        refine v_iincN 108 4 h dX11_off_105 rfl kc_i_1 (by decide) rfl (fun _ => rfl) (fun x7 h => ?_)
        refine v_goto 46 dX11_off_108 (by decide) ?_
        refine v_sub [2, 3, 4, 1, 0] rfl ?_
        exact ih σ x6 x7 h
      · refine v_iload 75 4 dX11_off_73 rfl rfl ?_
        exact v_iretS h rfl dX11_off_75
set_option maxRecDepth 100000 in
set_option maxHeartbeats 4000000 in
theorem c_X11_off {g : Cx} {σ : Sg} (l1 : Int32) (l2 : Int32) (r : Int32) (τ : Sg) (h : f_X11_off σ l1 l2 = some (r, τ)) : ∀ l, MetF l yX11_off wsX11_off rm_X11_off g [.ref (g.1 0), .int l1, .int l2] σ (some (.int r)) τ := by
  refine MetF.of (own0 := RX11) (lv0 := [(0, .ref (g.1 0)), (1, .int l1), (2, .int l2)]) rfl cl_X11_off (by decide) (Nat.le_of_ble_eq_true rfl) rfl ?_
  unfold f_X11_off at h
  refine v_aload_n 1 0 dX11_off_0 rfl rfl rfl ?_
  refine vg_7_0 4 (rfl : kK 0 = 7) in_X11_off_7 (mem_at 1 rfl) dX11_off_1 rfl ?_
  refine v_iload_n 5 1 dX11_off_4 rfl rfl rfl ?_
  refine v_cV 8 0 [.int l1] (rfl : kK 1 = 0) rfl (c_X3_hasKeeper 1 l1 (rfl : kK 1 = 0)) cl_X3_hasKeeper gX11_off_X3_hasKeeper rfl ⟨Nat.le_of_ble_eq_true rfl, Nat.le_of_ble_eq_true rfl⟩ rfl rfl (Nat.le_of_ble_eq_true rfl) dX11_off_5 rfl ?_
  refine v_if_eq 11 21 h dX11_off_8 rfl (by decide) (fun h => ?_) (fun h => ?_)
  · refine v_sub [0] rfl ?_
    exact q_X11_off_21 l1 l2 r τ σ h
  · refine v_iload_n 12 2 dX11_off_11 rfl rfl rfl ?_
    refine v_iconst 13 1 dX11_off_12 kc_i_1 rfl ?_
    refine v_bipush 15 99 dX11_off_13 kc_b_99 rfl ?_
    refine v_cS 18 [.int l2, .int 1, .int 99] (c_X11_between l2 1 99) cl_X11_between gX11_off_X11_between ⟨Nat.le_of_ble_eq_true rfl, Nat.le_of_ble_eq_true rfl⟩ rfl rfl (Nat.le_of_ble_eq_true rfl) dX11_off_15 rfl ?_
    refine v_if_ne 21 28 h dX11_off_18 rfl (by decide) (fun h => ?_) (fun h => ?_)
    · refine v_aload_n 29 0 dX11_off_28 rfl rfl rfl ?_
      refine vg_7_0 32 (rfl : kK 0 = 7) in_X11_off_7 (mem_at 1 rfl) dX11_off_29 rfl ?_
      refine vg_0_8 35 18 (rfl : kK 1 = 0) in_X11_off_0 (mem_at 2 rfl) rfl dX11_off_32 rfl ?_
      refine vg_1_2 38 19 (rfl : kK 18 = 1) in_X11_off_1 (mem_at 3 rfl) rfl dX11_off_35 rfl ?_
      refine v_iload_n 39 1 dX11_off_38 rfl rfl rfl ?_
      obtain ⟨x3, h0, h⟩ := ob h
      refine v_cV 42 4 [.int l1] (rfl : kK 19 = 4) rfl (c_X7_at 19 l1 (rfl : kK 19 = 4) _ h0) cl_X7_at gX11_off_X7_at rfl ⟨Nat.le_of_ble_eq_true rfl, Nat.le_of_ble_eq_true rfl⟩ rfl rfl (Nat.le_of_ble_eq_true rfl) dX11_off_39 rfl ?_
      refine v_istore_n 43 dX11_off_42 rfl (by decide) rfl rfl ?_
      refine v_iconst 44 0 dX11_off_43 kc_i_0 rfl ?_
      refine v_istore 46 dX11_off_44 (by decide) rfl rfl ?_
      refine v_sub [2, 3, 4, 1, 0] rfl ?_
      exact q_X11_off_46 l1 l2 r τ FU σ x3 0 h
    · refine v_sub [0] rfl ?_
      exact q_X11_off_21 l1 l2 r τ σ h
-- public long part(int);
abbrev rm_X11_part : Room := { frames := 1, cells := 0, slots := 0, locals := 22 }
theorem cl_X11_part : Cl yX11_part wsX11_part cX11_part 2 (some .long) rm_X11_part 1 := ⟨⟨_, rfl⟩, rfl, rfl, by decide +kernel, by decide +kernel, by decide +kernel⟩
theorem in_X11_part_7 : ∀ w ∈ wsX110, w ∈ wsX11_part := fun w h => List.mem_cons_of_mem _ (List.mem_append_right _ h)
def f_X11_part (σ : Sg) (l1 : Int32) : Option (Int64 × Sg) := (if (f_X11_between l1 0 1) = 0 then bnd (f_X11_refuseBad σ (-2)) fun x1 s2 => (some (Int32.toInt64 x1, s2)) else (if l1 = 0 then (some (rL σ 0 10, σ)) else (some (rL σ 0 11, σ))))
set_option maxRecDepth 100000 in
set_option maxHeartbeats 4000000 in
theorem c_X11_part {g : Cx} {σ : Sg} (l1 : Int32) (r : Int64) (τ : Sg) (h : f_X11_part σ l1 = some (r, τ)) : ∀ l, MetF l yX11_part wsX11_part rm_X11_part g [.ref (g.1 0), .int l1] σ (some (.long r)) τ := by
  refine MetF.of (own0 := RX11) (lv0 := [(0, .ref (g.1 0)), (1, .int l1)]) rfl cl_X11_part (by decide) (Nat.le_of_ble_eq_true rfl) rfl ?_
  unfold f_X11_part at h
  refine v_iload_n 1 1 dX11_part_0 rfl rfl rfl ?_
  refine v_iconst 2 0 dX11_part_1 kc_i_0 rfl ?_
  refine v_iconst 3 1 dX11_part_2 kc_i_1 rfl ?_
  refine v_cS 6 [.int l1, .int 0, .int 1] (c_X11_between l1 0 1) cl_X11_between gX11_part_X11_between ⟨Nat.le_of_ble_eq_true rfl, Nat.le_of_ble_eq_true rfl⟩ rfl rfl (Nat.le_of_ble_eq_true rfl) dX11_part_3 rfl ?_
  refine v_if_ne 9 17 h dX11_part_6 rfl (by decide) (fun h => ?_) (fun h => ?_)
  · refine v_iload_n 18 1 dX11_part_17 rfl rfl rfl ?_
    refine v_if_ne 21 28 h dX11_part_18 rfl (by decide) (fun h => ?_) (fun h => ?_)
    · refine v_aload_n 29 0 dX11_part_28 rfl rfl rfl ?_
      refine vg_7_11 32 (rfl : kK 0 = 7) in_X11_part_7 (mem_at 2 rfl) dX11_part_29 rfl ?_
      exact v_lretS h rfl dX11_part_32
    · refine v_aload_n 22 0 dX11_part_21 rfl rfl rfl ?_
      refine vg_7_10 25 (rfl : kK 0 = 7) in_X11_part_7 (mem_at 1 rfl) dX11_part_22 rfl ?_
      refine v_goto 32 dX11_part_25 (by decide) ?_
      exact v_lretS h rfl dX11_part_32
  · refine v_aload_n 10 0 dX11_part_9 rfl rfl rfl ?_
    refine v_bipush 12 (-2) dX11_part_10 kc_b_m2 rfl ?_
    obtain ⟨x1, s2, h0, h⟩ := ob2 h
    refine v_cV 15 7 [.int (-2)] (rfl : kK 0 = 7) rfl (c_X11_refuseBad (-2) _ _ h0) cl_X11_refuseBad gX11_part_X11_refuseBad rfl ⟨Nat.le_of_ble_eq_true rfl, Nat.le_of_ble_eq_true rfl⟩ rfl rfl (Nat.le_of_ble_eq_true rfl) dX11_part_12 rfl ?_
    refine v_i2l 16 dX11_part_15 rfl ?_
    exact v_lretS h rfl dX11_part_16
-- public int read();
abbrev rm_X11_read : Room := { frames := 9, cells := 0, slots := 0, locals := 226 }
theorem cl_X11_read : Cl yX11_read wsX11_read cX11_read 2 (some .int) rm_X11_read 0 := ⟨⟨_, rfl⟩, rfl, rfl, by decide +kernel, by decide +kernel, by decide +kernel⟩
theorem in_X11_read_7 : ∀ w ∈ wsX110, w ∈ wsX11_read := fun w h => List.mem_cons_of_mem _ (List.mem_append_left _ (List.mem_append_left _ (List.mem_append_left _ (List.mem_append_left _ (List.mem_append_right _ h)))))
theorem in_X11_read_5 : ∀ w ∈ wsX80, w ∈ wsX11_read := fun w h => List.mem_cons_of_mem _ (List.mem_append_left _ (List.mem_append_left _ (List.mem_append_left _ (List.mem_append_right _ h))))
def f_X11_read (σ : Sg) : Option (Int32 × Sg) := bnd (f_X8_readMarket σ) fun x1 s2 => (if x1 < 0 then (some (x1, s2)) else (f_X3_take s2 1 70).bind fun s3 => (some (x1, s3)))
set_option maxRecDepth 100000 in
set_option maxHeartbeats 4000000 in
theorem c_X11_read {g : Cx} {σ : Sg} (r : Int32) (τ : Sg) (h : f_X11_read σ = some (r, τ)) : ∀ l, MetF l yX11_read wsX11_read rm_X11_read g [.ref (g.1 0)] σ (some (.int r)) τ := by
  refine MetF.of (own0 := RX11) (lv0 := [(0, .ref (g.1 0))]) rfl cl_X11_read (by decide) (Nat.le_of_ble_eq_true rfl) rfl ?_
  unfold f_X11_read at h
  refine v_aload_n 1 0 dX11_read_0 rfl rfl rfl ?_
  refine vg_7_5 4 (rfl : kK 0 = 7) in_X11_read_7 (mem_at 1 rfl) dX11_read_1 rfl ?_
  obtain ⟨x1, s2, h0, h⟩ := ob2 h
  refine v_cV 7 5 [] (rfl : kK 69 = 5) rfl (c_X8_readMarket _ _ h0) cl_X8_readMarket gX11_read_X8_readMarket rfl ⟨Nat.le_of_ble_eq_true rfl, Nat.le_of_ble_eq_true rfl⟩ rfl rfl (Nat.le_of_ble_eq_true rfl) dX11_read_4 rfl ?_
  refine v_istore_n 8 dX11_read_7 rfl (by decide) rfl rfl ?_
  refine v_iload_n 9 0 dX11_read_8 rfl rfl rfl ?_
  refine v_if_lt 12 26 h dX11_read_9 rfl (by decide) (fun h => ?_) (fun h => ?_)
  · refine v_iload_n 27 0 dX11_read_26 rfl rfl rfl ?_
    exact v_iretS h rfl dX11_read_27
  · refine v_aload_n 13 1 dX11_read_12 rfl rfl rfl ?_
    refine vg_7_0 16 (rfl : kK 0 = 7) in_X11_read_7 (mem_at 2 rfl) dX11_read_13 rfl ?_
    refine v_aload_n 17 1 dX11_read_16 rfl rfl rfl ?_
    refine vg_7_5 20 (rfl : kK 0 = 7) in_X11_read_7 (mem_at 1 rfl) dX11_read_17 rfl ?_
    refine vg_5_0 23 70 (rfl : kK 69 = 5) in_X11_read_5 (mem_at 3 rfl) rfl dX11_read_20 rfl ?_
    obtain ⟨s3, h0, h⟩ := ob h
    refine v_cV 26 0 [.ref (g.1 70)] (rfl : kK 1 = 0) rfl (c_X3_take 1 70 (rfl : kK 1 = 0) (rfl : kK 70 = 0) _ h0) cl_X3_take gX11_read_X3_take rfl ⟨Nat.le_of_ble_eq_true rfl, Nat.le_of_ble_eq_true rfl⟩ rfl rfl (Nat.le_of_ble_eq_true rfl) dX11_read_23 rfl ?_
    refine v_iload_n 27 0 dX11_read_26 rfl rfl rfl ?_
    exact v_iretS h rfl dX11_read_27
-- public int reading(int, int, int);
abbrev rm_X11_reading : Room := { frames := 5, cells := 0, slots := 0, locals := 103 }
theorem cl_X11_reading : Cl yX11_reading wsX11_reading cX11_reading 4 (some .int) rm_X11_reading 3 := ⟨⟨_, rfl⟩, rfl, rfl, by decide +kernel, by decide +kernel, by decide +kernel⟩
theorem in_X11_reading_7 : ∀ w ∈ wsX110, w ∈ wsX11_reading := fun w h => List.mem_cons_of_mem _ (List.mem_append_left _ (List.mem_append_left _ (List.mem_append_right _ h)))
theorem in_X11_reading_0 : ∀ w ∈ wsX30, w ∈ wsX11_reading := fun w h => List.mem_cons_of_mem _ (List.mem_append_left _ (List.mem_append_right _ h))
def b_X11_reading_21 (l1 : Int32) (l2 : Int32) (l3 : Int32) (σ : Sg) : Option (Int32 × Sg) := bnd (f_X11_refuseBad σ (-2)) fun x1 s2 => (some (x1, s2))
def f_X11_reading (σ : Sg) (l1 : Int32) (l2 : Int32) (l3 : Int32) : Option (Int32 × Sg) := (if (f_X3_canLay σ 1 l1 l2) = 0 then b_X11_reading_21 l1 l2 l3 σ else (if (f_X11_between l3 (-1) 1) = 0 then b_X11_reading_21 l1 l2 l3 σ else (if (f_X7_isFull σ 10) = 0 then (f_X7_add σ 10 l1).bind fun s3 => (f_X7_add s3 10 l2).bind fun s4 => (f_X7_add s4 10 l3).bind fun s5 => (some (f_X3_readingCount s5 1, s5)) else bnd (f_X11_refuseFull σ) fun x6 s7 => (some (x6, s7)))))
set_option maxRecDepth 100000 in
set_option maxHeartbeats 4000000 in
theorem q_X11_reading_21 {g : Cx} (l1 : Int32) (l2 : Int32) (l3 : Int32) (r : Int32) (τ : Sg) : ∀ σ : Sg, b_X11_reading_21 l1 l2 l3 σ = some (r, τ) → V g cX11_reading RX11 wsX11_reading 4 (some .int) rm_X11_reading (some (.int r)) τ σ 21 [(0, .ref (g.1 0))] [] := by
  intro σ h
  unfold b_X11_reading_21 at h
  refine v_aload_n 22 0 dX11_reading_21 rfl rfl rfl ?_
  refine v_bipush 24 (-2) dX11_reading_22 kc_b_m2 rfl ?_
  obtain ⟨x1, s2, h0, h⟩ := ob2 h
  refine v_cV 27 7 [.int (-2)] (rfl : kK 0 = 7) rfl (c_X11_refuseBad (-2) _ _ h0) cl_X11_refuseBad gX11_reading_X11_refuseBad rfl ⟨Nat.le_of_ble_eq_true rfl, Nat.le_of_ble_eq_true rfl⟩ rfl rfl (Nat.le_of_ble_eq_true rfl) dX11_reading_24 rfl ?_
  exact v_iretS h rfl dX11_reading_27
set_option maxRecDepth 100000 in
set_option maxHeartbeats 4000000 in
theorem c_X11_reading {g : Cx} {σ : Sg} (l1 : Int32) (l2 : Int32) (l3 : Int32) (r : Int32) (τ : Sg) (h : f_X11_reading σ l1 l2 l3 = some (r, τ)) : ∀ l, MetF l yX11_reading wsX11_reading rm_X11_reading g [.ref (g.1 0), .int l1, .int l2, .int l3] σ (some (.int r)) τ := by
  refine MetF.of (own0 := RX11) (lv0 := [(0, .ref (g.1 0)), (1, .int l1), (2, .int l2), (3, .int l3)]) rfl cl_X11_reading (by decide) (Nat.le_of_ble_eq_true rfl) rfl ?_
  unfold f_X11_reading at h
  refine v_aload_n 1 0 dX11_reading_0 rfl rfl rfl ?_
  refine vg_7_0 4 (rfl : kK 0 = 7) in_X11_reading_7 (mem_at 1 rfl) dX11_reading_1 rfl ?_
  refine v_iload_n 5 1 dX11_reading_4 rfl rfl rfl ?_
  refine v_iload_n 6 2 dX11_reading_5 rfl rfl rfl ?_
  refine v_cV 9 0 [.int l1, .int l2] (rfl : kK 1 = 0) rfl (c_X3_canLay 1 l1 l2 (rfl : kK 1 = 0)) cl_X3_canLay gX11_reading_X3_canLay rfl ⟨Nat.le_of_ble_eq_true rfl, Nat.le_of_ble_eq_true rfl⟩ rfl rfl (Nat.le_of_ble_eq_true rfl) dX11_reading_6 rfl ?_
  refine v_if_eq 12 21 h dX11_reading_9 rfl (by decide) (fun h => ?_) (fun h => ?_)
  · refine v_sub [0] rfl ?_
    exact q_X11_reading_21 l1 l2 l3 r τ σ h
  · refine v_iload_n 13 3 dX11_reading_12 rfl rfl rfl ?_
    refine v_iconst 14 (-1) dX11_reading_13 kc_i_m1 rfl ?_
    refine v_iconst 15 1 dX11_reading_14 kc_i_1 rfl ?_
    refine v_cS 18 [.int l3, .int (-1), .int 1] (c_X11_between l3 (-1) 1) cl_X11_between gX11_reading_X11_between ⟨Nat.le_of_ble_eq_true rfl, Nat.le_of_ble_eq_true rfl⟩ rfl rfl (Nat.le_of_ble_eq_true rfl) dX11_reading_15 rfl ?_
    refine v_if_ne 21 28 h dX11_reading_18 rfl (by decide) (fun h => ?_) (fun h => ?_)
    · refine v_aload_n 29 0 dX11_reading_28 rfl rfl rfl ?_
      refine vg_7_0 32 (rfl : kK 0 = 7) in_X11_reading_7 (mem_at 1 rfl) dX11_reading_29 rfl ?_
      refine vg_0_4 35 10 (rfl : kK 1 = 0) in_X11_reading_0 (mem_at 2 rfl) rfl dX11_reading_32 rfl ?_
      refine v_cV 38 4 [] (rfl : kK 10 = 4) rfl (c_X7_isFull 10 (rfl : kK 10 = 4)) cl_X7_isFull gX11_reading_X7_isFull rfl ⟨Nat.le_of_ble_eq_true rfl, Nat.le_of_ble_eq_true rfl⟩ rfl rfl (Nat.le_of_ble_eq_true rfl) dX11_reading_35 rfl ?_
      refine v_if_eq 41 46 h dX11_reading_38 rfl (by decide) (fun h => ?_) (fun h => ?_)
      · refine v_aload_n 47 0 dX11_reading_46 rfl rfl rfl ?_
        refine vg_7_0 50 (rfl : kK 0 = 7) in_X11_reading_7 (mem_at 1 rfl) dX11_reading_47 rfl ?_
        refine vg_0_4 53 10 (rfl : kK 1 = 0) in_X11_reading_0 (mem_at 2 rfl) rfl dX11_reading_50 rfl ?_
        refine v_iload_n 54 1 dX11_reading_53 rfl rfl rfl ?_
        obtain ⟨s3, h0, h⟩ := ob h
        refine v_cV 57 4 [.int l1] (rfl : kK 10 = 4) rfl (c_X7_add 10 l1 (rfl : kK 10 = 4) _ h0) cl_X7_add gX11_reading_X7_add rfl ⟨Nat.le_of_ble_eq_true rfl, Nat.le_of_ble_eq_true rfl⟩ rfl rfl (Nat.le_of_ble_eq_true rfl) dX11_reading_54 rfl ?_
        refine v_aload_n 58 0 dX11_reading_57 rfl rfl rfl ?_
        refine vg_7_0 61 (rfl : kK 0 = 7) in_X11_reading_7 (mem_at 1 rfl) dX11_reading_58 rfl ?_
        refine vg_0_4 64 10 (rfl : kK 1 = 0) in_X11_reading_0 (mem_at 2 rfl) rfl dX11_reading_61 rfl ?_
        refine v_iload_n 65 2 dX11_reading_64 rfl rfl rfl ?_
        obtain ⟨s4, h0, h⟩ := ob h
        refine v_cV 68 4 [.int l2] (rfl : kK 10 = 4) rfl (c_X7_add 10 l2 (rfl : kK 10 = 4) _ h0) cl_X7_add gX11_reading_X7_add rfl ⟨Nat.le_of_ble_eq_true rfl, Nat.le_of_ble_eq_true rfl⟩ rfl rfl (Nat.le_of_ble_eq_true rfl) dX11_reading_65 rfl ?_
        refine v_aload_n 69 0 dX11_reading_68 rfl rfl rfl ?_
        refine vg_7_0 72 (rfl : kK 0 = 7) in_X11_reading_7 (mem_at 1 rfl) dX11_reading_69 rfl ?_
        refine vg_0_4 75 10 (rfl : kK 1 = 0) in_X11_reading_0 (mem_at 2 rfl) rfl dX11_reading_72 rfl ?_
        refine v_iload_n 76 3 dX11_reading_75 rfl rfl rfl ?_
        obtain ⟨s5, h0, h⟩ := ob h
        refine v_cV 79 4 [.int l3] (rfl : kK 10 = 4) rfl (c_X7_add 10 l3 (rfl : kK 10 = 4) _ h0) cl_X7_add gX11_reading_X7_add rfl ⟨Nat.le_of_ble_eq_true rfl, Nat.le_of_ble_eq_true rfl⟩ rfl rfl (Nat.le_of_ble_eq_true rfl) dX11_reading_76 rfl ?_
        refine v_aload_n 80 0 dX11_reading_79 rfl rfl rfl ?_
        refine vg_7_0 83 (rfl : kK 0 = 7) in_X11_reading_7 (mem_at 1 rfl) dX11_reading_80 rfl ?_
        refine v_cV 86 0 [] (rfl : kK 1 = 0) rfl (c_X3_readingCount 1 (rfl : kK 1 = 0)) cl_X3_readingCount gX11_reading_X3_readingCount rfl ⟨Nat.le_of_ble_eq_true rfl, Nat.le_of_ble_eq_true rfl⟩ rfl rfl (Nat.le_of_ble_eq_true rfl) dX11_reading_83 rfl ?_
        exact v_iretS h rfl dX11_reading_86
      · refine v_aload_n 42 0 dX11_reading_41 rfl rfl rfl ?_
        obtain ⟨x6, s7, h0, h⟩ := ob2 h
        refine v_cV 45 7 [] (rfl : kK 0 = 7) rfl (c_X11_refuseFull _ _ h0) cl_X11_refuseFull gX11_reading_X11_refuseFull rfl ⟨Nat.le_of_ble_eq_true rfl, Nat.le_of_ble_eq_true rfl⟩ rfl rfl (Nat.le_of_ble_eq_true rfl) dX11_reading_42 rfl ?_
        exact v_iretS h rfl dX11_reading_45
    · refine v_sub [0] rfl ?_
      exact q_X11_reading_21 l1 l2 l3 r τ σ h
-- public int refusals(int, int, int);
abbrev rm_X11_refusals : Room := { frames := 4, cells := 0, slots := 0, locals := 81 }
theorem cl_X11_refusals : Cl yX11_refusals wsX11_refusals cX11_refusals 9 (some .int) rm_X11_refusals 3 := ⟨⟨_, rfl⟩, rfl, rfl, by decide +kernel, by decide +kernel, by decide +kernel⟩
theorem in_X11_refusals_7 : ∀ w ∈ wsX110, w ∈ wsX11_refusals := fun w h => List.mem_cons_of_mem _ (List.mem_append_left _ (List.mem_append_left _ (List.mem_append_left _ (List.mem_append_right _ h))))
theorem in_X11_refusals_0 : ∀ w ∈ wsX30, w ∈ wsX11_refusals := fun w h => List.mem_cons_of_mem _ (List.mem_append_left _ (List.mem_append_left _ (List.mem_append_right _ h)))
def b_X11_refusals_31 (l1 : Int32) (l2 : Int32) (l3 : Int32) (σ : Sg) : Option (Int32 × Sg) := bnd (f_X11_refuseBad σ (-2)) fun x1 s2 => (some (x1, s2))
def b_X11_refusals_113 (l1 : Int32) (l2 : Int32) (l3 : Int32) (c47 : Sg → Int64 → Int64 → Int32 → Option (Int32 × Sg)) (σ : Sg) (l4 : Int64) (l6 : Int64) (l8 : Int32) : Option (Int32 × Sg) := nam (l8 + 1) fun x4 => c47 σ l4 l6 x4
def b_X11_refusals_102 (l1 : Int32) (l2 : Int32) (l3 : Int32) (c47 : Sg → Int64 → Int64 → Int32 → Option (Int32 × Sg)) (σ : Sg) (l6 : Int64) (l8 : Int32) (t0 : Int64) (t1 : Int64) : Option (Int32 × Sg) := nam (t1 * t0) fun x6 => nam (l6 * 10) fun x7 => b_X11_refusals_113 l1 l2 l3 c47 σ x6 x7 l8
def b_X11_refusals_47 (l1 : Int32) (l2 : Int32) (l3 : Int32) : Nat → Sg → Int64 → Int64 → Int32 → Option (Int32 × Sg)
  | 0, _, _, _, _ => none
  | f + 1, σ, l4, l6, l8 => (if 7 ≤ l8 then (f_X11_keepFraction σ l4 l6).bind fun s3 => (some (1, s3)) else (if (f_X11_hasBit l1 l8) = 0 then b_X11_refusals_113 l1 l2 l3 (b_X11_refusals_47 l1 l2 l3 f) σ l4 l6 l8 else (if (f_X4_isLent σ 18 l8) = 0 then (f_X3_wouldLend σ 1 l8 l2).bind fun x5 => (if x5 = 0 then b_X11_refusals_102 l1 l2 l3 (b_X11_refusals_47 l1 l2 l3 f) σ l6 l8 0 l4 else b_X11_refusals_102 l1 l2 l3 (b_X11_refusals_47 l1 l2 l3 f) σ l6 l8 (Int32.toInt64 (10 - l3)) l4) else b_X11_refusals_113 l1 l2 l3 (b_X11_refusals_47 l1 l2 l3 f) σ l4 l6 l8)))
def f_X11_refusals (σ : Sg) (l1 : Int32) (l2 : Int32) (l3 : Int32) : Option (Int32 × Sg) := (if (f_X3_hasStones σ 1 l1) = 0 then b_X11_refusals_31 l1 l2 l3 σ else (if (f_X11_between l2 0 9) = 0 then b_X11_refusals_31 l1 l2 l3 σ else (if (f_X11_between l3 0 10) = 0 then b_X11_refusals_31 l1 l2 l3 σ else b_X11_refusals_47 l1 l2 l3 FU σ 1 1 0)))
set_option maxRecDepth 100000 in
set_option maxHeartbeats 4000000 in
theorem q_X11_refusals_31 {g : Cx} (l1 : Int32) (l2 : Int32) (l3 : Int32) (r : Int32) (τ : Sg) : ∀ σ : Sg, b_X11_refusals_31 l1 l2 l3 σ = some (r, τ) → V g cX11_refusals RX11 wsX11_refusals 9 (some .int) rm_X11_refusals (some (.int r)) τ σ 31 [(0, .ref (g.1 0))] [] := by
  intro σ h
  unfold b_X11_refusals_31 at h
  refine v_aload_n 32 0 dX11_refusals_31 rfl rfl rfl ?_
  refine v_bipush 34 (-2) dX11_refusals_32 kc_b_m2 rfl ?_
  obtain ⟨x1, s2, h0, h⟩ := ob2 h
  refine v_cV 37 7 [.int (-2)] (rfl : kK 0 = 7) rfl (c_X11_refuseBad (-2) _ _ h0) cl_X11_refuseBad gX11_refusals_X11_refuseBad rfl ⟨Nat.le_of_ble_eq_true rfl, Nat.le_of_ble_eq_true rfl⟩ rfl rfl (Nat.le_of_ble_eq_true rfl) dX11_refusals_34 rfl ?_
  exact v_iretS h rfl dX11_refusals_37
set_option maxRecDepth 100000 in
set_option maxHeartbeats 4000000 in
theorem q_X11_refusals_113 {g : Cx} (l1 : Int32) (l2 : Int32) (l3 : Int32) (r : Int32) (τ : Sg) (c47 : Sg → Int64 → Int64 → Int32 → Option (Int32 × Sg)) (hc47 : ∀ σ : Sg, ∀ l4 : Int64, ∀ l6 : Int64, ∀ l8 : Int32, c47 σ l4 l6 l8 = some (r, τ) → V g cX11_refusals RX11 wsX11_refusals 9 (some .int) rm_X11_refusals (some (.int r)) τ σ 47 [(0, .ref (g.1 0)), (1, .int l1), (2, .int l2), (3, .int l3), (4, .long l4), (6, .long l6), (8, .int l8)] []) : ∀ σ : Sg, ∀ l4 : Int64, ∀ l6 : Int64, ∀ l8 : Int32, b_X11_refusals_113 l1 l2 l3 c47 σ l4 l6 l8 = some (r, τ) → V g cX11_refusals RX11 wsX11_refusals 9 (some .int) rm_X11_refusals (some (.int r)) τ σ 113 [(0, .ref (g.1 0)), (1, .int l1), (2, .int l2), (3, .int l3), (4, .long l4), (6, .long l6), (8, .int l8)] [] := by
  intro σ l4 l6 l8 h
  unfold b_X11_refusals_113 at h
  refine v_iincN 116 6 h dX11_refusals_113 rfl kc_i_1 (by decide) rfl (fun _ => rfl) (fun x4 h => ?_)
  refine v_goto 47 dX11_refusals_116 (by decide) ?_
  refine v_sub [1, 2, 3, 4, 5, 6, 0] rfl ?_
  exact hc47 σ l4 l6 x4 h
set_option maxRecDepth 100000 in
set_option maxHeartbeats 4000000 in
theorem q_X11_refusals_102 {g : Cx} (l1 : Int32) (l2 : Int32) (l3 : Int32) (r : Int32) (τ : Sg) (c47 : Sg → Int64 → Int64 → Int32 → Option (Int32 × Sg)) (hc47 : ∀ σ : Sg, ∀ l4 : Int64, ∀ l6 : Int64, ∀ l8 : Int32, c47 σ l4 l6 l8 = some (r, τ) → V g cX11_refusals RX11 wsX11_refusals 9 (some .int) rm_X11_refusals (some (.int r)) τ σ 47 [(0, .ref (g.1 0)), (1, .int l1), (2, .int l2), (3, .int l3), (4, .long l4), (6, .long l6), (8, .int l8)] []) : ∀ σ : Sg, ∀ l6 : Int64, ∀ l8 : Int32, ∀ t0 : Int64, ∀ t1 : Int64, b_X11_refusals_102 l1 l2 l3 c47 σ l6 l8 t0 t1 = some (r, τ) → V g cX11_refusals RX11 wsX11_refusals 9 (some .int) rm_X11_refusals (some (.int r)) τ σ 102 [(0, .ref (g.1 0)), (1, .int l1), (2, .int l2), (3, .int l3), (6, .long l6), (8, .int l8)] [.long t0, .long t1] := by
  intro σ l6 l8 t0 t1 h
  unfold b_X11_refusals_102 at h
  refine v_lmul 103 dX11_refusals_102 rfl ?_
  refine v_lstoreN 105 h dX11_refusals_103 (by decide) rfl (fun _ => rfl) (fun x6 h => ?_)
  refine v_lload 107 5 dX11_refusals_105 rfl rfl ?_
  refine v_ldc2 110 10 dX11_refusals_107 (mem_at 3 rfl) rfl ?_
  refine v_lmul 111 dX11_refusals_110 rfl ?_
  refine v_lstoreN 113 h dX11_refusals_111 (by decide) rfl (fun _ => rfl) (fun x7 h => ?_)
  refine v_sub [2, 3, 4, 5, 1, 0, 6] rfl ?_
  exact q_X11_refusals_113 l1 l2 l3 r τ c47 hc47 σ x6 x7 l8 h
set_option maxRecDepth 100000 in
set_option maxHeartbeats 4000000 in
theorem q_X11_refusals_47 {g : Cx} (l1 : Int32) (l2 : Int32) (l3 : Int32) (r : Int32) (τ : Sg) : ∀ f : Nat, ∀ σ : Sg, ∀ l4 : Int64, ∀ l6 : Int64, ∀ l8 : Int32, b_X11_refusals_47 l1 l2 l3 f σ l4 l6 l8 = some (r, τ) → V g cX11_refusals RX11 wsX11_refusals 9 (some .int) rm_X11_refusals (some (.int r)) τ σ 47 [(0, .ref (g.1 0)), (1, .int l1), (2, .int l2), (3, .int l3), (4, .long l4), (6, .long l6), (8, .int l8)] [] := by
  intro f
  induction f with
  | zero =>
    intro σ l4 l6 l8 h
    cases h
  | succ f ih =>
    intro σ l4 l6 l8 h
    rw [b_X11_refusals_47] at h
    refine v_iload 49 6 dX11_refusals_47 rfl rfl ?_
    refine v_bipush 51 7 dX11_refusals_49 kc_b_7 rfl ?_
    refine v_icmp_ge 54 119 h dX11_refusals_51 rfl (by decide) (fun h => ?_) (fun h => ?_)
    · refine v_aload_n 120 0 dX11_refusals_119 rfl rfl rfl ?_
      refine v_lload 122 4 dX11_refusals_120 rfl rfl ?_
      refine v_lload 124 5 dX11_refusals_122 rfl rfl ?_
      obtain ⟨s3, h0, h⟩ := ob h
      refine v_cV 127 7 [.long l4, .long l6] (rfl : kK 0 = 7) rfl (c_X11_keepFraction l4 l6 _ h0) cl_X11_keepFraction gX11_refusals_X11_keepFraction rfl ⟨Nat.le_of_ble_eq_true rfl, Nat.le_of_ble_eq_true rfl⟩ rfl rfl (Nat.le_of_ble_eq_true rfl) dX11_refusals_124 rfl ?_
      refine v_iconst 128 1 dX11_refusals_127 kc_i_1 rfl ?_
      exact v_iretS h rfl dX11_refusals_128
    · refine v_iload_n 55 1 dX11_refusals_54 rfl rfl rfl ?_
      refine v_iload 57 6 dX11_refusals_55 rfl rfl ?_
      refine v_cS 60 [.int l1, .int l8] (c_X11_hasBit l1 l8) cl_X11_hasBit gX11_refusals_X11_hasBit ⟨Nat.le_of_ble_eq_true rfl, Nat.le_of_ble_eq_true rfl⟩ rfl rfl (Nat.le_of_ble_eq_true rfl) dX11_refusals_57 rfl ?_
      refine v_if_eq 63 113 h dX11_refusals_60 rfl (by decide) (fun h => ?_) (fun h => ?_)
      · refine v_sub [0, 1, 2, 3, 4, 5, 6] rfl ?_
        exact q_X11_refusals_113 l1 l2 l3 r τ (b_X11_refusals_47 l1 l2 l3 f) ih σ l4 l6 l8 h
      · refine v_aload_n 64 0 dX11_refusals_63 rfl rfl rfl ?_
        refine vg_7_0 67 (rfl : kK 0 = 7) in_X11_refusals_7 (mem_at 1 rfl) dX11_refusals_64 rfl ?_
        refine vg_0_8 70 18 (rfl : kK 1 = 0) in_X11_refusals_0 (mem_at 2 rfl) rfl dX11_refusals_67 rfl ?_
        refine v_iload 72 6 dX11_refusals_70 rfl rfl ?_
        refine v_cV 75 1 [.int l8] (rfl : kK 18 = 1) rfl (c_X4_isLent 18 l8 (rfl : kK 18 = 1)) cl_X4_isLent gX11_refusals_X4_isLent rfl ⟨Nat.le_of_ble_eq_true rfl, Nat.le_of_ble_eq_true rfl⟩ rfl rfl (Nat.le_of_ble_eq_true rfl) dX11_refusals_72 rfl ?_
        refine v_if_ne 78 113 h dX11_refusals_75 rfl (by decide) (fun h => ?_) (fun h => ?_)
        · refine v_sub [0, 1, 2, 3, 4, 5, 6] rfl ?_
          exact q_X11_refusals_113 l1 l2 l3 r τ (b_X11_refusals_47 l1 l2 l3 f) ih σ l4 l6 l8 h
        · refine v_lload 80 4 dX11_refusals_78 rfl rfl ?_
          refine v_aload_n 81 0 dX11_refusals_80 rfl rfl rfl ?_
          refine vg_7_0 84 (rfl : kK 0 = 7) in_X11_refusals_7 (mem_at 1 rfl) dX11_refusals_81 rfl ?_
          refine v_iload 86 6 dX11_refusals_84 rfl rfl ?_
          refine v_iload_n 87 2 dX11_refusals_86 rfl rfl rfl ?_
          obtain ⟨x5, h0, h⟩ := ob h
          refine v_cV 90 0 [.int l8, .int l2] (rfl : kK 1 = 0) rfl (c_X3_wouldLend 1 l8 l2 (rfl : kK 1 = 0) _ h0) cl_X3_wouldLend gX11_refusals_X3_wouldLend rfl ⟨Nat.le_of_ble_eq_true rfl, Nat.le_of_ble_eq_true rfl⟩ rfl rfl (Nat.le_of_ble_eq_true rfl) dX11_refusals_87 rfl ?_
          refine v_if_eq 93 101 h dX11_refusals_90 rfl (by decide) (fun h => ?_) (fun h => ?_)
          · refine v_lconst 102 0 dX11_refusals_101 kc_l_0 rfl ?_
            refine v_sub [0, 1, 2, 3, 5, 6] rfl ?_
            exact q_X11_refusals_102 l1 l2 l3 r τ (b_X11_refusals_47 l1 l2 l3 f) ih σ l6 l8 0 l4 h
          · refine v_bipush 95 10 dX11_refusals_93 kc_b_10 rfl ?_
            refine v_iload_n 96 3 dX11_refusals_95 rfl rfl rfl ?_
            refine v_isub 97 dX11_refusals_96 rfl ?_
            refine v_i2l 98 dX11_refusals_97 rfl ?_
            refine v_goto 102 dX11_refusals_98 (by decide) ?_
            refine v_sub [0, 1, 2, 3, 5, 6] rfl ?_
            exact q_X11_refusals_102 l1 l2 l3 r τ (b_X11_refusals_47 l1 l2 l3 f) ih σ l6 l8 (Int32.toInt64 (10 - l3)) l4 h
set_option maxRecDepth 100000 in
set_option maxHeartbeats 4000000 in
theorem c_X11_refusals {g : Cx} {σ : Sg} (l1 : Int32) (l2 : Int32) (l3 : Int32) (r : Int32) (τ : Sg) (h : f_X11_refusals σ l1 l2 l3 = some (r, τ)) : ∀ l, MetF l yX11_refusals wsX11_refusals rm_X11_refusals g [.ref (g.1 0), .int l1, .int l2, .int l3] σ (some (.int r)) τ := by
  refine MetF.of (own0 := RX11) (lv0 := [(0, .ref (g.1 0)), (1, .int l1), (2, .int l2), (3, .int l3)]) rfl cl_X11_refusals (by decide) (Nat.le_of_ble_eq_true rfl) rfl ?_
  unfold f_X11_refusals at h
  refine v_aload_n 1 0 dX11_refusals_0 rfl rfl rfl ?_
  refine vg_7_0 4 (rfl : kK 0 = 7) in_X11_refusals_7 (mem_at 1 rfl) dX11_refusals_1 rfl ?_
  refine v_iload_n 5 1 dX11_refusals_4 rfl rfl rfl ?_
  refine v_cV 8 0 [.int l1] (rfl : kK 1 = 0) rfl (c_X3_hasStones 1 l1 (rfl : kK 1 = 0)) cl_X3_hasStones gX11_refusals_X3_hasStones rfl ⟨Nat.le_of_ble_eq_true rfl, Nat.le_of_ble_eq_true rfl⟩ rfl rfl (Nat.le_of_ble_eq_true rfl) dX11_refusals_5 rfl ?_
  refine v_if_eq 11 31 h dX11_refusals_8 rfl (by decide) (fun h => ?_) (fun h => ?_)
  · refine v_sub [0] rfl ?_
    exact q_X11_refusals_31 l1 l2 l3 r τ σ h
  · refine v_iload_n 12 2 dX11_refusals_11 rfl rfl rfl ?_
    refine v_iconst 13 0 dX11_refusals_12 kc_i_0 rfl ?_
    refine v_bipush 15 9 dX11_refusals_13 kc_b_9 rfl ?_
    refine v_cS 18 [.int l2, .int 0, .int 9] (c_X11_between l2 0 9) cl_X11_between gX11_refusals_X11_between ⟨Nat.le_of_ble_eq_true rfl, Nat.le_of_ble_eq_true rfl⟩ rfl rfl (Nat.le_of_ble_eq_true rfl) dX11_refusals_15 rfl ?_
    refine v_if_eq 21 31 h dX11_refusals_18 rfl (by decide) (fun h => ?_) (fun h => ?_)
    · refine v_sub [0] rfl ?_
      exact q_X11_refusals_31 l1 l2 l3 r τ σ h
    · refine v_iload_n 22 3 dX11_refusals_21 rfl rfl rfl ?_
      refine v_iconst 23 0 dX11_refusals_22 kc_i_0 rfl ?_
      refine v_bipush 25 10 dX11_refusals_23 kc_b_10 rfl ?_
      refine v_cS 28 [.int l3, .int 0, .int 10] (c_X11_between l3 0 10) cl_X11_between gX11_refusals_X11_between ⟨Nat.le_of_ble_eq_true rfl, Nat.le_of_ble_eq_true rfl⟩ rfl rfl (Nat.le_of_ble_eq_true rfl) dX11_refusals_25 rfl ?_
      refine v_if_ne 31 38 h dX11_refusals_28 rfl (by decide) (fun h => ?_) (fun h => ?_)
      · refine v_lconst 39 1 dX11_refusals_38 kc_l_1 rfl ?_
        refine v_lstore 41 dX11_refusals_39 (by decide) rfl rfl ?_
        refine v_lconst 42 1 dX11_refusals_41 kc_l_1 rfl ?_
        refine v_lstore 44 dX11_refusals_42 (by decide) rfl rfl ?_
        refine v_iconst 45 0 dX11_refusals_44 kc_i_0 rfl ?_
        refine v_istore 47 dX11_refusals_45 (by decide) rfl rfl ?_
        refine v_sub [3, 4, 5, 6, 2, 1, 0] rfl ?_
        exact q_X11_refusals_47 l1 l2 l3 r τ FU σ 1 1 0 h
      · refine v_sub [0] rfl ?_
        exact q_X11_refusals_31 l1 l2 l3 r τ σ h
-- public int round(int, int);
abbrev rm_X11_round : Room := { frames := 6, cells := 0, slots := 0, locals := 139 }
theorem cl_X11_round : Cl yX11_round wsX11_round cX11_round 3 (some .int) rm_X11_round 2 := ⟨⟨_, rfl⟩, rfl, rfl, by decide +kernel, by decide +kernel, by decide +kernel⟩
theorem in_X11_round_7 : ∀ w ∈ wsX110, w ∈ wsX11_round := fun w h => List.mem_cons_of_mem _ (List.mem_append_left _ (List.mem_append_left _ (List.mem_append_left _ (List.mem_append_right _ h))))
theorem in_X11_round_0 : ∀ w ∈ wsX30, w ∈ wsX11_round := fun w h => List.mem_cons_of_mem _ (List.mem_append_left _ (List.mem_append_left _ (List.mem_append_right _ h)))
def b_X11_round_20 (l1 : Int32) (l2 : Int32) (σ : Sg) : Option (Int32 × Sg) := bnd (f_X11_refuseBad σ (-10)) fun x1 s2 => (some (x1, s2))
def f_X11_round (σ : Sg) (l1 : Int32) (l2 : Int32) : Option (Int32 × Sg) := (if l1 = 0 then b_X11_round_20 l1 l2 σ else (if (f_X3_hasStones σ 1 l1) = 0 then b_X11_round_20 l1 l2 σ else (if (-1) ≤ l2 then (if l2 < (f_J6_bitCount_0f7a4 l1) then (f_X10_plan σ 4 l1).bind fun s3 => (if l2 = (-1) then (f_X10_hours s3).bind fun x5 => (some (x5, s3)) else (f_X10_visited s3 l2).bind fun x4 => (some (x4, s3))) else (some ((-5), σ))) else b_X11_round_20 l1 l2 σ)))
set_option maxRecDepth 100000 in
set_option maxHeartbeats 4000000 in
theorem q_X11_round_20 {g : Cx} (l1 : Int32) (l2 : Int32) (r : Int32) (τ : Sg) : ∀ σ : Sg, b_X11_round_20 l1 l2 σ = some (r, τ) → V g cX11_round RX11 wsX11_round 3 (some .int) rm_X11_round (some (.int r)) τ σ 20 [(0, .ref (g.1 0))] [] := by
  intro σ h
  unfold b_X11_round_20 at h
  refine v_aload_n 21 0 dX11_round_20 rfl rfl rfl ?_
  refine v_bipush 23 (-10) dX11_round_21 kc_b_m10 rfl ?_
  obtain ⟨x1, s2, h0, h⟩ := ob2 h
  refine v_cV 26 7 [.int (-10)] (rfl : kK 0 = 7) rfl (c_X11_refuseBad (-10) _ _ h0) cl_X11_refuseBad gX11_round_X11_refuseBad rfl ⟨Nat.le_of_ble_eq_true rfl, Nat.le_of_ble_eq_true rfl⟩ rfl rfl (Nat.le_of_ble_eq_true rfl) dX11_round_23 rfl ?_
  exact v_iretS h rfl dX11_round_26
set_option maxRecDepth 100000 in
set_option maxHeartbeats 4000000 in
theorem c_X11_round {g : Cx} {σ : Sg} (l1 : Int32) (l2 : Int32) (r : Int32) (τ : Sg) (h : f_X11_round σ l1 l2 = some (r, τ)) : ∀ l, MetF l yX11_round wsX11_round rm_X11_round g [.ref (g.1 0), .int l1, .int l2] σ (some (.int r)) τ := by
  refine MetF.of (own0 := RX11) (lv0 := [(0, .ref (g.1 0)), (1, .int l1), (2, .int l2)]) rfl cl_X11_round (by decide) (Nat.le_of_ble_eq_true rfl) rfl ?_
  unfold f_X11_round at h
  refine v_iload_n 1 1 dX11_round_0 rfl rfl rfl ?_
  refine v_if_eq 4 20 h dX11_round_1 rfl (by decide) (fun h => ?_) (fun h => ?_)
  · refine v_sub [0] rfl ?_
    exact q_X11_round_20 l1 l2 r τ σ h
  · refine v_aload_n 5 0 dX11_round_4 rfl rfl rfl ?_
    refine vg_7_0 8 (rfl : kK 0 = 7) in_X11_round_7 (mem_at 1 rfl) dX11_round_5 rfl ?_
    refine v_iload_n 9 1 dX11_round_8 rfl rfl rfl ?_
    refine v_cV 12 0 [.int l1] (rfl : kK 1 = 0) rfl (c_X3_hasStones 1 l1 (rfl : kK 1 = 0)) cl_X3_hasStones gX11_round_X3_hasStones rfl ⟨Nat.le_of_ble_eq_true rfl, Nat.le_of_ble_eq_true rfl⟩ rfl rfl (Nat.le_of_ble_eq_true rfl) dX11_round_9 rfl ?_
    refine v_if_eq 15 20 h dX11_round_12 rfl (by decide) (fun h => ?_) (fun h => ?_)
    · refine v_sub [0] rfl ?_
      exact q_X11_round_20 l1 l2 r τ σ h
    · refine v_iload_n 16 2 dX11_round_15 rfl rfl rfl ?_
      refine v_iconst 17 (-1) dX11_round_16 kc_i_m1 rfl ?_
      refine v_icmp_ge 20 27 h dX11_round_17 rfl (by decide) (fun h => ?_) (fun h => ?_)
      · refine v_iload_n 28 2 dX11_round_27 rfl rfl rfl ?_
        refine v_iload_n 29 1 dX11_round_28 rfl rfl rfl ?_
        refine v_cS 32 [.int l1] (c_J6_bitCount_0f7a4 l1) cl_J6_bitCount_0f7a4 gX11_round_J6_bitCount_0f7a4 ⟨Nat.le_of_ble_eq_true rfl, Nat.le_of_ble_eq_true rfl⟩ rfl rfl (Nat.le_of_ble_eq_true rfl) dX11_round_29 rfl ?_
        refine v_icmp_lt 35 38 h dX11_round_32 rfl (by decide) (fun h => ?_) (fun h => ?_)
        · refine v_aload_n 39 0 dX11_round_38 rfl rfl rfl ?_
          refine vg_7_8 42 (rfl : kK 0 = 7) in_X11_round_7 (mem_at 2 rfl) dX11_round_39 rfl ?_
          refine v_aload_n 43 0 dX11_round_42 rfl rfl rfl ?_
          refine vg_7_0 46 (rfl : kK 0 = 7) in_X11_round_7 (mem_at 1 rfl) dX11_round_43 rfl ?_
          refine vg_0_1 49 4 (rfl : kK 1 = 0) in_X11_round_0 (mem_at 3 rfl) rfl dX11_round_46 rfl ?_
          refine v_iload_n 50 1 dX11_round_49 rfl rfl rfl ?_
          obtain ⟨s3, h0, h⟩ := ob h
          refine v_cV 53 6 [.ref (g.1 4), .int l1] (rfl : kK 102 = 6) rfl (c_X10_plan 4 l1 (rfl : kK 4 = 4) _ h0) cl_X10_plan gX11_round_X10_plan rfl ⟨Nat.le_of_ble_eq_true rfl, Nat.le_of_ble_eq_true rfl⟩ rfl rfl (Nat.le_of_ble_eq_true rfl) dX11_round_50 rfl ?_
          refine v_iload_n 54 2 dX11_round_53 rfl rfl rfl ?_
          refine v_iconst 55 (-1) dX11_round_54 kc_i_m1 rfl ?_
          refine v_icmp_ne 58 68 h dX11_round_55 rfl (by decide) (fun h => ?_) (fun h => ?_)
          · refine v_aload_n 69 0 dX11_round_68 rfl rfl rfl ?_
            refine vg_7_8 72 (rfl : kK 0 = 7) in_X11_round_7 (mem_at 2 rfl) dX11_round_69 rfl ?_
            refine v_iload_n 73 2 dX11_round_72 rfl rfl rfl ?_
            obtain ⟨x4, h0, h⟩ := ob h
            refine v_cV 76 6 [.int l2] (rfl : kK 102 = 6) rfl (c_X10_visited l2 _ h0) cl_X10_visited gX11_round_X10_visited rfl ⟨Nat.le_of_ble_eq_true rfl, Nat.le_of_ble_eq_true rfl⟩ rfl rfl (Nat.le_of_ble_eq_true rfl) dX11_round_73 rfl ?_
            exact v_iretS h rfl dX11_round_76
          · refine v_aload_n 59 0 dX11_round_58 rfl rfl rfl ?_
            refine vg_7_8 62 (rfl : kK 0 = 7) in_X11_round_7 (mem_at 2 rfl) dX11_round_59 rfl ?_
            obtain ⟨x5, h0, h⟩ := ob h
            refine v_cV 65 6 [] (rfl : kK 102 = 6) rfl (c_X10_hours _ h0) cl_X10_hours gX11_round_X10_hours rfl ⟨Nat.le_of_ble_eq_true rfl, Nat.le_of_ble_eq_true rfl⟩ rfl rfl (Nat.le_of_ble_eq_true rfl) dX11_round_62 rfl ?_
            refine v_goto 76 dX11_round_65 (by decide) ?_
            exact v_iretS h rfl dX11_round_76
        · refine v_bipush 37 (-5) dX11_round_35 kc_b_m5 rfl ?_
          exact v_iretS h rfl dX11_round_37
      · refine v_sub [0] rfl ?_
        exact q_X11_round_20 l1 l2 r τ σ h
-- public int status(int);
abbrev rm_X11_status : Room := { frames := 1, cells := 0, slots := 0, locals := 21 }
theorem cl_X11_status : Cl yX11_status wsX11_status cX11_status 2 (some .int) rm_X11_status 1 := ⟨⟨_, rfl⟩, rfl, rfl, by decide +kernel, by decide +kernel, by decide +kernel⟩
theorem in_X11_status_7 : ∀ w ∈ wsX110, w ∈ wsX11_status := fun w h => List.mem_cons_of_mem _ (List.mem_append_right _ h)
def f_X11_status (σ : Sg) (l1 : Int32) : Option (Int32 × Sg) := (if l1 = 0 then (some (rI σ 0 12, σ)) else (if l1 = 1 then (some (rI σ 0 13, σ)) else (if l1 = 2 then (some (rI σ 0 14, σ)) else bnd (f_X11_refuseBad σ (-1)) fun x1 s2 => (some (x1, s2)))))
set_option maxRecDepth 100000 in
set_option maxHeartbeats 4000000 in
theorem c_X11_status {g : Cx} {σ : Sg} (l1 : Int32) (r : Int32) (τ : Sg) (h : f_X11_status σ l1 = some (r, τ)) : ∀ l, MetF l yX11_status wsX11_status rm_X11_status g [.ref (g.1 0), .int l1] σ (some (.int r)) τ := by
  refine MetF.of (own0 := RX11) (lv0 := [(0, .ref (g.1 0)), (1, .int l1)]) rfl cl_X11_status (by decide) (Nat.le_of_ble_eq_true rfl) rfl ?_
  unfold f_X11_status at h
  refine v_iload_n 1 1 dX11_status_0 rfl rfl rfl ?_
  refine v_ite h (fun q h => ?_) (fun q0 h => ?_)
  · refine v_tabInZ 28 0 dX11_status_1 (ti_of q kc_ti_0) (by decide) (by decide) rfl (by decide) ?_
    refine v_aload_n 29 0 dX11_status_28 rfl rfl rfl ?_
    refine vg_7_12 32 (rfl : kK 0 = 7) in_X11_status_7 (mem_at 1 rfl) dX11_status_29 rfl ?_
    exact v_iretS h rfl dX11_status_32
  refine v_ite h (fun q h => ?_) (fun q1 h => ?_)
  · refine v_tabInZ 33 1 dX11_status_1 (ti_of q kc_ti_1) (by decide) (by decide) rfl (by decide) ?_
    refine v_aload_n 34 0 dX11_status_33 rfl rfl rfl ?_
    refine vg_7_13 37 (rfl : kK 0 = 7) in_X11_status_7 (mem_at 2 rfl) dX11_status_34 rfl ?_
    exact v_iretS h rfl dX11_status_37
  refine v_ite h (fun q h => ?_) (fun q2 h => ?_)
  · refine v_tabInZ 38 2 dX11_status_1 (ti_of q kc_ti_2) (by decide) (by decide) rfl (by decide) ?_
    refine v_aload_n 39 0 dX11_status_38 rfl rfl rfl ?_
    refine vg_7_14 42 (rfl : kK 0 = 7) in_X11_status_7 (mem_at 3 rfl) dX11_status_39 rfl ?_
    exact v_iretS h rfl dX11_status_42
  have a0 := ne_lit q0 kc_ti_0
  have a1 := ne_lit q1 kc_ti_1
  have a2 := ne_lit q2 kc_ti_2
  refine v_tabOut 43 dX11_status_1 (by omega) (by decide) ?_
  refine v_aload_n 44 0 dX11_status_43 rfl rfl rfl ?_
  refine v_iconst 45 (-1) dX11_status_44 kc_i_m1 rfl ?_
  obtain ⟨x1, s2, h0, h⟩ := ob2 h
  refine v_cV 48 7 [.int (-1)] (rfl : kK 0 = 7) rfl (c_X11_refuseBad (-1) _ _ h0) cl_X11_refuseBad gX11_status_X11_refuseBad rfl ⟨Nat.le_of_ble_eq_true rfl, Nat.le_of_ble_eq_true rfl⟩ rfl rfl (Nat.le_of_ble_eq_true rfl) dX11_status_45 rfl ?_
  exact v_iretS h rfl dX11_status_48
-- public int then(int, int);
abbrev rm_X11_then : Room := { frames := 3, cells := 0, slots := 0, locals := 61 }
theorem cl_X11_then : Cl yX11_then wsX11_then cX11_then 5 (some .int) rm_X11_then 2 := ⟨⟨_, rfl⟩, rfl, rfl, by decide +kernel, by decide +kernel, by decide +kernel⟩
theorem in_X11_then_7 : ∀ w ∈ wsX110, w ∈ wsX11_then := fun w h => List.mem_cons_of_mem _ (List.mem_append_left _ (List.mem_append_left _ (List.mem_append_left _ (List.mem_append_right _ h))))
theorem in_X11_then_0 : ∀ w ∈ wsX30, w ∈ wsX11_then := fun w h => List.mem_cons_of_mem _ (List.mem_append_left _ (List.mem_append_left _ (List.mem_append_right _ h)))
theorem in_X11_then_1 : ∀ w ∈ wsX40, w ∈ wsX11_then := fun w h => List.mem_cons_of_mem _ (List.mem_append_left _ (List.mem_append_right _ h))
def b_X11_then_21 (l1 : Int32) (l2 : Int32) (σ : Sg) : Option (Int32 × Sg) := bnd (f_X11_refuseBad σ (-2)) fun x1 s2 => (some (x1, s2))
def b_X11_then_46 (l1 : Int32) (l2 : Int32) : Nat → Sg → Int32 → Int32 → Option (Int32 × Sg)
  | 0, _, _, _ => none
  | f + 1, σ, l3, l4 => (if l2 ≤ l4 then (some (l3, σ)) else (f_X7_at σ 2 l1).bind fun x4 => nam (f_X2_behind x4 l3 ((rI σ 18 0) + l4)) fun x5 => nam (l4 + 1) fun x6 => b_X11_then_46 l1 l2 f σ x5 x6)
def f_X11_then (σ : Sg) (l1 : Int32) (l2 : Int32) : Option (Int32 × Sg) := (if (f_X3_hasKeeper σ 1 l1) = 0 then b_X11_then_21 l1 l2 σ else (if (f_X11_between l2 0 99) = 0 then b_X11_then_21 l1 l2 σ else (f_X7_at σ 19 l1).bind fun x3 => b_X11_then_46 l1 l2 FU σ x3 0))
set_option maxRecDepth 100000 in
set_option maxHeartbeats 4000000 in
theorem q_X11_then_21 {g : Cx} (l1 : Int32) (l2 : Int32) (r : Int32) (τ : Sg) : ∀ σ : Sg, b_X11_then_21 l1 l2 σ = some (r, τ) → V g cX11_then RX11 wsX11_then 5 (some .int) rm_X11_then (some (.int r)) τ σ 21 [(0, .ref (g.1 0))] [] := by
  intro σ h
  unfold b_X11_then_21 at h
  refine v_aload_n 22 0 dX11_then_21 rfl rfl rfl ?_
  refine v_bipush 24 (-2) dX11_then_22 kc_b_m2 rfl ?_
  obtain ⟨x1, s2, h0, h⟩ := ob2 h
  refine v_cV 27 7 [.int (-2)] (rfl : kK 0 = 7) rfl (c_X11_refuseBad (-2) _ _ h0) cl_X11_refuseBad gX11_then_X11_refuseBad rfl ⟨Nat.le_of_ble_eq_true rfl, Nat.le_of_ble_eq_true rfl⟩ rfl rfl (Nat.le_of_ble_eq_true rfl) dX11_then_24 rfl ?_
  exact v_iretS h rfl dX11_then_27
set_option maxRecDepth 100000 in
set_option maxHeartbeats 4000000 in
theorem q_X11_then_46 {g : Cx} (l1 : Int32) (l2 : Int32) (r : Int32) (τ : Sg) : ∀ f : Nat, ∀ σ : Sg, ∀ l3 : Int32, ∀ l4 : Int32, b_X11_then_46 l1 l2 f σ l3 l4 = some (r, τ) → V g cX11_then RX11 wsX11_then 5 (some .int) rm_X11_then (some (.int r)) τ σ 46 [(0, .ref (g.1 0)), (1, .int l1), (2, .int l2), (3, .int l3), (4, .int l4)] [] := by
  intro f
  induction f with
  | zero =>
    intro σ l3 l4 h
    cases h
  | succ f ih =>
    intro σ l3 l4 h
    rw [b_X11_then_46] at h
    refine v_iload 48 4 dX11_then_46 rfl rfl ?_
    refine v_iload_n 49 2 dX11_then_48 rfl rfl rfl ?_
    refine v_icmp_ge 52 87 h dX11_then_49 rfl (by decide) (fun h => ?_) (fun h => ?_)
    · refine v_iload_n 88 3 dX11_then_87 rfl rfl rfl ?_
      exact v_iretS h rfl dX11_then_88
    · refine v_aload_n 53 0 dX11_then_52 rfl rfl rfl ?_
      refine vg_7_0 56 (rfl : kK 0 = 7) in_X11_then_7 (mem_at 1 rfl) dX11_then_53 rfl ?_
      refine vg_0_0 59 2 (rfl : kK 1 = 0) in_X11_then_0 (mem_at 4 rfl) rfl dX11_then_56 rfl ?_
      refine v_iload_n 60 1 dX11_then_59 rfl rfl rfl ?_
      obtain ⟨x4, h0, h⟩ := ob h
      refine v_cV 63 4 [.int l1] (rfl : kK 2 = 4) rfl (c_X7_at 2 l1 (rfl : kK 2 = 4) _ h0) cl_X7_at gX11_then_X7_at rfl ⟨Nat.le_of_ble_eq_true rfl, Nat.le_of_ble_eq_true rfl⟩ rfl rfl (Nat.le_of_ble_eq_true rfl) dX11_then_60 rfl ?_
      refine v_iload_n 64 3 dX11_then_63 rfl rfl rfl ?_
      refine v_aload_n 65 0 dX11_then_64 rfl rfl rfl ?_
      refine vg_7_0 68 (rfl : kK 0 = 7) in_X11_then_7 (mem_at 1 rfl) dX11_then_65 rfl ?_
      refine vg_0_8 71 18 (rfl : kK 1 = 0) in_X11_then_0 (mem_at 2 rfl) rfl dX11_then_68 rfl ?_
      refine vg_1_0 74 (rfl : kK 18 = 1) in_X11_then_1 (mem_at 5 rfl) dX11_then_71 rfl ?_
      refine v_iload 76 4 dX11_then_74 rfl rfl ?_
      refine v_iadd 77 dX11_then_76 rfl ?_
      refine v_cS 80 [.int x4, .int l3, .int ((rI σ 18 0) + l4)] (c_X2_behind x4 l3 ((rI σ 18 0) + l4)) cl_X2_behind gX11_then_X2_behind ⟨Nat.le_of_ble_eq_true rfl, Nat.le_of_ble_eq_true rfl⟩ rfl rfl (Nat.le_of_ble_eq_true rfl) dX11_then_77 rfl ?_
      refine v_istoreN_n 81 h dX11_then_80 rfl (by decide) rfl (fun _ => rfl) (fun x5 h => ?_)
      refine v_iincN 84 4 h dX11_then_81 rfl kc_i_1 (by decide) rfl (fun _ => rfl) (fun x6 h => ?_)
      refine v_goto 46 dX11_then_84 (by decide) ?_
      refine v_sub [2, 3, 4, 1, 0] rfl ?_
      exact ih σ x5 x6 h
set_option maxRecDepth 100000 in
set_option maxHeartbeats 4000000 in
theorem c_X11_then {g : Cx} {σ : Sg} (l1 : Int32) (l2 : Int32) (r : Int32) (τ : Sg) (h : f_X11_then σ l1 l2 = some (r, τ)) : ∀ l, MetF l yX11_then wsX11_then rm_X11_then g [.ref (g.1 0), .int l1, .int l2] σ (some (.int r)) τ := by
  refine MetF.of (own0 := RX11) (lv0 := [(0, .ref (g.1 0)), (1, .int l1), (2, .int l2)]) rfl cl_X11_then (by decide) (Nat.le_of_ble_eq_true rfl) rfl ?_
  unfold f_X11_then at h
  refine v_aload_n 1 0 dX11_then_0 rfl rfl rfl ?_
  refine vg_7_0 4 (rfl : kK 0 = 7) in_X11_then_7 (mem_at 1 rfl) dX11_then_1 rfl ?_
  refine v_iload_n 5 1 dX11_then_4 rfl rfl rfl ?_
  refine v_cV 8 0 [.int l1] (rfl : kK 1 = 0) rfl (c_X3_hasKeeper 1 l1 (rfl : kK 1 = 0)) cl_X3_hasKeeper gX11_then_X3_hasKeeper rfl ⟨Nat.le_of_ble_eq_true rfl, Nat.le_of_ble_eq_true rfl⟩ rfl rfl (Nat.le_of_ble_eq_true rfl) dX11_then_5 rfl ?_
  refine v_if_eq 11 21 h dX11_then_8 rfl (by decide) (fun h => ?_) (fun h => ?_)
  · refine v_sub [0] rfl ?_
    exact q_X11_then_21 l1 l2 r τ σ h
  · refine v_iload_n 12 2 dX11_then_11 rfl rfl rfl ?_
    refine v_iconst 13 0 dX11_then_12 kc_i_0 rfl ?_
    refine v_bipush 15 99 dX11_then_13 kc_b_99 rfl ?_
    refine v_cS 18 [.int l2, .int 0, .int 99] (c_X11_between l2 0 99) cl_X11_between gX11_then_X11_between ⟨Nat.le_of_ble_eq_true rfl, Nat.le_of_ble_eq_true rfl⟩ rfl rfl (Nat.le_of_ble_eq_true rfl) dX11_then_15 rfl ?_
    refine v_if_ne 21 28 h dX11_then_18 rfl (by decide) (fun h => ?_) (fun h => ?_)
    · refine v_aload_n 29 0 dX11_then_28 rfl rfl rfl ?_
      refine vg_7_0 32 (rfl : kK 0 = 7) in_X11_then_7 (mem_at 1 rfl) dX11_then_29 rfl ?_
      refine vg_0_8 35 18 (rfl : kK 1 = 0) in_X11_then_0 (mem_at 2 rfl) rfl dX11_then_32 rfl ?_
      refine vg_1_2 38 19 (rfl : kK 18 = 1) in_X11_then_1 (mem_at 3 rfl) rfl dX11_then_35 rfl ?_
      refine v_iload_n 39 1 dX11_then_38 rfl rfl rfl ?_
      obtain ⟨x3, h0, h⟩ := ob h
      refine v_cV 42 4 [.int l1] (rfl : kK 19 = 4) rfl (c_X7_at 19 l1 (rfl : kK 19 = 4) _ h0) cl_X7_at gX11_then_X7_at rfl ⟨Nat.le_of_ble_eq_true rfl, Nat.le_of_ble_eq_true rfl⟩ rfl rfl (Nat.le_of_ble_eq_true rfl) dX11_then_39 rfl ?_
      refine v_istore_n 43 dX11_then_42 rfl (by decide) rfl rfl ?_
      refine v_iconst 44 0 dX11_then_43 kc_i_0 rfl ?_
      refine v_istore 46 dX11_then_44 (by decide) rfl rfl ?_
      refine v_sub [2, 3, 4, 1, 0] rfl ?_
      exact q_X11_then_46 l1 l2 r τ FU σ x3 0 h
    · refine v_sub [0] rfl ?_
      exact q_X11_then_21 l1 l2 r τ σ h
-- public int tipped(int, int, int, int);
abbrev rm_X11_tipped : Room := { frames := 2, cells := 0, slots := 0, locals := 43 }
theorem cl_X11_tipped : Cl yX11_tipped wsX11_tipped cX11_tipped 5 (some .int) rm_X11_tipped 4 := ⟨⟨_, rfl⟩, rfl, rfl, by decide +kernel, by decide +kernel, by decide +kernel⟩
theorem in_X11_tipped_7 : ∀ w ∈ wsX110, w ∈ wsX11_tipped := fun w h => List.mem_cons_of_mem _ (List.mem_append_left _ (List.mem_append_left _ (List.mem_append_right _ h)))
theorem in_X11_tipped_0 : ∀ w ∈ wsX30, w ∈ wsX11_tipped := fun w h => List.mem_cons_of_mem _ (List.mem_append_left _ (List.mem_append_right _ h))
def b_X11_tipped_43 (l1 : Int32) (l2 : Int32) (l3 : Int32) (l4 : Int32) (σ : Sg) : Option (Int32 × Sg) := bnd (f_X11_refuseBad σ (-2)) fun x1 s2 => (some (x1, s2))
def f_X11_tipped (σ : Sg) (l1 : Int32) (l2 : Int32) (l3 : Int32) (l4 : Int32) : Option (Int32 × Sg) := (if (f_X3_hasBalance σ 1 l1) = 0 then b_X11_tipped_43 l1 l2 l3 l4 σ else (if (f_X11_between l2 0 999) = 0 then b_X11_tipped_43 l1 l2 l3 l4 σ else (if (f_X11_between l3 0 999) = 0 then b_X11_tipped_43 l1 l2 l3 l4 σ else (if (f_X11_between l4 (-1) 1) = 0 then b_X11_tipped_43 l1 l2 l3 l4 σ else (if (f_X7_isFull σ 14) = 0 then (f_X7_add σ 14 l1).bind fun s3 => (f_X7_add s3 14 l2).bind fun s4 => (f_X7_add s4 14 l3).bind fun s5 => (f_X7_add s5 14 l4).bind fun s6 => (some (f_X3_tippingCount s6 1, s6)) else bnd (f_X11_refuseFull σ) fun x7 s8 => (some (x7, s8)))))))
set_option maxRecDepth 100000 in
set_option maxHeartbeats 4000000 in
theorem q_X11_tipped_43 {g : Cx} (l1 : Int32) (l2 : Int32) (l3 : Int32) (l4 : Int32) (r : Int32) (τ : Sg) : ∀ σ : Sg, b_X11_tipped_43 l1 l2 l3 l4 σ = some (r, τ) → V g cX11_tipped RX11 wsX11_tipped 5 (some .int) rm_X11_tipped (some (.int r)) τ σ 43 [(0, .ref (g.1 0))] [] := by
  intro σ h
  unfold b_X11_tipped_43 at h
  refine v_aload_n 44 0 dX11_tipped_43 rfl rfl rfl ?_
  refine v_bipush 46 (-2) dX11_tipped_44 kc_b_m2 rfl ?_
  obtain ⟨x1, s2, h0, h⟩ := ob2 h
  refine v_cV 49 7 [.int (-2)] (rfl : kK 0 = 7) rfl (c_X11_refuseBad (-2) _ _ h0) cl_X11_refuseBad gX11_tipped_X11_refuseBad rfl ⟨Nat.le_of_ble_eq_true rfl, Nat.le_of_ble_eq_true rfl⟩ rfl rfl (Nat.le_of_ble_eq_true rfl) dX11_tipped_46 rfl ?_
  exact v_iretS h rfl dX11_tipped_49
set_option maxRecDepth 100000 in
set_option maxHeartbeats 4000000 in
theorem c_X11_tipped {g : Cx} {σ : Sg} (l1 : Int32) (l2 : Int32) (l3 : Int32) (l4 : Int32) (r : Int32) (τ : Sg) (h : f_X11_tipped σ l1 l2 l3 l4 = some (r, τ)) : ∀ l, MetF l yX11_tipped wsX11_tipped rm_X11_tipped g [.ref (g.1 0), .int l1, .int l2, .int l3, .int l4] σ (some (.int r)) τ := by
  refine MetF.of (own0 := RX11) (lv0 := [(0, .ref (g.1 0)), (1, .int l1), (2, .int l2), (3, .int l3), (4, .int l4)]) rfl cl_X11_tipped (by decide) (Nat.le_of_ble_eq_true rfl) rfl ?_
  unfold f_X11_tipped at h
  refine v_aload_n 1 0 dX11_tipped_0 rfl rfl rfl ?_
  refine vg_7_0 4 (rfl : kK 0 = 7) in_X11_tipped_7 (mem_at 1 rfl) dX11_tipped_1 rfl ?_
  refine v_iload_n 5 1 dX11_tipped_4 rfl rfl rfl ?_
  refine v_cV 8 0 [.int l1] (rfl : kK 1 = 0) rfl (c_X3_hasBalance 1 l1 (rfl : kK 1 = 0)) cl_X3_hasBalance gX11_tipped_X3_hasBalance rfl ⟨Nat.le_of_ble_eq_true rfl, Nat.le_of_ble_eq_true rfl⟩ rfl rfl (Nat.le_of_ble_eq_true rfl) dX11_tipped_5 rfl ?_
  refine v_if_eq 11 43 h dX11_tipped_8 rfl (by decide) (fun h => ?_) (fun h => ?_)
  · refine v_sub [0] rfl ?_
    exact q_X11_tipped_43 l1 l2 l3 l4 r τ σ h
  · refine v_iload_n 12 2 dX11_tipped_11 rfl rfl rfl ?_
    refine v_iconst 13 0 dX11_tipped_12 kc_i_0 rfl ?_
    refine v_sipush 16 999 dX11_tipped_13 kc_s_999 rfl ?_
    refine v_cS 19 [.int l2, .int 0, .int 999] (c_X11_between l2 0 999) cl_X11_between gX11_tipped_X11_between ⟨Nat.le_of_ble_eq_true rfl, Nat.le_of_ble_eq_true rfl⟩ rfl rfl (Nat.le_of_ble_eq_true rfl) dX11_tipped_16 rfl ?_
    refine v_if_eq 22 43 h dX11_tipped_19 rfl (by decide) (fun h => ?_) (fun h => ?_)
    · refine v_sub [0] rfl ?_
      exact q_X11_tipped_43 l1 l2 l3 l4 r τ σ h
    · refine v_iload_n 23 3 dX11_tipped_22 rfl rfl rfl ?_
      refine v_iconst 24 0 dX11_tipped_23 kc_i_0 rfl ?_
      refine v_sipush 27 999 dX11_tipped_24 kc_s_999 rfl ?_
      refine v_cS 30 [.int l3, .int 0, .int 999] (c_X11_between l3 0 999) cl_X11_between gX11_tipped_X11_between ⟨Nat.le_of_ble_eq_true rfl, Nat.le_of_ble_eq_true rfl⟩ rfl rfl (Nat.le_of_ble_eq_true rfl) dX11_tipped_27 rfl ?_
      refine v_if_eq 33 43 h dX11_tipped_30 rfl (by decide) (fun h => ?_) (fun h => ?_)
      · refine v_sub [0] rfl ?_
        exact q_X11_tipped_43 l1 l2 l3 l4 r τ σ h
      · refine v_iload 35 4 dX11_tipped_33 rfl rfl ?_
        refine v_iconst 36 (-1) dX11_tipped_35 kc_i_m1 rfl ?_
        refine v_iconst 37 1 dX11_tipped_36 kc_i_1 rfl ?_
        refine v_cS 40 [.int l4, .int (-1), .int 1] (c_X11_between l4 (-1) 1) cl_X11_between gX11_tipped_X11_between ⟨Nat.le_of_ble_eq_true rfl, Nat.le_of_ble_eq_true rfl⟩ rfl rfl (Nat.le_of_ble_eq_true rfl) dX11_tipped_37 rfl ?_
        refine v_if_ne 43 50 h dX11_tipped_40 rfl (by decide) (fun h => ?_) (fun h => ?_)
        · refine v_aload_n 51 0 dX11_tipped_50 rfl rfl rfl ?_
          refine vg_7_0 54 (rfl : kK 0 = 7) in_X11_tipped_7 (mem_at 1 rfl) dX11_tipped_51 rfl ?_
          refine vg_0_6 57 14 (rfl : kK 1 = 0) in_X11_tipped_0 (mem_at 2 rfl) rfl dX11_tipped_54 rfl ?_
          refine v_cV 60 4 [] (rfl : kK 14 = 4) rfl (c_X7_isFull 14 (rfl : kK 14 = 4)) cl_X7_isFull gX11_tipped_X7_isFull rfl ⟨Nat.le_of_ble_eq_true rfl, Nat.le_of_ble_eq_true rfl⟩ rfl rfl (Nat.le_of_ble_eq_true rfl) dX11_tipped_57 rfl ?_
          refine v_if_eq 63 68 h dX11_tipped_60 rfl (by decide) (fun h => ?_) (fun h => ?_)
          · refine v_aload_n 69 0 dX11_tipped_68 rfl rfl rfl ?_
            refine vg_7_0 72 (rfl : kK 0 = 7) in_X11_tipped_7 (mem_at 1 rfl) dX11_tipped_69 rfl ?_
            refine vg_0_6 75 14 (rfl : kK 1 = 0) in_X11_tipped_0 (mem_at 2 rfl) rfl dX11_tipped_72 rfl ?_
            refine v_iload_n 76 1 dX11_tipped_75 rfl rfl rfl ?_
            obtain ⟨s3, h0, h⟩ := ob h
            refine v_cV 79 4 [.int l1] (rfl : kK 14 = 4) rfl (c_X7_add 14 l1 (rfl : kK 14 = 4) _ h0) cl_X7_add gX11_tipped_X7_add rfl ⟨Nat.le_of_ble_eq_true rfl, Nat.le_of_ble_eq_true rfl⟩ rfl rfl (Nat.le_of_ble_eq_true rfl) dX11_tipped_76 rfl ?_
            refine v_aload_n 80 0 dX11_tipped_79 rfl rfl rfl ?_
            refine vg_7_0 83 (rfl : kK 0 = 7) in_X11_tipped_7 (mem_at 1 rfl) dX11_tipped_80 rfl ?_
            refine vg_0_6 86 14 (rfl : kK 1 = 0) in_X11_tipped_0 (mem_at 2 rfl) rfl dX11_tipped_83 rfl ?_
            refine v_iload_n 87 2 dX11_tipped_86 rfl rfl rfl ?_
            obtain ⟨s4, h0, h⟩ := ob h
            refine v_cV 90 4 [.int l2] (rfl : kK 14 = 4) rfl (c_X7_add 14 l2 (rfl : kK 14 = 4) _ h0) cl_X7_add gX11_tipped_X7_add rfl ⟨Nat.le_of_ble_eq_true rfl, Nat.le_of_ble_eq_true rfl⟩ rfl rfl (Nat.le_of_ble_eq_true rfl) dX11_tipped_87 rfl ?_
            refine v_aload_n 91 0 dX11_tipped_90 rfl rfl rfl ?_
            refine vg_7_0 94 (rfl : kK 0 = 7) in_X11_tipped_7 (mem_at 1 rfl) dX11_tipped_91 rfl ?_
            refine vg_0_6 97 14 (rfl : kK 1 = 0) in_X11_tipped_0 (mem_at 2 rfl) rfl dX11_tipped_94 rfl ?_
            refine v_iload_n 98 3 dX11_tipped_97 rfl rfl rfl ?_
            obtain ⟨s5, h0, h⟩ := ob h
            refine v_cV 101 4 [.int l3] (rfl : kK 14 = 4) rfl (c_X7_add 14 l3 (rfl : kK 14 = 4) _ h0) cl_X7_add gX11_tipped_X7_add rfl ⟨Nat.le_of_ble_eq_true rfl, Nat.le_of_ble_eq_true rfl⟩ rfl rfl (Nat.le_of_ble_eq_true rfl) dX11_tipped_98 rfl ?_
            refine v_aload_n 102 0 dX11_tipped_101 rfl rfl rfl ?_
            refine vg_7_0 105 (rfl : kK 0 = 7) in_X11_tipped_7 (mem_at 1 rfl) dX11_tipped_102 rfl ?_
            refine vg_0_6 108 14 (rfl : kK 1 = 0) in_X11_tipped_0 (mem_at 2 rfl) rfl dX11_tipped_105 rfl ?_
            refine v_iload 110 4 dX11_tipped_108 rfl rfl ?_
            obtain ⟨s6, h0, h⟩ := ob h
            refine v_cV 113 4 [.int l4] (rfl : kK 14 = 4) rfl (c_X7_add 14 l4 (rfl : kK 14 = 4) _ h0) cl_X7_add gX11_tipped_X7_add rfl ⟨Nat.le_of_ble_eq_true rfl, Nat.le_of_ble_eq_true rfl⟩ rfl rfl (Nat.le_of_ble_eq_true rfl) dX11_tipped_110 rfl ?_
            refine v_aload_n 114 0 dX11_tipped_113 rfl rfl rfl ?_
            refine vg_7_0 117 (rfl : kK 0 = 7) in_X11_tipped_7 (mem_at 1 rfl) dX11_tipped_114 rfl ?_
            refine v_cV 120 0 [] (rfl : kK 1 = 0) rfl (c_X3_tippingCount 1 (rfl : kK 1 = 0)) cl_X3_tippingCount gX11_tipped_X3_tippingCount rfl ⟨Nat.le_of_ble_eq_true rfl, Nat.le_of_ble_eq_true rfl⟩ rfl rfl (Nat.le_of_ble_eq_true rfl) dX11_tipped_117 rfl ?_
            exact v_iretS h rfl dX11_tipped_120
          · refine v_aload_n 64 0 dX11_tipped_63 rfl rfl rfl ?_
            obtain ⟨x7, s8, h0, h⟩ := ob2 h
            refine v_cV 67 7 [] (rfl : kK 0 = 7) rfl (c_X11_refuseFull _ _ h0) cl_X11_refuseFull gX11_tipped_X11_refuseFull rfl ⟨Nat.le_of_ble_eq_true rfl, Nat.le_of_ble_eq_true rfl⟩ rfl rfl (Nat.le_of_ble_eq_true rfl) dX11_tipped_64 rfl ?_
            exact v_iretS h rfl dX11_tipped_67
        · refine v_sub [0] rfl ?_
          exact q_X11_tipped_43 l1 l2 l3 l4 r τ σ h
-- public int tips(int, int, int);
abbrev rm_X11_tips : Room := { frames := 5, cells := 0, slots := 0, locals := 103 }
theorem cl_X11_tips : Cl yX11_tips wsX11_tips cX11_tips 5 (some .int) rm_X11_tips 3 := ⟨⟨_, rfl⟩, rfl, rfl, by decide +kernel, by decide +kernel, by decide +kernel⟩
theorem in_X11_tips_7 : ∀ w ∈ wsX110, w ∈ wsX11_tips := fun w h => List.mem_cons_of_mem _ (List.mem_append_left _ (List.mem_append_left _ (List.mem_append_left _ (List.mem_append_right _ h))))
theorem in_X11_tips_0 : ∀ w ∈ wsX30, w ∈ wsX11_tips := fun w h => List.mem_cons_of_mem _ (List.mem_append_left _ (List.mem_append_left _ (List.mem_append_right _ h)))
theorem in_X11_tips_1 : ∀ w ∈ wsX40, w ∈ wsX11_tips := fun w h => List.mem_cons_of_mem _ (List.mem_append_left _ (List.mem_append_right _ h))
def b_X11_tips_23 (l1 : Int32) (l2 : Int32) (l3 : Int32) (σ : Sg) : Option (Int32 × Sg) := bnd (f_X11_refuseBad σ (-2)) fun x1 s2 => (some (x1, s2))
def f_X11_tips (σ : Sg) (l1 : Int32) (l2 : Int32) (l3 : Int32) : Option (Int32 × Sg) := (if (f_X3_hasBalance σ 1 l1) = 0 then b_X11_tips_23 l1 l2 l3 σ else (if (f_X3_canLay σ 1 l2 l3) = 0 then b_X11_tips_23 l1 l2 l3 σ else (f_X7_at σ 8 l1).bind fun x3 => (f_X7_sumOf σ 19 l2).bind fun x4 => (f_X7_sumOf σ 19 l3).bind fun x5 => (some (f_X0_tip x3 x4 x5, σ))))
set_option maxRecDepth 100000 in
set_option maxHeartbeats 4000000 in
theorem q_X11_tips_23 {g : Cx} (l1 : Int32) (l2 : Int32) (l3 : Int32) (r : Int32) (τ : Sg) : ∀ σ : Sg, b_X11_tips_23 l1 l2 l3 σ = some (r, τ) → V g cX11_tips RX11 wsX11_tips 5 (some .int) rm_X11_tips (some (.int r)) τ σ 23 [(0, .ref (g.1 0))] [] := by
  intro σ h
  unfold b_X11_tips_23 at h
  refine v_aload_n 24 0 dX11_tips_23 rfl rfl rfl ?_
  refine v_bipush 26 (-2) dX11_tips_24 kc_b_m2 rfl ?_
  obtain ⟨x1, s2, h0, h⟩ := ob2 h
  refine v_cV 29 7 [.int (-2)] (rfl : kK 0 = 7) rfl (c_X11_refuseBad (-2) _ _ h0) cl_X11_refuseBad gX11_tips_X11_refuseBad rfl ⟨Nat.le_of_ble_eq_true rfl, Nat.le_of_ble_eq_true rfl⟩ rfl rfl (Nat.le_of_ble_eq_true rfl) dX11_tips_26 rfl ?_
  exact v_iretS h rfl dX11_tips_29
set_option maxRecDepth 100000 in
set_option maxHeartbeats 4000000 in
theorem c_X11_tips {g : Cx} {σ : Sg} (l1 : Int32) (l2 : Int32) (l3 : Int32) (r : Int32) (τ : Sg) (h : f_X11_tips σ l1 l2 l3 = some (r, τ)) : ∀ l, MetF l yX11_tips wsX11_tips rm_X11_tips g [.ref (g.1 0), .int l1, .int l2, .int l3] σ (some (.int r)) τ := by
  refine MetF.of (own0 := RX11) (lv0 := [(0, .ref (g.1 0)), (1, .int l1), (2, .int l2), (3, .int l3)]) rfl cl_X11_tips (by decide) (Nat.le_of_ble_eq_true rfl) rfl ?_
  unfold f_X11_tips at h
  refine v_aload_n 1 0 dX11_tips_0 rfl rfl rfl ?_
  refine vg_7_0 4 (rfl : kK 0 = 7) in_X11_tips_7 (mem_at 1 rfl) dX11_tips_1 rfl ?_
  refine v_iload_n 5 1 dX11_tips_4 rfl rfl rfl ?_
  refine v_cV 8 0 [.int l1] (rfl : kK 1 = 0) rfl (c_X3_hasBalance 1 l1 (rfl : kK 1 = 0)) cl_X3_hasBalance gX11_tips_X3_hasBalance rfl ⟨Nat.le_of_ble_eq_true rfl, Nat.le_of_ble_eq_true rfl⟩ rfl rfl (Nat.le_of_ble_eq_true rfl) dX11_tips_5 rfl ?_
  refine v_if_eq 11 23 h dX11_tips_8 rfl (by decide) (fun h => ?_) (fun h => ?_)
  · refine v_sub [0] rfl ?_
    exact q_X11_tips_23 l1 l2 l3 r τ σ h
  · refine v_aload_n 12 0 dX11_tips_11 rfl rfl rfl ?_
    refine vg_7_0 15 (rfl : kK 0 = 7) in_X11_tips_7 (mem_at 1 rfl) dX11_tips_12 rfl ?_
    refine v_iload_n 16 2 dX11_tips_15 rfl rfl rfl ?_
    refine v_iload_n 17 3 dX11_tips_16 rfl rfl rfl ?_
    refine v_cV 20 0 [.int l2, .int l3] (rfl : kK 1 = 0) rfl (c_X3_canLay 1 l2 l3 (rfl : kK 1 = 0)) cl_X3_canLay gX11_tips_X3_canLay rfl ⟨Nat.le_of_ble_eq_true rfl, Nat.le_of_ble_eq_true rfl⟩ rfl rfl (Nat.le_of_ble_eq_true rfl) dX11_tips_17 rfl ?_
    refine v_if_ne 23 30 h dX11_tips_20 rfl (by decide) (fun h => ?_) (fun h => ?_)
    · refine v_aload_n 31 0 dX11_tips_30 rfl rfl rfl ?_
      refine vg_7_0 34 (rfl : kK 0 = 7) in_X11_tips_7 (mem_at 1 rfl) dX11_tips_31 rfl ?_
      refine vg_0_8 37 18 (rfl : kK 1 = 0) in_X11_tips_0 (mem_at 2 rfl) rfl dX11_tips_34 rfl ?_
      refine vg_1_2 40 19 (rfl : kK 18 = 1) in_X11_tips_1 (mem_at 3 rfl) rfl dX11_tips_37 rfl ?_
      refine v_astore 42 dX11_tips_40 (by decide) rfl rfl ?_
      refine v_aload_n 43 1 dX11_tips_42 rfl rfl rfl ?_
      refine vg_7_0 46 (rfl : kK 0 = 7) in_X11_tips_7 (mem_at 1 rfl) dX11_tips_43 rfl ?_
      refine vg_0_3 49 8 (rfl : kK 1 = 0) in_X11_tips_0 (mem_at 4 rfl) rfl dX11_tips_46 rfl ?_
      refine v_iload_n 50 2 dX11_tips_49 rfl rfl rfl ?_
      obtain ⟨x3, h0, h⟩ := ob h
      refine v_cV 53 4 [.int l1] (rfl : kK 8 = 4) rfl (c_X7_at 8 l1 (rfl : kK 8 = 4) _ h0) cl_X7_at gX11_tips_X7_at rfl ⟨Nat.le_of_ble_eq_true rfl, Nat.le_of_ble_eq_true rfl⟩ rfl rfl (Nat.le_of_ble_eq_true rfl) dX11_tips_50 rfl ?_
      refine v_aload 55 0 dX11_tips_53 rfl rfl ?_
      refine v_iload_n 56 3 dX11_tips_55 rfl rfl rfl ?_
      obtain ⟨x4, h0, h⟩ := ob h
      refine v_cV 59 4 [.int l2] (rfl : kK 19 = 4) rfl (c_X7_sumOf 19 l2 (rfl : kK 19 = 4) _ h0) cl_X7_sumOf gX11_tips_X7_sumOf rfl ⟨Nat.le_of_ble_eq_true rfl, Nat.le_of_ble_eq_true rfl⟩ rfl rfl (Nat.le_of_ble_eq_true rfl) dX11_tips_56 rfl ?_
      refine v_aload 61 0 dX11_tips_59 rfl rfl ?_
      refine v_iload_n 62 4 dX11_tips_61 rfl rfl rfl ?_
      obtain ⟨x5, h0, h⟩ := ob h
      refine v_cV 65 4 [.int l3] (rfl : kK 19 = 4) rfl (c_X7_sumOf 19 l3 (rfl : kK 19 = 4) _ h0) cl_X7_sumOf gX11_tips_X7_sumOf rfl ⟨Nat.le_of_ble_eq_true rfl, Nat.le_of_ble_eq_true rfl⟩ rfl rfl (Nat.le_of_ble_eq_true rfl) dX11_tips_62 rfl ?_
      refine v_cS 68 [.int x3, .int x4, .int x5] (c_X0_tip x3 x4 x5) cl_X0_tip gX11_tips_X0_tip ⟨Nat.le_of_ble_eq_true rfl, Nat.le_of_ble_eq_true rfl⟩ rfl rfl (Nat.le_of_ble_eq_true rfl) dX11_tips_65 rfl ?_
      exact v_iretS h rfl dX11_tips_68
    · refine v_sub [0] rfl ?_
      exact q_X11_tips_23 l1 l2 l3 r τ σ h
-- public int type(int);
abbrev rm_X11_type : Room := { frames := 1, cells := 0, slots := 0, locals := 22 }
theorem cl_X11_type : Cl yX11_type wsX11_type cX11_type 2 (some .int) rm_X11_type 1 := ⟨⟨_, rfl⟩, rfl, rfl, by decide +kernel, by decide +kernel, by decide +kernel⟩
theorem in_X11_type_7 : ∀ w ∈ wsX110, w ∈ wsX11_type := fun w h => List.mem_cons_of_mem _ (List.mem_append_left _ (List.mem_append_right _ h))
def f_X11_type (σ : Sg) (l1 : Int32) : Option (Int32 × Sg) := (if (f_X11_between l1 0 127) = 0 then bnd (f_X11_refuseBad σ (-2)) fun x4 s5 => (some (x4, s5)) else (if (f_X7_isFull σ 67) = 0 then (f_X7_add σ 67 l1).bind fun s1 => (some (f_X7_size s1 67, s1)) else bnd (f_X11_refuseFull σ) fun x2 s3 => (some (x2, s3))))
set_option maxRecDepth 100000 in
set_option maxHeartbeats 4000000 in
theorem c_X11_type {g : Cx} {σ : Sg} (l1 : Int32) (r : Int32) (τ : Sg) (h : f_X11_type σ l1 = some (r, τ)) : ∀ l, MetF l yX11_type wsX11_type rm_X11_type g [.ref (g.1 0), .int l1] σ (some (.int r)) τ := by
  refine MetF.of (own0 := RX11) (lv0 := [(0, .ref (g.1 0)), (1, .int l1)]) rfl cl_X11_type (by decide) (Nat.le_of_ble_eq_true rfl) rfl ?_
  unfold f_X11_type at h
  refine v_iload_n 1 1 dX11_type_0 rfl rfl rfl ?_
  refine v_iconst 2 0 dX11_type_1 kc_i_0 rfl ?_
  refine v_bipush 4 127 dX11_type_2 kc_b_127 rfl ?_
  refine v_cS 7 [.int l1, .int 0, .int 127] (c_X11_between l1 0 127) cl_X11_between gX11_type_X11_between ⟨Nat.le_of_ble_eq_true rfl, Nat.le_of_ble_eq_true rfl⟩ rfl rfl (Nat.le_of_ble_eq_true rfl) dX11_type_4 rfl ?_
  refine v_if_ne 10 17 h dX11_type_7 rfl (by decide) (fun h => ?_) (fun h => ?_)
  · refine v_aload_n 18 0 dX11_type_17 rfl rfl rfl ?_
    refine vg_7_4 21 (rfl : kK 0 = 7) in_X11_type_7 (mem_at 1 rfl) dX11_type_18 rfl ?_
    refine v_cV 24 4 [] (rfl : kK 67 = 4) rfl (c_X7_isFull 67 (rfl : kK 67 = 4)) cl_X7_isFull gX11_type_X7_isFull rfl ⟨Nat.le_of_ble_eq_true rfl, Nat.le_of_ble_eq_true rfl⟩ rfl rfl (Nat.le_of_ble_eq_true rfl) dX11_type_21 rfl ?_
    refine v_if_eq 27 32 h dX11_type_24 rfl (by decide) (fun h => ?_) (fun h => ?_)
    · refine v_aload_n 33 0 dX11_type_32 rfl rfl rfl ?_
      refine vg_7_4 36 (rfl : kK 0 = 7) in_X11_type_7 (mem_at 1 rfl) dX11_type_33 rfl ?_
      refine v_iload_n 37 1 dX11_type_36 rfl rfl rfl ?_
      obtain ⟨s1, h0, h⟩ := ob h
      refine v_cV 40 4 [.int l1] (rfl : kK 67 = 4) rfl (c_X7_add 67 l1 (rfl : kK 67 = 4) _ h0) cl_X7_add gX11_type_X7_add rfl ⟨Nat.le_of_ble_eq_true rfl, Nat.le_of_ble_eq_true rfl⟩ rfl rfl (Nat.le_of_ble_eq_true rfl) dX11_type_37 rfl ?_
      refine v_aload_n 41 0 dX11_type_40 rfl rfl rfl ?_
      refine vg_7_4 44 (rfl : kK 0 = 7) in_X11_type_7 (mem_at 1 rfl) dX11_type_41 rfl ?_
      refine v_cV 47 4 [] (rfl : kK 67 = 4) rfl (c_X7_size 67 (rfl : kK 67 = 4)) cl_X7_size gX11_type_X7_size rfl ⟨Nat.le_of_ble_eq_true rfl, Nat.le_of_ble_eq_true rfl⟩ rfl rfl (Nat.le_of_ble_eq_true rfl) dX11_type_44 rfl ?_
      exact v_iretS h rfl dX11_type_47
    · refine v_aload_n 28 0 dX11_type_27 rfl rfl rfl ?_
      obtain ⟨x2, s3, h0, h⟩ := ob2 h
      refine v_cV 31 7 [] (rfl : kK 0 = 7) rfl (c_X11_refuseFull _ _ h0) cl_X11_refuseFull gX11_type_X11_refuseFull rfl ⟨Nat.le_of_ble_eq_true rfl, Nat.le_of_ble_eq_true rfl⟩ rfl rfl (Nat.le_of_ble_eq_true rfl) dX11_type_28 rfl ?_
      exact v_iretS h rfl dX11_type_31
  · refine v_aload_n 11 0 dX11_type_10 rfl rfl rfl ?_
    refine v_bipush 13 (-2) dX11_type_11 kc_b_m2 rfl ?_
    obtain ⟨x4, s5, h0, h⟩ := ob2 h
    refine v_cV 16 7 [.int (-2)] (rfl : kK 0 = 7) rfl (c_X11_refuseBad (-2) _ _ h0) cl_X11_refuseBad gX11_type_X11_refuseBad rfl ⟨Nat.le_of_ble_eq_true rfl, Nat.le_of_ble_eq_true rfl⟩ rfl rfl (Nat.le_of_ble_eq_true rfl) dX11_type_13 rfl ?_
    exact v_iretS h rfl dX11_type_16
-- public int undo();
abbrev rm_X11_undo : Room := { frames := 3, cells := 0, slots := 0, locals := 65 }
theorem cl_X11_undo : Cl yX11_undo wsX11_undo cX11_undo 1 (some .int) rm_X11_undo 0 := ⟨⟨_, rfl⟩, rfl, rfl, by decide +kernel, by decide +kernel, by decide +kernel⟩
theorem in_X11_undo_7 : ∀ w ∈ wsX110, w ∈ wsX11_undo := fun w h => List.mem_cons_of_mem _ (List.mem_append_left _ (List.mem_append_left _ (List.mem_append_left _ (List.mem_append_right _ h))))
theorem in_X11_undo_0 : ∀ w ∈ wsX30, w ∈ wsX11_undo := fun w h => List.mem_cons_of_mem _ (List.mem_append_left _ (List.mem_append_left _ (List.mem_append_right _ h)))
theorem in_X11_undo_1 : ∀ w ∈ wsX40, w ∈ wsX11_undo := fun w h => List.mem_cons_of_mem _ (List.mem_append_left _ (List.mem_append_right _ h))
def f_X11_undo (σ : Sg) : Option (Int32 × Sg) := (if (f_X3_undoable σ 1) = 0 then bnd (f_X11_refuseNo σ) fun x2 s3 => (some (x2, s3)) else (f_X4_restore σ 18 16).bind fun s1 => (some (rI s1 18 0, s1)))
set_option maxRecDepth 100000 in
set_option maxHeartbeats 4000000 in
theorem c_X11_undo {g : Cx} {σ : Sg} (r : Int32) (τ : Sg) (h : f_X11_undo σ = some (r, τ)) : ∀ l, MetF l yX11_undo wsX11_undo rm_X11_undo g [.ref (g.1 0)] σ (some (.int r)) τ := by
  refine MetF.of (own0 := RX11) (lv0 := [(0, .ref (g.1 0))]) rfl cl_X11_undo (by decide) (Nat.le_of_ble_eq_true rfl) rfl ?_
  unfold f_X11_undo at h
  refine v_aload_n 1 0 dX11_undo_0 rfl rfl rfl ?_
  refine vg_7_0 4 (rfl : kK 0 = 7) in_X11_undo_7 (mem_at 1 rfl) dX11_undo_1 rfl ?_
  refine v_cV 7 0 [] (rfl : kK 1 = 0) rfl (c_X3_undoable 1 (rfl : kK 1 = 0)) cl_X3_undoable gX11_undo_X3_undoable rfl ⟨Nat.le_of_ble_eq_true rfl, Nat.le_of_ble_eq_true rfl⟩ rfl rfl (Nat.le_of_ble_eq_true rfl) dX11_undo_4 rfl ?_
  refine v_if_ne 10 15 h dX11_undo_7 rfl (by decide) (fun h => ?_) (fun h => ?_)
  · refine v_aload_n 16 0 dX11_undo_15 rfl rfl rfl ?_
    refine vg_7_0 19 (rfl : kK 0 = 7) in_X11_undo_7 (mem_at 1 rfl) dX11_undo_16 rfl ?_
    refine vg_0_8 22 18 (rfl : kK 1 = 0) in_X11_undo_0 (mem_at 2 rfl) rfl dX11_undo_19 rfl ?_
    refine v_aload_n 23 0 dX11_undo_22 rfl rfl rfl ?_
    refine vg_7_0 26 (rfl : kK 0 = 7) in_X11_undo_7 (mem_at 1 rfl) dX11_undo_23 rfl ?_
    refine vg_0_7 29 16 (rfl : kK 1 = 0) in_X11_undo_0 (mem_at 3 rfl) rfl dX11_undo_26 rfl ?_
    obtain ⟨s1, h0, h⟩ := ob h
    refine v_cV 32 1 [.ref (g.1 16)] (rfl : kK 18 = 1) rfl (c_X4_restore 18 16 (rfl : kK 18 = 1) (rfl : kK 16 = 4) _ h0) cl_X4_restore gX11_undo_X4_restore rfl ⟨Nat.le_of_ble_eq_true rfl, Nat.le_of_ble_eq_true rfl⟩ rfl rfl (Nat.le_of_ble_eq_true rfl) dX11_undo_29 rfl ?_
    refine v_aload_n 33 0 dX11_undo_32 rfl rfl rfl ?_
    refine vg_7_0 36 (rfl : kK 0 = 7) in_X11_undo_7 (mem_at 1 rfl) dX11_undo_33 rfl ?_
    refine vg_0_8 39 18 (rfl : kK 1 = 0) in_X11_undo_0 (mem_at 2 rfl) rfl dX11_undo_36 rfl ?_
    refine vg_1_0 42 (rfl : kK 18 = 1) in_X11_undo_1 (mem_at 4 rfl) dX11_undo_39 rfl ?_
    exact v_iretS h rfl dX11_undo_42
  · refine v_aload_n 11 0 dX11_undo_10 rfl rfl rfl ?_
    obtain ⟨x2, s3, h0, h⟩ := ob2 h
    refine v_cV 14 7 [] (rfl : kK 0 = 7) rfl (c_X11_refuseNo _ _ h0) cl_X11_refuseNo gX11_undo_X11_refuseNo rfl ⟨Nat.le_of_ble_eq_true rfl, Nat.le_of_ble_eq_true rfl⟩ rfl rfl (Nat.le_of_ble_eq_true rfl) dX11_undo_11 rfl ?_
    exact v_iretS h rfl dX11_undo_14
-- public int visit(int, int);
abbrev rm_X11_visit : Room := { frames := 4, cells := 0, slots := 0, locals := 85 }
theorem cl_X11_visit : Cl yX11_visit wsX11_visit cX11_visit 3 (some .int) rm_X11_visit 2 := ⟨⟨_, rfl⟩, rfl, rfl, by decide +kernel, by decide +kernel, by decide +kernel⟩
theorem in_X11_visit_7 : ∀ w ∈ wsX110, w ∈ wsX11_visit := fun w h => List.mem_cons_of_mem _ (List.mem_append_left _ (List.mem_append_left _ (List.mem_append_left _ (List.mem_append_right _ h))))
theorem in_X11_visit_0 : ∀ w ∈ wsX30, w ∈ wsX11_visit := fun w h => List.mem_cons_of_mem _ (List.mem_append_left _ (List.mem_append_left _ (List.mem_append_right _ h)))
def b_X11_visit_21 (l1 : Int32) (l2 : Int32) (σ : Sg) : Option (Int32 × Sg) := bnd (f_X11_refuseBad σ (-2)) fun x1 s2 => (some (x1, s2))
def f_X11_visit (σ : Sg) (l1 : Int32) (l2 : Int32) : Option (Int32 × Sg) := (if (f_X3_hasKeeper σ 1 l1) = 0 then b_X11_visit_21 l1 l2 σ else (if (f_X11_between l2 0 9) = 0 then b_X11_visit_21 l1 l2 σ else (if (f_X4_isLent σ 18 l1) = 0 then (f_X3_remember σ 1).bind fun s3 => (f_X7_at s3 2 l1).bind fun x4 => bnd (f_X4_bringGift s3 18 l1 x4 l2) fun x5 s6 => (if x5 = 0 then (some (0, s6)) else (some (1, s6))) else bnd (f_X11_refuseNo σ) fun x7 s8 => (some (x7, s8)))))
set_option maxRecDepth 100000 in
set_option maxHeartbeats 4000000 in
theorem q_X11_visit_21 {g : Cx} (l1 : Int32) (l2 : Int32) (r : Int32) (τ : Sg) : ∀ σ : Sg, b_X11_visit_21 l1 l2 σ = some (r, τ) → V g cX11_visit RX11 wsX11_visit 3 (some .int) rm_X11_visit (some (.int r)) τ σ 21 [(0, .ref (g.1 0))] [] := by
  intro σ h
  unfold b_X11_visit_21 at h
  refine v_aload_n 22 0 dX11_visit_21 rfl rfl rfl ?_
  refine v_bipush 24 (-2) dX11_visit_22 kc_b_m2 rfl ?_
  obtain ⟨x1, s2, h0, h⟩ := ob2 h
  refine v_cV 27 7 [.int (-2)] (rfl : kK 0 = 7) rfl (c_X11_refuseBad (-2) _ _ h0) cl_X11_refuseBad gX11_visit_X11_refuseBad rfl ⟨Nat.le_of_ble_eq_true rfl, Nat.le_of_ble_eq_true rfl⟩ rfl rfl (Nat.le_of_ble_eq_true rfl) dX11_visit_24 rfl ?_
  exact v_iretS h rfl dX11_visit_27
set_option maxRecDepth 100000 in
set_option maxHeartbeats 4000000 in
theorem c_X11_visit {g : Cx} {σ : Sg} (l1 : Int32) (l2 : Int32) (r : Int32) (τ : Sg) (h : f_X11_visit σ l1 l2 = some (r, τ)) : ∀ l, MetF l yX11_visit wsX11_visit rm_X11_visit g [.ref (g.1 0), .int l1, .int l2] σ (some (.int r)) τ := by
  refine MetF.of (own0 := RX11) (lv0 := [(0, .ref (g.1 0)), (1, .int l1), (2, .int l2)]) rfl cl_X11_visit (by decide) (Nat.le_of_ble_eq_true rfl) rfl ?_
  unfold f_X11_visit at h
  refine v_aload_n 1 0 dX11_visit_0 rfl rfl rfl ?_
  refine vg_7_0 4 (rfl : kK 0 = 7) in_X11_visit_7 (mem_at 1 rfl) dX11_visit_1 rfl ?_
  refine v_iload_n 5 1 dX11_visit_4 rfl rfl rfl ?_
  refine v_cV 8 0 [.int l1] (rfl : kK 1 = 0) rfl (c_X3_hasKeeper 1 l1 (rfl : kK 1 = 0)) cl_X3_hasKeeper gX11_visit_X3_hasKeeper rfl ⟨Nat.le_of_ble_eq_true rfl, Nat.le_of_ble_eq_true rfl⟩ rfl rfl (Nat.le_of_ble_eq_true rfl) dX11_visit_5 rfl ?_
  refine v_if_eq 11 21 h dX11_visit_8 rfl (by decide) (fun h => ?_) (fun h => ?_)
  · refine v_sub [0] rfl ?_
    exact q_X11_visit_21 l1 l2 r τ σ h
  · refine v_iload_n 12 2 dX11_visit_11 rfl rfl rfl ?_
    refine v_iconst 13 0 dX11_visit_12 kc_i_0 rfl ?_
    refine v_bipush 15 9 dX11_visit_13 kc_b_9 rfl ?_
    refine v_cS 18 [.int l2, .int 0, .int 9] (c_X11_between l2 0 9) cl_X11_between gX11_visit_X11_between ⟨Nat.le_of_ble_eq_true rfl, Nat.le_of_ble_eq_true rfl⟩ rfl rfl (Nat.le_of_ble_eq_true rfl) dX11_visit_15 rfl ?_
    refine v_if_ne 21 28 h dX11_visit_18 rfl (by decide) (fun h => ?_) (fun h => ?_)
    · refine v_aload_n 29 0 dX11_visit_28 rfl rfl rfl ?_
      refine vg_7_0 32 (rfl : kK 0 = 7) in_X11_visit_7 (mem_at 1 rfl) dX11_visit_29 rfl ?_
      refine vg_0_8 35 18 (rfl : kK 1 = 0) in_X11_visit_0 (mem_at 2 rfl) rfl dX11_visit_32 rfl ?_
      refine v_iload_n 36 1 dX11_visit_35 rfl rfl rfl ?_
      refine v_cV 39 1 [.int l1] (rfl : kK 18 = 1) rfl (c_X4_isLent 18 l1 (rfl : kK 18 = 1)) cl_X4_isLent gX11_visit_X4_isLent rfl ⟨Nat.le_of_ble_eq_true rfl, Nat.le_of_ble_eq_true rfl⟩ rfl rfl (Nat.le_of_ble_eq_true rfl) dX11_visit_36 rfl ?_
      refine v_if_eq 42 47 h dX11_visit_39 rfl (by decide) (fun h => ?_) (fun h => ?_)
      · refine v_aload_n 48 0 dX11_visit_47 rfl rfl rfl ?_
        refine vg_7_0 51 (rfl : kK 0 = 7) in_X11_visit_7 (mem_at 1 rfl) dX11_visit_48 rfl ?_
        obtain ⟨s3, h0, h⟩ := ob h
        refine v_cV 54 0 [] (rfl : kK 1 = 0) rfl (c_X3_remember 1 (rfl : kK 1 = 0) _ h0) cl_X3_remember gX11_visit_X3_remember rfl ⟨Nat.le_of_ble_eq_true rfl, Nat.le_of_ble_eq_true rfl⟩ rfl rfl (Nat.le_of_ble_eq_true rfl) dX11_visit_51 rfl ?_
        refine v_aload_n 55 0 dX11_visit_54 rfl rfl rfl ?_
        refine vg_7_0 58 (rfl : kK 0 = 7) in_X11_visit_7 (mem_at 1 rfl) dX11_visit_55 rfl ?_
        refine vg_0_8 61 18 (rfl : kK 1 = 0) in_X11_visit_0 (mem_at 2 rfl) rfl dX11_visit_58 rfl ?_
        refine v_iload_n 62 1 dX11_visit_61 rfl rfl rfl ?_
        refine v_aload_n 63 0 dX11_visit_62 rfl rfl rfl ?_
        refine vg_7_0 66 (rfl : kK 0 = 7) in_X11_visit_7 (mem_at 1 rfl) dX11_visit_63 rfl ?_
        refine vg_0_0 69 2 (rfl : kK 1 = 0) in_X11_visit_0 (mem_at 3 rfl) rfl dX11_visit_66 rfl ?_
        refine v_iload_n 70 1 dX11_visit_69 rfl rfl rfl ?_
        obtain ⟨x4, h0, h⟩ := ob h
        refine v_cV 73 4 [.int l1] (rfl : kK 2 = 4) rfl (c_X7_at 2 l1 (rfl : kK 2 = 4) _ h0) cl_X7_at gX11_visit_X7_at rfl ⟨Nat.le_of_ble_eq_true rfl, Nat.le_of_ble_eq_true rfl⟩ rfl rfl (Nat.le_of_ble_eq_true rfl) dX11_visit_70 rfl ?_
        refine v_iload_n 74 2 dX11_visit_73 rfl rfl rfl ?_
        obtain ⟨x5, s6, h0, h⟩ := ob2 h
        refine v_cV 77 1 [.int l1, .int x4, .int l2] (rfl : kK 18 = 1) rfl (c_X4_bringGift 18 l1 x4 l2 (rfl : kK 18 = 1) _ _ h0) cl_X4_bringGift gX11_visit_X4_bringGift rfl ⟨Nat.le_of_ble_eq_true rfl, Nat.le_of_ble_eq_true rfl⟩ rfl rfl (Nat.le_of_ble_eq_true rfl) dX11_visit_74 rfl ?_
        refine v_if_eq 80 84 h dX11_visit_77 rfl (by decide) (fun h => ?_) (fun h => ?_)
        · refine v_iconst 85 0 dX11_visit_84 kc_i_0 rfl ?_
          exact v_iretS h rfl dX11_visit_85
        · refine v_iconst 81 1 dX11_visit_80 kc_i_1 rfl ?_
          refine v_goto 85 dX11_visit_81 (by decide) ?_
          exact v_iretS h rfl dX11_visit_85
      · refine v_aload_n 43 0 dX11_visit_42 rfl rfl rfl ?_
        obtain ⟨x7, s8, h0, h⟩ := ob2 h
        refine v_cV 46 7 [] (rfl : kK 0 = 7) rfl (c_X11_refuseNo _ _ h0) cl_X11_refuseNo gX11_visit_X11_refuseNo rfl ⟨Nat.le_of_ble_eq_true rfl, Nat.le_of_ble_eq_true rfl⟩ rfl rfl (Nat.le_of_ble_eq_true rfl) dX11_visit_43 rfl ?_
        exact v_iretS h rfl dX11_visit_46
    · refine v_sub [0] rfl ?_
      exact q_X11_visit_21 l1 l2 r τ σ h
-- public int watch(int);
abbrev rm_X11_watch : Room := { frames := 4, cells := 0, slots := 0, locals := 91 }
theorem cl_X11_watch : Cl yX11_watch wsX11_watch cX11_watch 3 (some .int) rm_X11_watch 1 := ⟨⟨_, rfl⟩, rfl, rfl, by decide +kernel, by decide +kernel, by decide +kernel⟩
theorem in_X11_watch_7 : ∀ w ∈ wsX110, w ∈ wsX11_watch := fun w h => List.mem_cons_of_mem _ (List.mem_append_left _ (List.mem_append_left _ (List.mem_append_left _ (List.mem_append_left _ (List.mem_append_right _ h)))))
theorem in_X11_watch_0 : ∀ w ∈ wsX30, w ∈ wsX11_watch := fun w h => List.mem_cons_of_mem _ (List.mem_append_left _ (List.mem_append_left _ (List.mem_append_left _ (List.mem_append_right _ h))))
theorem in_X11_watch_1 : ∀ w ∈ wsX40, w ∈ wsX11_watch := fun w h => List.mem_cons_of_mem _ (List.mem_append_left _ (List.mem_append_left _ (List.mem_append_right _ h)))
def f_X11_watch (σ : Sg) (l1 : Int32) : Option (Int32 × Sg) := (if (f_X3_hasKeeper σ 1 l1) = 0 then bnd (f_X11_refuseBad σ (-2)) fun x5 s6 => (some (x5, s6)) else (f_X1_kindsOfKeeper σ 1 l1).bind fun x1 => (if x1 = 0 then (some ((-1), σ)) else (f_X7_at σ 19 l1).bind fun x2 => bnd (f_X1_bestDay σ x1 x2) fun x3 s4 => (some (x3, s4))))
set_option maxRecDepth 100000 in
set_option maxHeartbeats 4000000 in
theorem c_X11_watch {g : Cx} {σ : Sg} (l1 : Int32) (r : Int32) (τ : Sg) (h : f_X11_watch σ l1 = some (r, τ)) : ∀ l, MetF l yX11_watch wsX11_watch rm_X11_watch g [.ref (g.1 0), .int l1] σ (some (.int r)) τ := by
  refine MetF.of (own0 := RX11) (lv0 := [(0, .ref (g.1 0)), (1, .int l1)]) rfl cl_X11_watch (by decide) (Nat.le_of_ble_eq_true rfl) rfl ?_
  unfold f_X11_watch at h
  refine v_aload_n 1 0 dX11_watch_0 rfl rfl rfl ?_
  refine vg_7_0 4 (rfl : kK 0 = 7) in_X11_watch_7 (mem_at 1 rfl) dX11_watch_1 rfl ?_
  refine v_iload_n 5 1 dX11_watch_4 rfl rfl rfl ?_
  refine v_cV 8 0 [.int l1] (rfl : kK 1 = 0) rfl (c_X3_hasKeeper 1 l1 (rfl : kK 1 = 0)) cl_X3_hasKeeper gX11_watch_X3_hasKeeper rfl ⟨Nat.le_of_ble_eq_true rfl, Nat.le_of_ble_eq_true rfl⟩ rfl rfl (Nat.le_of_ble_eq_true rfl) dX11_watch_5 rfl ?_
  refine v_if_ne 11 18 h dX11_watch_8 rfl (by decide) (fun h => ?_) (fun h => ?_)
  · refine v_aload_n 19 0 dX11_watch_18 rfl rfl rfl ?_
    refine vg_7_0 22 (rfl : kK 0 = 7) in_X11_watch_7 (mem_at 1 rfl) dX11_watch_19 rfl ?_
    refine v_iload_n 23 1 dX11_watch_22 rfl rfl rfl ?_
    obtain ⟨x1, h0, h⟩ := ob h
    refine v_cS 26 [.ref (g.1 1), .int l1] (c_X1_kindsOfKeeper 1 l1 (rfl : kK 1 = 0) _ h0) cl_X1_kindsOfKeeper gX11_watch_X1_kindsOfKeeper ⟨Nat.le_of_ble_eq_true rfl, Nat.le_of_ble_eq_true rfl⟩ rfl rfl (Nat.le_of_ble_eq_true rfl) dX11_watch_23 rfl ?_
    refine v_istore_n 27 dX11_watch_26 rfl (by decide) rfl rfl ?_
    refine v_iload_n 28 0 dX11_watch_27 rfl rfl rfl ?_
    refine v_if_ne 31 35 h dX11_watch_28 rfl (by decide) (fun h => ?_) (fun h => ?_)
    · refine v_iload_n 36 0 dX11_watch_35 rfl rfl rfl ?_
      refine v_aload_n 37 1 dX11_watch_36 rfl rfl rfl ?_
      refine vg_7_0 40 (rfl : kK 0 = 7) in_X11_watch_7 (mem_at 1 rfl) dX11_watch_37 rfl ?_
      refine vg_0_8 43 18 (rfl : kK 1 = 0) in_X11_watch_0 (mem_at 2 rfl) rfl dX11_watch_40 rfl ?_
      refine vg_1_2 46 19 (rfl : kK 18 = 1) in_X11_watch_1 (mem_at 3 rfl) rfl dX11_watch_43 rfl ?_
      refine v_iload_n 47 2 dX11_watch_46 rfl rfl rfl ?_
      obtain ⟨x2, h0, h⟩ := ob h
      refine v_cV 50 4 [.int l1] (rfl : kK 19 = 4) rfl (c_X7_at 19 l1 (rfl : kK 19 = 4) _ h0) cl_X7_at gX11_watch_X7_at rfl ⟨Nat.le_of_ble_eq_true rfl, Nat.le_of_ble_eq_true rfl⟩ rfl rfl (Nat.le_of_ble_eq_true rfl) dX11_watch_47 rfl ?_
      refine v_aload_n 51 1 dX11_watch_50 rfl rfl rfl ?_
      refine vg_7_9 54 (rfl : kK 0 = 7) in_X11_watch_7 (mem_at 4 rfl) dX11_watch_51 rfl ?_
      obtain ⟨x3, s4, h0, h⟩ := ob2 h
      refine v_cS 57 [.int x1, .int x2, .ref (g.1 107)] (c_X1_bestDay x1 x2 _ _ h0) cl_X1_bestDay gX11_watch_X1_bestDay ⟨Nat.le_of_ble_eq_true rfl, Nat.le_of_ble_eq_true rfl⟩ rfl rfl (Nat.le_of_ble_eq_true rfl) dX11_watch_54 rfl ?_
      exact v_iretS h rfl dX11_watch_57
    · refine v_iconst 32 (-1) dX11_watch_31 kc_i_m1 rfl ?_
      refine v_goto 57 dX11_watch_32 (by decide) ?_
      exact v_iretS h rfl dX11_watch_57
  · refine v_aload_n 12 0 dX11_watch_11 rfl rfl rfl ?_
    refine v_bipush 14 (-2) dX11_watch_12 kc_b_m2 rfl ?_
    obtain ⟨x5, s6, h0, h⟩ := ob2 h
    refine v_cV 17 7 [.int (-2)] (rfl : kK 0 = 7) rfl (c_X11_refuseBad (-2) _ _ h0) cl_X11_refuseBad gX11_watch_X11_refuseBad rfl ⟨Nat.le_of_ble_eq_true rfl, Nat.le_of_ble_eq_true rfl⟩ rfl rfl (Nat.le_of_ble_eq_true rfl) dX11_watch_14 rfl ?_
    exact v_iretS h rfl dX11_watch_17
-- public int who(int);
abbrev rm_X11_who : Room := { frames := 6, cells := 0, slots := 0, locals := 131 }
theorem cl_X11_who : Cl yX11_who wsX11_who cX11_who 2 (some .int) rm_X11_who 1 := ⟨⟨_, rfl⟩, rfl, rfl, by decide +kernel, by decide +kernel, by decide +kernel⟩
theorem in_X11_who_7 : ∀ w ∈ wsX110, w ∈ wsX11_who := fun w h => List.mem_cons_of_mem _ (List.mem_append_left _ (List.mem_append_left _ (List.mem_append_right _ h)))
def f_X11_who (σ : Sg) (l1 : Int32) : Option (Int32 × Sg) := (if (f_X3_hasBalance σ 1 l1) = 0 then bnd (f_X11_refuseBad σ (-2)) fun x1 s2 => (some (x1, s2)) else (f_X1_kindsOfBalance σ 1 l1).bind fun x3 => (some (x3, σ)))
set_option maxRecDepth 100000 in
set_option maxHeartbeats 4000000 in
theorem c_X11_who {g : Cx} {σ : Sg} (l1 : Int32) (r : Int32) (τ : Sg) (h : f_X11_who σ l1 = some (r, τ)) : ∀ l, MetF l yX11_who wsX11_who rm_X11_who g [.ref (g.1 0), .int l1] σ (some (.int r)) τ := by
  refine MetF.of (own0 := RX11) (lv0 := [(0, .ref (g.1 0)), (1, .int l1)]) rfl cl_X11_who (by decide) (Nat.le_of_ble_eq_true rfl) rfl ?_
  unfold f_X11_who at h
  refine v_aload_n 1 0 dX11_who_0 rfl rfl rfl ?_
  refine vg_7_0 4 (rfl : kK 0 = 7) in_X11_who_7 (mem_at 1 rfl) dX11_who_1 rfl ?_
  refine v_iload_n 5 1 dX11_who_4 rfl rfl rfl ?_
  refine v_cV 8 0 [.int l1] (rfl : kK 1 = 0) rfl (c_X3_hasBalance 1 l1 (rfl : kK 1 = 0)) cl_X3_hasBalance gX11_who_X3_hasBalance rfl ⟨Nat.le_of_ble_eq_true rfl, Nat.le_of_ble_eq_true rfl⟩ rfl rfl (Nat.le_of_ble_eq_true rfl) dX11_who_5 rfl ?_
  refine v_if_eq 11 22 h dX11_who_8 rfl (by decide) (fun h => ?_) (fun h => ?_)
  · refine v_aload_n 23 0 dX11_who_22 rfl rfl rfl ?_
    refine v_bipush 25 (-2) dX11_who_23 kc_b_m2 rfl ?_
    obtain ⟨x1, s2, h0, h⟩ := ob2 h
    refine v_cV 28 7 [.int (-2)] (rfl : kK 0 = 7) rfl (c_X11_refuseBad (-2) _ _ h0) cl_X11_refuseBad gX11_who_X11_refuseBad rfl ⟨Nat.le_of_ble_eq_true rfl, Nat.le_of_ble_eq_true rfl⟩ rfl rfl (Nat.le_of_ble_eq_true rfl) dX11_who_25 rfl ?_
    exact v_iretS h rfl dX11_who_28
  · refine v_aload_n 12 0 dX11_who_11 rfl rfl rfl ?_
    refine vg_7_0 15 (rfl : kK 0 = 7) in_X11_who_7 (mem_at 1 rfl) dX11_who_12 rfl ?_
    refine v_iload_n 16 1 dX11_who_15 rfl rfl rfl ?_
    obtain ⟨x3, h0, h⟩ := ob h
    refine v_cS 19 [.ref (g.1 1), .int l1] (c_X1_kindsOfBalance 1 l1 (rfl : kK 1 = 0) _ h0) cl_X1_kindsOfBalance gX11_who_X1_kindsOfBalance ⟨Nat.le_of_ble_eq_true rfl, Nat.le_of_ble_eq_true rfl⟩ rfl rfl (Nat.le_of_ble_eq_true rfl) dX11_who_16 rfl ?_
    refine v_goto 28 dX11_who_19 (by decide) ?_
    exact v_iretS h rfl dX11_who_28
-- public int years(int, int);
abbrev rm_X11_years : Room := { frames := 3, cells := 0, slots := 0, locals := 69 }
theorem cl_X11_years : Cl yX11_years wsX11_years cX11_years 9 (some .int) rm_X11_years 2 := ⟨⟨_, rfl⟩, rfl, rfl, by decide +kernel, by decide +kernel, by decide +kernel⟩
theorem in_X11_years_7 : ∀ w ∈ wsX110, w ∈ wsX11_years := fun w h => List.mem_cons_of_mem _ (List.mem_append_left _ (List.mem_append_left _ (List.mem_append_left _ (List.mem_append_right _ h))))
theorem in_X11_years_0 : ∀ w ∈ wsX30, w ∈ wsX11_years := fun w h => List.mem_cons_of_mem _ (List.mem_append_left _ (List.mem_append_left _ (List.mem_append_right _ h)))
def b_X11_years_21 (l1 : Int32) (l2 : Int32) (σ : Sg) : Option (Int32 × Sg) := bnd (f_X11_refuseBad σ (-2)) fun x1 s2 => (some (x1, s2))
def b_X11_years_148 (l1 : Int32) (l2 : Int32) (c51 : Sg → Int64 → Int32 → Int32 → Option (Int32 × Sg)) (σ : Sg) (l3 : Int64) (l5 : Int32) (l6 : Int32) : Option (Int32 × Sg) := (f_X4_passDay σ 94 2).bind fun s8 => nam (l6 + 1) fun x9 => c51 s8 l3 l5 x9
def b_X11_years_51 (l1 : Int32) (l2 : Int32) : Nat → Sg → Int64 → Int32 → Int32 → Option (Int32 × Sg)
  | 0, _, _, _, _ => none
  | f + 1, σ, l3, l5, l6 => (if l2 ≤ l6 then (some (l5, σ)) else nam (((l3 * 1103515245) + 12345) - ((l3 * 1103515245) + 12345) / 2147483648 * 2147483648) fun x5 => nam (Int64.toInt32 ((x5 / 65536) - (x5 / 65536) / 7 * 7)) fun x6 => nam (Int64.toInt32 ((x5 / 1048576) - (x5 / 1048576) / 10 * 10)) fun x7 => (if (f_X3_hasKeeper σ 1 x6) = 0 then b_X11_years_148 l1 l2 (b_X11_years_51 l1 l2 f) σ x5 l5 l6 else (if (f_X4_isLent σ 94 x6) = 0 then (f_X7_at σ 2 x6).bind fun x10 => bnd (f_X4_bringGift σ 94 x6 x10 x7) fun x11 s12 => (if x11 = 0 then b_X11_years_148 l1 l2 (b_X11_years_51 l1 l2 f) s12 x5 l5 l6 else nam (l5 + 1) fun x13 => b_X11_years_148 l1 l2 (b_X11_years_51 l1 l2 f) s12 x5 x13 l6) else b_X11_years_148 l1 l2 (b_X11_years_51 l1 l2 f) σ x5 l5 l6)))
def f_X11_years (σ : Sg) (l1 : Int32) (l2 : Int32) : Option (Int32 × Sg) := (if (f_X11_between l1 0 999999) = 0 then b_X11_years_21 l1 l2 σ else (if (f_X11_between l2 0 60) = 0 then b_X11_years_21 l1 l2 σ else (f_X4_take σ 94 18).bind fun s3 => nam (Int32.toInt64 l1) fun x4 => b_X11_years_51 l1 l2 FU s3 x4 0 0))
set_option maxRecDepth 100000 in
set_option maxHeartbeats 4000000 in
theorem q_X11_years_21 {g : Cx} (l1 : Int32) (l2 : Int32) (r : Int32) (τ : Sg) : ∀ σ : Sg, b_X11_years_21 l1 l2 σ = some (r, τ) → V g cX11_years RX11 wsX11_years 9 (some .int) rm_X11_years (some (.int r)) τ σ 21 [(0, .ref (g.1 0))] [] := by
  intro σ h
  unfold b_X11_years_21 at h
  refine v_aload_n 22 0 dX11_years_21 rfl rfl rfl ?_
  refine v_bipush 24 (-2) dX11_years_22 kc_b_m2 rfl ?_
  obtain ⟨x1, s2, h0, h⟩ := ob2 h
  refine v_cV 27 7 [.int (-2)] (rfl : kK 0 = 7) rfl (c_X11_refuseBad (-2) _ _ h0) cl_X11_refuseBad gX11_years_X11_refuseBad rfl ⟨Nat.le_of_ble_eq_true rfl, Nat.le_of_ble_eq_true rfl⟩ rfl rfl (Nat.le_of_ble_eq_true rfl) dX11_years_24 rfl ?_
  exact v_iretS h rfl dX11_years_27
set_option maxRecDepth 100000 in
set_option maxHeartbeats 4000000 in
theorem q_X11_years_148 {g : Cx} (l1 : Int32) (l2 : Int32) (r : Int32) (τ : Sg) (c51 : Sg → Int64 → Int32 → Int32 → Option (Int32 × Sg)) (hc51 : ∀ σ : Sg, ∀ l3 : Int64, ∀ l5 : Int32, ∀ l6 : Int32, c51 σ l3 l5 l6 = some (r, τ) → V g cX11_years RX11 wsX11_years 9 (some .int) rm_X11_years (some (.int r)) τ σ 51 [(0, .ref (g.1 0)), (2, .int l2), (3, .long l3), (5, .int l5), (6, .int l6)] []) : ∀ σ : Sg, ∀ l3 : Int64, ∀ l5 : Int32, ∀ l6 : Int32, b_X11_years_148 l1 l2 c51 σ l3 l5 l6 = some (r, τ) → V g cX11_years RX11 wsX11_years 9 (some .int) rm_X11_years (some (.int r)) τ σ 148 [(0, .ref (g.1 0)), (2, .int l2), (3, .long l3), (5, .int l5), (6, .int l6)] [] := by
  intro σ l3 l5 l6 h
  unfold b_X11_years_148 at h
  refine v_aload_n 149 0 dX11_years_148 rfl rfl rfl ?_
  refine vg_7_6 152 (rfl : kK 0 = 7) in_X11_years_7 (mem_at 2 rfl) dX11_years_149 rfl ?_
  refine v_aload_n 153 0 dX11_years_152 rfl rfl rfl ?_
  refine vg_7_0 156 (rfl : kK 0 = 7) in_X11_years_7 (mem_at 3 rfl) dX11_years_153 rfl ?_
  refine vg_0_0 159 2 (rfl : kK 1 = 0) in_X11_years_0 (mem_at 12 rfl) rfl dX11_years_156 rfl ?_
  obtain ⟨s8, h0, h⟩ := ob h
  refine v_cV 162 1 [.ref (g.1 2)] (rfl : kK 94 = 1) rfl (c_X4_passDay 94 2 (rfl : kK 94 = 1) (rfl : kK 2 = 4) _ h0) cl_X4_passDay gX11_years_X4_passDay rfl ⟨Nat.le_of_ble_eq_true rfl, Nat.le_of_ble_eq_true rfl⟩ rfl rfl (Nat.le_of_ble_eq_true rfl) dX11_years_159 rfl ?_
  refine v_iincN 165 4 h dX11_years_162 rfl kc_i_1 (by decide) rfl (fun _ => rfl) (fun x9 h => ?_)
  refine v_goto 51 dX11_years_165 (by decide) ?_
  refine v_sub [1, 2, 3, 4, 0] rfl ?_
  exact hc51 s8 l3 l5 x9 h
set_option maxRecDepth 100000 in
set_option maxHeartbeats 4000000 in
theorem q_X11_years_51 {g : Cx} (l1 : Int32) (l2 : Int32) (r : Int32) (τ : Sg) : ∀ f : Nat, ∀ σ : Sg, ∀ l3 : Int64, ∀ l5 : Int32, ∀ l6 : Int32, b_X11_years_51 l1 l2 f σ l3 l5 l6 = some (r, τ) → V g cX11_years RX11 wsX11_years 9 (some .int) rm_X11_years (some (.int r)) τ σ 51 [(0, .ref (g.1 0)), (2, .int l2), (3, .long l3), (5, .int l5), (6, .int l6)] [] := by
  intro f
  induction f with
  | zero =>
    intro σ l3 l5 l6 h
    cases h
  | succ f ih =>
    intro σ l3 l5 l6 h
    rw [b_X11_years_51] at h
    refine v_iload 53 4 dX11_years_51 rfl rfl ?_
    refine v_iload_n 54 1 dX11_years_53 rfl rfl rfl ?_
    refine v_icmp_ge 57 168 h dX11_years_54 rfl (by decide) (fun h => ?_) (fun h => ?_)
    · refine v_iload 170 3 dX11_years_168 rfl rfl ?_
      exact v_iretS h rfl dX11_years_170
    · refine v_lload_n 58 2 dX11_years_57 rfl rfl rfl ?_
      refine v_ldc2 61 1103515245 dX11_years_58 (mem_at 5 rfl) rfl ?_
      refine v_lmul 62 dX11_years_61 rfl ?_
      refine v_ldc2 65 12345 dX11_years_62 (mem_at 6 rfl) rfl ?_
      refine v_ladd 66 dX11_years_65 rfl ?_
      refine v_ldc2 69 2147483648 dX11_years_66 (mem_at 7 rfl) rfl ?_
      refine v_lrem 70 kc_nl_2147483648 dX11_years_69 rfl ?_
      refine v_lstoreN_n 71 h dX11_years_70 rfl (by decide) rfl (fun _ => rfl) (fun x5 h => ?_)
      refine v_lload_n 72 0 dX11_years_71 rfl rfl rfl ?_
      refine v_ldc2 75 65536 dX11_years_72 (mem_at 8 rfl) rfl ?_
      refine v_ldiv 76 kc_nl_65536 dX11_years_75 rfl ?_
      refine v_ldc2 79 7 dX11_years_76 (mem_at 9 rfl) rfl ?_
      refine v_lrem 80 kc_nl_7 dX11_years_79 rfl ?_
      refine v_l2i 81 dX11_years_80 rfl ?_
      refine v_istoreN 83 h dX11_years_81 (by decide) rfl (fun _ => rfl) (fun x6 h => ?_)
      refine v_lload_n 84 1 dX11_years_83 rfl rfl rfl ?_
      refine v_ldc2 87 1048576 dX11_years_84 (mem_at 10 rfl) rfl ?_
      refine v_ldiv 88 kc_nl_1048576 dX11_years_87 rfl ?_
      refine v_ldc2 91 10 dX11_years_88 (mem_at 11 rfl) rfl ?_
      refine v_lrem 92 kc_nl_10 dX11_years_91 rfl ?_
      refine v_l2i 93 dX11_years_92 rfl ?_
      refine v_istoreN 95 h dX11_years_93 (by decide) rfl (fun _ => rfl) (fun x7 h => ?_)
      refine v_aload_n 96 3 dX11_years_95 rfl rfl rfl ?_
      refine vg_7_0 99 (rfl : kK 0 = 7) in_X11_years_7 (mem_at 3 rfl) dX11_years_96 rfl ?_
      refine v_iload 101 1 dX11_years_99 rfl rfl ?_
      refine v_cV 104 0 [.int x6] (rfl : kK 1 = 0) rfl (c_X3_hasKeeper 1 x6 (rfl : kK 1 = 0)) cl_X3_hasKeeper gX11_years_X3_hasKeeper rfl ⟨Nat.le_of_ble_eq_true rfl, Nat.le_of_ble_eq_true rfl⟩ rfl rfl (Nat.le_of_ble_eq_true rfl) dX11_years_101 rfl ?_
      refine v_if_eq 107 148 h dX11_years_104 rfl (by decide) (fun h => ?_) (fun h => ?_)
      · refine v_sub [3, 4, 2, 5, 6] rfl ?_
        exact q_X11_years_148 l1 l2 r τ (b_X11_years_51 l1 l2 f) ih σ x5 l5 l6 h
      · refine v_aload_n 108 3 dX11_years_107 rfl rfl rfl ?_
        refine vg_7_6 111 (rfl : kK 0 = 7) in_X11_years_7 (mem_at 2 rfl) dX11_years_108 rfl ?_
        refine v_iload 113 1 dX11_years_111 rfl rfl ?_
        refine v_cV 116 1 [.int x6] (rfl : kK 94 = 1) rfl (c_X4_isLent 94 x6 (rfl : kK 94 = 1)) cl_X4_isLent gX11_years_X4_isLent rfl ⟨Nat.le_of_ble_eq_true rfl, Nat.le_of_ble_eq_true rfl⟩ rfl rfl (Nat.le_of_ble_eq_true rfl) dX11_years_113 rfl ?_
        refine v_if_ne 119 148 h dX11_years_116 rfl (by decide) (fun h => ?_) (fun h => ?_)
        · refine v_sub [3, 4, 2, 5, 6] rfl ?_
          exact q_X11_years_148 l1 l2 r τ (b_X11_years_51 l1 l2 f) ih σ x5 l5 l6 h
        · refine v_aload_n 120 3 dX11_years_119 rfl rfl rfl ?_
          refine vg_7_6 123 (rfl : kK 0 = 7) in_X11_years_7 (mem_at 2 rfl) dX11_years_120 rfl ?_
          refine v_iload 125 1 dX11_years_123 rfl rfl ?_
          refine v_aload_n 126 3 dX11_years_125 rfl rfl rfl ?_
          refine vg_7_0 129 (rfl : kK 0 = 7) in_X11_years_7 (mem_at 3 rfl) dX11_years_126 rfl ?_
          refine vg_0_0 132 2 (rfl : kK 1 = 0) in_X11_years_0 (mem_at 12 rfl) rfl dX11_years_129 rfl ?_
          refine v_iload 134 1 dX11_years_132 rfl rfl ?_
          obtain ⟨x10, h0, h⟩ := ob h
          refine v_cV 137 4 [.int x6] (rfl : kK 2 = 4) rfl (c_X7_at 2 x6 (rfl : kK 2 = 4) _ h0) cl_X7_at gX11_years_X7_at rfl ⟨Nat.le_of_ble_eq_true rfl, Nat.le_of_ble_eq_true rfl⟩ rfl rfl (Nat.le_of_ble_eq_true rfl) dX11_years_134 rfl ?_
          refine v_iload 139 0 dX11_years_137 rfl rfl ?_
          obtain ⟨x11, s12, h0, h⟩ := ob2 h
          refine v_cV 142 1 [.int x6, .int x10, .int x7] (rfl : kK 94 = 1) rfl (c_X4_bringGift 94 x6 x10 x7 (rfl : kK 94 = 1) _ _ h0) cl_X4_bringGift gX11_years_X4_bringGift rfl ⟨Nat.le_of_ble_eq_true rfl, Nat.le_of_ble_eq_true rfl⟩ rfl rfl (Nat.le_of_ble_eq_true rfl) dX11_years_139 rfl ?_
          refine v_if_eq 145 148 h dX11_years_142 rfl (by decide) (fun h => ?_) (fun h => ?_)
          · refine v_sub [3, 4, 2, 5, 6] rfl ?_
            exact q_X11_years_148 l1 l2 r τ (b_X11_years_51 l1 l2 f) ih s12 x5 l5 l6 h
          · refine v_iincN 148 5 h dX11_years_145 rfl kc_i_1 (by decide) rfl (fun _ => rfl) (fun x13 h => ?_)
            refine v_sub [4, 5, 3, 0, 6] rfl ?_
            exact q_X11_years_148 l1 l2 r τ (b_X11_years_51 l1 l2 f) ih s12 x5 x13 l6 h
set_option maxRecDepth 100000 in
set_option maxHeartbeats 4000000 in
theorem c_X11_years {g : Cx} {σ : Sg} (l1 : Int32) (l2 : Int32) (r : Int32) (τ : Sg) (h : f_X11_years σ l1 l2 = some (r, τ)) : ∀ l, MetF l yX11_years wsX11_years rm_X11_years g [.ref (g.1 0), .int l1, .int l2] σ (some (.int r)) τ := by
  refine MetF.of (own0 := RX11) (lv0 := [(0, .ref (g.1 0)), (1, .int l1), (2, .int l2)]) rfl cl_X11_years (by decide) (Nat.le_of_ble_eq_true rfl) rfl ?_
  unfold f_X11_years at h
  refine v_iload_n 1 1 dX11_years_0 rfl rfl rfl ?_
  refine v_iconst 2 0 dX11_years_1 kc_i_0 rfl ?_
  refine v_ldc_w 5 999999 dX11_years_2 (mem_at 1 rfl) rfl ?_
  refine v_cS 8 [.int l1, .int 0, .int 999999] (c_X11_between l1 0 999999) cl_X11_between gX11_years_X11_between ⟨Nat.le_of_ble_eq_true rfl, Nat.le_of_ble_eq_true rfl⟩ rfl rfl (Nat.le_of_ble_eq_true rfl) dX11_years_5 rfl ?_
  refine v_if_eq 11 21 h dX11_years_8 rfl (by decide) (fun h => ?_) (fun h => ?_)
  · refine v_sub [0] rfl ?_
    exact q_X11_years_21 l1 l2 r τ σ h
  · refine v_iload_n 12 2 dX11_years_11 rfl rfl rfl ?_
    refine v_iconst 13 0 dX11_years_12 kc_i_0 rfl ?_
    refine v_bipush 15 60 dX11_years_13 kc_b_60 rfl ?_
    refine v_cS 18 [.int l2, .int 0, .int 60] (c_X11_between l2 0 60) cl_X11_between gX11_years_X11_between ⟨Nat.le_of_ble_eq_true rfl, Nat.le_of_ble_eq_true rfl⟩ rfl rfl (Nat.le_of_ble_eq_true rfl) dX11_years_15 rfl ?_
    refine v_if_ne 21 28 h dX11_years_18 rfl (by decide) (fun h => ?_) (fun h => ?_)
    · refine v_aload_n 29 0 dX11_years_28 rfl rfl rfl ?_
      refine vg_7_6 32 (rfl : kK 0 = 7) in_X11_years_7 (mem_at 2 rfl) dX11_years_29 rfl ?_
      refine v_aload_n 33 0 dX11_years_32 rfl rfl rfl ?_
      refine vg_7_0 36 (rfl : kK 0 = 7) in_X11_years_7 (mem_at 3 rfl) dX11_years_33 rfl ?_
      refine vg_0_8 39 18 (rfl : kK 1 = 0) in_X11_years_0 (mem_at 4 rfl) rfl dX11_years_36 rfl ?_
      obtain ⟨s3, h0, h⟩ := ob h
      refine v_cV 42 1 [.ref (g.1 18)] (rfl : kK 94 = 1) rfl (c_X4_take 94 18 (rfl : kK 94 = 1) (rfl : kK 18 = 1) _ h0) cl_X4_take gX11_years_X4_take rfl ⟨Nat.le_of_ble_eq_true rfl, Nat.le_of_ble_eq_true rfl⟩ rfl rfl (Nat.le_of_ble_eq_true rfl) dX11_years_39 rfl ?_
      refine v_iload_n 43 1 dX11_years_42 rfl rfl rfl ?_
      refine v_i2l 44 dX11_years_43 rfl ?_
      refine v_lstoreN_n 45 h dX11_years_44 rfl (by decide) rfl (fun _ => rfl) (fun x4 h => ?_)
      refine v_iconst 46 0 dX11_years_45 kc_i_0 rfl ?_
      refine v_istore 48 dX11_years_46 (by decide) rfl rfl ?_
      refine v_iconst 49 0 dX11_years_48 kc_i_0 rfl ?_
      refine v_istore 51 dX11_years_49 (by decide) rfl rfl ?_
      refine v_sub [3, 5, 2, 1, 0] rfl ?_
      exact q_X11_years_51 l1 l2 r τ FU s3 x4 0 0 h
    · refine v_sub [0] rfl ?_
      exact q_X11_years_21 l1 l2 r τ σ h
