-- private static int tipIfOff(WidowWeight$Row, int, int, int, int);
abbrev rm_X1_tipIfOff : Room := { frames := 2, cells := 0, slots := 0, locals := 44 }
theorem cl_X1_tipIfOff : Cl yX1_tipIfOff wsX1_tipIfOff cX1_tipIfOff 7 (some .int) rm_X1_tipIfOff 5 := ⟨⟨_, rfl⟩, rfl, rfl, by decide +kernel, by decide +kernel, by decide +kernel⟩
def b_X1_tipIfOff_41 (σ : Sg) (k0 : Nat) (l1 : Int32) (l2 : Int32) (l3 : Int32) (l4 : Int32) (l5 : Int32) (t0 : Int32) (t1 : Int32) : Option Int32 := nam (t1 + t0) fun x4 => (some (f_X0_trueTip l5 x4))
def b_X1_tipIfOff_19 (σ : Sg) (k0 : Nat) (l1 : Int32) (l2 : Int32) (l3 : Int32) (l4 : Int32) (t0 : Int32) (t1 : Int32) : Option Int32 := nam (t1 + t0) fun x2 => (f_X7_sumOf σ k0 l2).bind fun x3 => (if (f_X11_hasBit l2 l3) = 0 then b_X1_tipIfOff_41 σ k0 l1 l2 l3 l4 x2 0 x3 else b_X1_tipIfOff_41 σ k0 l1 l2 l3 l4 x2 l4 x3)
def f_X1_tipIfOff (σ : Sg) (k0 : Nat) (l1 : Int32) (l2 : Int32) (l3 : Int32) (l4 : Int32) : Option Int32 := (f_X7_sumOf σ k0 l1).bind fun x1 => (if (f_X11_hasBit l1 l3) = 0 then b_X1_tipIfOff_19 σ k0 l1 l2 l3 l4 0 x1 else b_X1_tipIfOff_19 σ k0 l1 l2 l3 l4 l4 x1)
set_option maxRecDepth 100000 in
set_option maxHeartbeats 4000000 in
theorem q_X1_tipIfOff_41 {g : Cx} (σ : Sg) (k0 : Nat) (l1 : Int32) (l2 : Int32) (l3 : Int32) (l4 : Int32) (hk0 : kK k0 = 4) (r : Int32) : ∀ l5 : Int32, ∀ t0 : Int32, ∀ t1 : Int32, b_X1_tipIfOff_41 σ k0 l1 l2 l3 l4 l5 t0 t1 = some r → V g cX1_tipIfOff RX1 wsX1_tipIfOff 7 (some .int) rm_X1_tipIfOff (some (.int r)) σ σ 41 [(5, .int l5)] [.int t0, .int t1] := by
  intro l5 t0 t1 h
  unfold b_X1_tipIfOff_41 at h
  refine v_iadd 42 dX1_tipIfOff_41 rfl ?_
  refine v_istoreN 44 h dX1_tipIfOff_42 (by decide) rfl (fun _ => rfl) (fun x4 h => ?_)
  refine v_iload 46 1 dX1_tipIfOff_44 rfl rfl ?_
  refine v_iload 48 0 dX1_tipIfOff_46 rfl rfl ?_
  refine v_cS 51 [.int l5, .int x4] (c_X0_trueTip l5 x4) cl_X0_trueTip gX1_tipIfOff_X0_trueTip ⟨Nat.le_of_ble_eq_true rfl, Nat.le_of_ble_eq_true rfl⟩ rfl rfl (Nat.le_of_ble_eq_true rfl) dX1_tipIfOff_48 rfl ?_
  exact v_iretP h rfl dX1_tipIfOff_51
set_option maxRecDepth 100000 in
set_option maxHeartbeats 4000000 in
theorem q_X1_tipIfOff_19 {g : Cx} (σ : Sg) (k0 : Nat) (l1 : Int32) (l2 : Int32) (l3 : Int32) (l4 : Int32) (hk0 : kK k0 = 4) (r : Int32) : ∀ t0 : Int32, ∀ t1 : Int32, b_X1_tipIfOff_19 σ k0 l1 l2 l3 l4 t0 t1 = some r → V g cX1_tipIfOff RX1 wsX1_tipIfOff 7 (some .int) rm_X1_tipIfOff (some (.int r)) σ σ 19 [(0, .ref (g.1 k0)), (2, .int l2), (3, .int l3), (4, .int l4)] [.int t0, .int t1] := by
  intro t0 t1 h
  unfold b_X1_tipIfOff_19 at h
  refine v_iadd 20 dX1_tipIfOff_19 rfl ?_
  refine v_istoreN 22 h dX1_tipIfOff_20 (by decide) rfl (fun _ => rfl) (fun x2 h => ?_)
  refine v_aload_n 23 1 dX1_tipIfOff_22 rfl rfl rfl ?_
  refine v_iload_n 24 2 dX1_tipIfOff_23 rfl rfl rfl ?_
  obtain ⟨x3, h0, h⟩ := ob h
  refine v_cV 27 4 [.int l2] hk0 rfl (c_X7_sumOf k0 l2 hk0 _ h0) cl_X7_sumOf gX1_tipIfOff_X7_sumOf rfl ⟨Nat.le_of_ble_eq_true rfl, Nat.le_of_ble_eq_true rfl⟩ rfl rfl (Nat.le_of_ble_eq_true rfl) dX1_tipIfOff_24 rfl ?_
  refine v_iload_n 28 2 dX1_tipIfOff_27 rfl rfl rfl ?_
  refine v_iload_n 29 3 dX1_tipIfOff_28 rfl rfl rfl ?_
  refine v_cN 32 [.int l2, .int l3] (c_X11_hasBit l2 l3) cl_X11_hasBit gX1_tipIfOff_X11_hasBit_n41 nw_X1_41 (mem_at 7 rfl) (mem_at 8 rfl) ⟨Nat.le_of_ble_eq_true rfl, Nat.le_of_ble_eq_true rfl⟩ rfl rfl (Nat.le_of_ble_eq_true rfl) dX1_tipIfOff_29 rfl ?_
  refine v_if_eq 35 40 h dX1_tipIfOff_32 rfl (by decide) (fun h => ?_) (fun h => ?_)
  · refine v_iconst 41 0 dX1_tipIfOff_40 kc_i_0 rfl ?_
    refine v_sub [0] rfl ?_
    exact q_X1_tipIfOff_41 σ k0 l1 l2 l3 l4 hk0 r x2 0 x3 h
  · refine v_iload 37 4 dX1_tipIfOff_35 rfl rfl ?_
    refine v_goto 41 dX1_tipIfOff_37 (by decide) ?_
    refine v_sub [0] rfl ?_
    exact q_X1_tipIfOff_41 σ k0 l1 l2 l3 l4 hk0 r x2 l4 x3 h
set_option maxRecDepth 100000 in
set_option maxHeartbeats 4000000 in
theorem c_X1_tipIfOff {g : Cx} {σ : Sg} (k0 : Nat) (l1 : Int32) (l2 : Int32) (l3 : Int32) (l4 : Int32) (hk0 : kK k0 = 4) (r : Int32) (h : f_X1_tipIfOff σ k0 l1 l2 l3 l4 = some r) : ∀ l, MetF l yX1_tipIfOff wsX1_tipIfOff rm_X1_tipIfOff g [.ref (g.1 k0), .int l1, .int l2, .int l3, .int l4] σ (some (.int r)) σ := by
  refine MetF.of (own0 := RX1) (lv0 := [(0, .ref (g.1 k0)), (1, .int l1), (2, .int l2), (3, .int l3), (4, .int l4)]) rfl cl_X1_tipIfOff (by decide) (Nat.le_of_ble_eq_true rfl) rfl ?_
  unfold f_X1_tipIfOff at h
  refine v_aload_n 1 0 dX1_tipIfOff_0 rfl rfl rfl ?_
  refine v_iload_n 2 1 dX1_tipIfOff_1 rfl rfl rfl ?_
  obtain ⟨x1, h0, h⟩ := ob h
  refine v_cV 5 4 [.int l1] hk0 rfl (c_X7_sumOf k0 l1 hk0 _ h0) cl_X7_sumOf gX1_tipIfOff_X7_sumOf rfl ⟨Nat.le_of_ble_eq_true rfl, Nat.le_of_ble_eq_true rfl⟩ rfl rfl (Nat.le_of_ble_eq_true rfl) dX1_tipIfOff_2 rfl ?_
  refine v_iload_n 6 1 dX1_tipIfOff_5 rfl rfl rfl ?_
  refine v_iload_n 7 3 dX1_tipIfOff_6 rfl rfl rfl ?_
  refine v_cN 10 [.int l1, .int l3] (c_X11_hasBit l1 l3) cl_X11_hasBit gX1_tipIfOff_X11_hasBit_n41 nw_X1_41 (mem_at 7 rfl) (mem_at 8 rfl) ⟨Nat.le_of_ble_eq_true rfl, Nat.le_of_ble_eq_true rfl⟩ rfl rfl (Nat.le_of_ble_eq_true rfl) dX1_tipIfOff_7 rfl ?_
  refine v_if_eq 13 18 h dX1_tipIfOff_10 rfl (by decide) (fun h => ?_) (fun h => ?_)
  · refine v_iconst 19 0 dX1_tipIfOff_18 kc_i_0 rfl ?_
    refine v_sub [0, 2, 3, 4] rfl ?_
    exact q_X1_tipIfOff_19 σ k0 l1 l2 l3 l4 hk0 r 0 x1 h
  · refine v_iload 15 4 dX1_tipIfOff_13 rfl rfl ?_
    refine v_goto 19 dX1_tipIfOff_15 (by decide) ?_
    refine v_sub [0, 2, 3, 4] rfl ?_
    exact q_X1_tipIfOff_19 σ k0 l1 l2 l3 l4 hk0 r l4 x1 h
-- private int placeOf(int);
abbrev rm_X6_placeOf : Room := { frames := 1, cells := 0, slots := 0, locals := 21 }
theorem cl_X6_placeOf : Cl yX6_placeOf wsX6_placeOf cX6_placeOf 3 (some .int) rm_X6_placeOf 1 := ⟨⟨_, rfl⟩, rfl, rfl, by decide +kernel, by decide +kernel, by decide +kernel⟩
theorem in_X6_placeOf_3 : ∀ w ∈ wsX60, w ∈ wsX6_placeOf := fun w h => List.mem_cons_of_mem _ (List.mem_append_left _ (List.mem_append_right _ h))
def b_X6_placeOf_2 (l1 : Int32) : Nat → Sg → Int32 → Option (Int32 × Sg)
  | 0, _, _ => none
  | f + 1, σ, l2 => (if (f_X7_size σ 108) ≤ l2 then (f_X7_add σ 108 l1).bind fun s1 => (f_X7_add s1 110 0).bind fun s2 => (some ((f_X7_size s2 108) - 1, s2)) else (f_X7_at σ 108 l2).bind fun x3 => (if x3 = l1 then (some (l2, σ)) else nam (l2 + 1) fun x4 => b_X6_placeOf_2 l1 f σ x4))
def f_X6_placeOf (σ : Sg) (l1 : Int32) : Option (Int32 × Sg) := b_X6_placeOf_2 l1 FU σ 0
set_option maxRecDepth 100000 in
set_option maxHeartbeats 4000000 in
theorem q_X6_placeOf_2 {g : Cx} (l1 : Int32) (r : Int32) (τ : Sg) : ∀ f : Nat, ∀ σ : Sg, ∀ l2 : Int32, b_X6_placeOf_2 l1 f σ l2 = some (r, τ) → V g cX6_placeOf RX6 wsX6_placeOf 3 (some .int) rm_X6_placeOf (some (.int r)) τ σ 2 [(0, .ref (g.1 107)), (1, .int l1), (2, .int l2)] [] := by
  intro f
  induction f with
  | zero =>
    intro σ l2 h
    cases h
  | succ f ih =>
    intro σ l2 h
    rw [b_X6_placeOf_2] at h
    refine v_iload_n 3 2 dX6_placeOf_2 rfl rfl rfl ?_
    refine v_aload_n 4 0 dX6_placeOf_3 rfl rfl rfl ?_
    refine vg_3_0 7 108 (rfl : kK 107 = 3) in_X6_placeOf_3 (mem_at 1 rfl) rfl dX6_placeOf_4 rfl ?_
    refine v_cV 10 4 [] (rfl : kK 108 = 4) rfl (c_X7_size 108 (rfl : kK 108 = 4)) cl_X7_size gX6_placeOf_X7_size rfl ⟨Nat.le_of_ble_eq_true rfl, Nat.le_of_ble_eq_true rfl⟩ rfl rfl (Nat.le_of_ble_eq_true rfl) dX6_placeOf_7 rfl ?_
    refine v_icmp_ge 13 33 h dX6_placeOf_10 rfl (by decide) (fun h => ?_) (fun h => ?_)
    · refine v_aload_n 34 0 dX6_placeOf_33 rfl rfl rfl ?_
      refine vg_3_0 37 108 (rfl : kK 107 = 3) in_X6_placeOf_3 (mem_at 1 rfl) rfl dX6_placeOf_34 rfl ?_
      refine v_iload_n 38 1 dX6_placeOf_37 rfl rfl rfl ?_
      obtain ⟨s1, h0, h⟩ := ob h
      refine v_cV 41 4 [.int l1] (rfl : kK 108 = 4) rfl (c_X7_add 108 l1 (rfl : kK 108 = 4) _ h0) cl_X7_add gX6_placeOf_X7_add rfl ⟨Nat.le_of_ble_eq_true rfl, Nat.le_of_ble_eq_true rfl⟩ rfl rfl (Nat.le_of_ble_eq_true rfl) dX6_placeOf_38 rfl ?_
      refine v_aload_n 42 0 dX6_placeOf_41 rfl rfl rfl ?_
      refine vg_3_1 45 110 (rfl : kK 107 = 3) in_X6_placeOf_3 (mem_at 2 rfl) rfl dX6_placeOf_42 rfl ?_
      refine v_iconst 46 0 dX6_placeOf_45 kc_i_0 rfl ?_
      obtain ⟨s2, h0, h⟩ := ob h
      refine v_cV 49 4 [.int 0] (rfl : kK 110 = 4) rfl (c_X7_add 110 0 (rfl : kK 110 = 4) _ h0) cl_X7_add gX6_placeOf_X7_add rfl ⟨Nat.le_of_ble_eq_true rfl, Nat.le_of_ble_eq_true rfl⟩ rfl rfl (Nat.le_of_ble_eq_true rfl) dX6_placeOf_46 rfl ?_
      refine v_aload_n 50 0 dX6_placeOf_49 rfl rfl rfl ?_
      refine vg_3_0 53 108 (rfl : kK 107 = 3) in_X6_placeOf_3 (mem_at 1 rfl) rfl dX6_placeOf_50 rfl ?_
      refine v_cV 56 4 [] (rfl : kK 108 = 4) rfl (c_X7_size 108 (rfl : kK 108 = 4)) cl_X7_size gX6_placeOf_X7_size rfl ⟨Nat.le_of_ble_eq_true rfl, Nat.le_of_ble_eq_true rfl⟩ rfl rfl (Nat.le_of_ble_eq_true rfl) dX6_placeOf_53 rfl ?_
      refine v_iconst 57 1 dX6_placeOf_56 kc_i_1 rfl ?_
      refine v_isub 58 dX6_placeOf_57 rfl ?_
      exact v_iretS h rfl dX6_placeOf_58
    · refine v_aload_n 14 0 dX6_placeOf_13 rfl rfl rfl ?_
      refine vg_3_0 17 108 (rfl : kK 107 = 3) in_X6_placeOf_3 (mem_at 1 rfl) rfl dX6_placeOf_14 rfl ?_
      refine v_iload_n 18 2 dX6_placeOf_17 rfl rfl rfl ?_
      obtain ⟨x3, h0, h⟩ := ob h
      refine v_cV 21 4 [.int l2] (rfl : kK 108 = 4) rfl (c_X7_at 108 l2 (rfl : kK 108 = 4) _ h0) cl_X7_at gX6_placeOf_X7_at rfl ⟨Nat.le_of_ble_eq_true rfl, Nat.le_of_ble_eq_true rfl⟩ rfl rfl (Nat.le_of_ble_eq_true rfl) dX6_placeOf_18 rfl ?_
      refine v_iload_n 22 1 dX6_placeOf_21 rfl rfl rfl ?_
      refine v_icmp_ne 25 27 h dX6_placeOf_22 rfl (by decide) (fun h => ?_) (fun h => ?_)
      · refine v_iincN 30 2 h dX6_placeOf_27 rfl kc_i_1 (by decide) rfl (fun _ => rfl) (fun x4 h => ?_)
        refine v_goto 2 dX6_placeOf_30 (by decide) ?_
        refine v_sub [1, 2, 0] rfl ?_
        exact ih σ x4 h
      · refine v_iload_n 26 2 dX6_placeOf_25 rfl rfl rfl ?_
        exact v_iretS h rfl dX6_placeOf_26
set_option maxRecDepth 100000 in
set_option maxHeartbeats 4000000 in
theorem c_X6_placeOf {g : Cx} {σ : Sg} (l1 : Int32) (r : Int32) (τ : Sg) (h : f_X6_placeOf σ l1 = some (r, τ)) : ∀ l, MetF l yX6_placeOf wsX6_placeOf rm_X6_placeOf g [.ref (g.1 107), .int l1] σ (some (.int r)) τ := by
  refine MetF.of (own0 := RX6) (lv0 := [(0, .ref (g.1 107)), (1, .int l1)]) rfl cl_X6_placeOf (by decide) (Nat.le_of_ble_eq_true rfl) rfl ?_
  unfold f_X6_placeOf at h
  refine v_iconst 1 0 dX6_placeOf_0 kc_i_0 rfl ?_
  refine v_istore_n 2 dX6_placeOf_1 rfl (by decide) rfl rfl ?_
  refine v_sub [1, 2, 0] rfl ?_
  exact q_X6_placeOf_2 l1 r τ FU σ 0 h
-- void add(int);
abbrev rm_X6_add : Room := { frames := 2, cells := 0, slots := 0, locals := 43 }
theorem cl_X6_add : Cl yX6_add wsX6_add cX6_add 3 none rm_X6_add 1 := ⟨⟨_, rfl⟩, rfl, rfl, by decide +kernel, by decide +kernel, by decide +kernel⟩
theorem in_X6_add_3 : ∀ w ∈ wsX60, w ∈ wsX6_add := fun w h => List.mem_cons_of_mem _ (List.mem_append_left _ (List.mem_append_right _ h))
def f_X6_add (σ : Sg) (l1 : Int32) : Option Sg := bnd (f_X6_placeOf σ l1) fun x1 s2 => (f_X7_at s2 110 x1).bind fun x3 => (f_X7_put s2 110 x1 (x3 + 1)).bind fun s4 => (f_X7_at s4 110 x1).bind fun x5 => nam (stI s4 107 2 (if (rI s4 107 2) < x5 then x5 else (rI s4 107 2))) fun s6 => (some s6)
set_option maxRecDepth 100000 in
set_option maxHeartbeats 4000000 in
theorem c_X6_add {g : Cx} {σ : Sg} (l1 : Int32) (τ : Sg) (h : f_X6_add σ l1 = some τ) : ∀ l, MetF l yX6_add wsX6_add rm_X6_add g [.ref (g.1 107), .int l1] σ none τ := by
  refine MetF.of (own0 := RX6) (lv0 := [(0, .ref (g.1 107)), (1, .int l1)]) rfl cl_X6_add (by decide) (Nat.le_of_ble_eq_true rfl) rfl ?_
  unfold f_X6_add at h
  refine v_aload_n 1 0 dX6_add_0 rfl rfl rfl ?_
  refine v_iload_n 2 1 dX6_add_1 rfl rfl rfl ?_
  obtain ⟨x1, s2, h0, h⟩ := ob2 h
  refine v_cV 5 3 [.int l1] (rfl : kK 107 = 3) rfl (c_X6_placeOf l1 _ _ h0) cl_X6_placeOf gX6_add_X6_placeOf rfl ⟨Nat.le_of_ble_eq_true rfl, Nat.le_of_ble_eq_true rfl⟩ rfl rfl (Nat.le_of_ble_eq_true rfl) dX6_add_2 rfl ?_
  refine v_istore_n 6 dX6_add_5 rfl (by decide) rfl rfl ?_
  refine v_aload_n 7 1 dX6_add_6 rfl rfl rfl ?_
  refine vg_3_1 10 110 (rfl : kK 107 = 3) in_X6_add_3 (mem_at 1 rfl) rfl dX6_add_7 rfl ?_
  refine v_iload_n 11 0 dX6_add_10 rfl rfl rfl ?_
  refine v_aload_n 12 1 dX6_add_11 rfl rfl rfl ?_
  refine vg_3_1 15 110 (rfl : kK 107 = 3) in_X6_add_3 (mem_at 1 rfl) rfl dX6_add_12 rfl ?_
  refine v_iload_n 16 0 dX6_add_15 rfl rfl rfl ?_
  obtain ⟨x3, h0, h⟩ := ob h
  refine v_cV 19 4 [.int x1] (rfl : kK 110 = 4) rfl (c_X7_at 110 x1 (rfl : kK 110 = 4) _ h0) cl_X7_at gX6_add_X7_at rfl ⟨Nat.le_of_ble_eq_true rfl, Nat.le_of_ble_eq_true rfl⟩ rfl rfl (Nat.le_of_ble_eq_true rfl) dX6_add_16 rfl ?_
  refine v_iconst 20 1 dX6_add_19 kc_i_1 rfl ?_
  refine v_iadd 21 dX6_add_20 rfl ?_
  obtain ⟨s4, h0, h⟩ := ob h
  refine v_cV 24 4 [.int x1, .int (x3 + 1)] (rfl : kK 110 = 4) rfl (c_X7_put 110 x1 (x3 + 1) (rfl : kK 110 = 4) _ h0) cl_X7_put gX6_add_X7_put rfl ⟨Nat.le_of_ble_eq_true rfl, Nat.le_of_ble_eq_true rfl⟩ rfl rfl (Nat.le_of_ble_eq_true rfl) dX6_add_21 rfl ?_
  refine v_aload_n 25 1 dX6_add_24 rfl rfl rfl ?_
  refine v_aload_n 26 1 dX6_add_25 rfl rfl rfl ?_
  refine vg_3_2 29 (rfl : kK 107 = 3) in_X6_add_3 (mem_at 2 rfl) dX6_add_26 rfl ?_
  refine v_aload_n 30 1 dX6_add_29 rfl rfl rfl ?_
  refine vg_3_1 33 110 (rfl : kK 107 = 3) in_X6_add_3 (mem_at 1 rfl) rfl dX6_add_30 rfl ?_
  refine v_iload_n 34 0 dX6_add_33 rfl rfl rfl ?_
  obtain ⟨x5, h0, h⟩ := ob h
  refine v_cV 37 4 [.int x1] (rfl : kK 110 = 4) rfl (c_X7_at 110 x1 (rfl : kK 110 = 4) _ h0) cl_X7_at gX6_add_X7_at rfl ⟨Nat.le_of_ble_eq_true rfl, Nat.le_of_ble_eq_true rfl⟩ rfl rfl (Nat.le_of_ble_eq_true rfl) dX6_add_34 rfl ?_
  refine v_max 40 (mem_at 3 rfl) (mem_at 4 rfl) (mem_at 5 rfl) (mem_at 6 rfl) ⟨Nat.le_of_ble_eq_true rfl, Nat.le_of_ble_eq_true rfl⟩ (Nat.le_of_ble_eq_true rfl) dX6_add_37 rfl ?_
  refine vp_3_2 43 h (rfl : kK 107 = 3) in_X6_add_3 (mem_at 2 rfl) dX6_add_40 rfl (fun s6 h => ?_)
  exact v_vretS h rfl dX6_add_43
-- private static void addTips(WidowWeight$Parts, WidowWeight$Market, int, int, int, int);
abbrev rm_X1_addTips : Room := { frames := 3, cells := 0, slots := 0, locals := 70 }
theorem cl_X1_addTips : Cl yX1_addTips wsX1_addTips cX1_addTips 7 none rm_X1_addTips 6 := ⟨⟨_, rfl⟩, rfl, rfl, by decide +kernel, by decide +kernel, by decide +kernel⟩
theorem in_X1_addTips_0 : ∀ w ∈ wsX30, w ∈ wsX1_addTips := fun w h => List.mem_cons_of_mem _ (List.mem_append_left _ (List.mem_append_left _ (List.mem_append_right _ h)))
def b_X1_addTips_43 (k1 : Nat) (l2 : Int32) (l3 : Int32) (l4 : Int32) (l5 : Int32) (c3 : Sg → Int32 → Option Sg) (σ : Sg) (l6 : Int32) : Option Sg := nam (l6 + 1) fun x1 => c3 σ x1
def b_X1_addTips_3 (k1 : Nat) (l2 : Int32) (l3 : Int32) (l4 : Int32) (l5 : Int32) : Nat → Sg → Int32 → Option Sg
  | 0, _, _ => none
  | f + 1, σ, l6 => (if (f_X3_keeperCount σ k1) ≤ l6 then (some σ) else (if (f_X11_hasBit l2 l6) = 0 then b_X1_addTips_43 k1 l2 l3 l4 l5 (b_X1_addTips_3 k1 l2 l3 l4 l5 f) σ l6 else (f_X1_tipIfOff σ (k1 + 5) (1 <<< (l4 &&& 31)) (1 <<< (l5 &&& 31)) l6 l3).bind fun x2 => (f_X6_add σ x2).bind fun s3 => b_X1_addTips_43 k1 l2 l3 l4 l5 (b_X1_addTips_3 k1 l2 l3 l4 l5 f) s3 l6))
def f_X1_addTips (σ : Sg) (k1 : Nat) (l2 : Int32) (l3 : Int32) (l4 : Int32) (l5 : Int32) : Option Sg := b_X1_addTips_3 k1 l2 l3 l4 l5 FU σ 0
set_option maxRecDepth 100000 in
set_option maxHeartbeats 4000000 in
theorem q_X1_addTips_43 {g : Cx} (k1 : Nat) (l2 : Int32) (l3 : Int32) (l4 : Int32) (l5 : Int32) (hk1 : kK k1 = 0) (τ : Sg) (c3 : Sg → Int32 → Option Sg) (hc3 : ∀ σ : Sg, ∀ l6 : Int32, c3 σ l6 = some τ → V g cX1_addTips RX1 wsX1_addTips 7 none rm_X1_addTips none τ σ 3 [(0, .ref (g.1 107)), (1, .ref (g.1 k1)), (2, .int l2), (3, .int l3), (4, .int l4), (5, .int l5), (6, .int l6)] []) : ∀ σ : Sg, ∀ l6 : Int32, b_X1_addTips_43 k1 l2 l3 l4 l5 c3 σ l6 = some τ → V g cX1_addTips RX1 wsX1_addTips 7 none rm_X1_addTips none τ σ 43 [(0, .ref (g.1 107)), (1, .ref (g.1 k1)), (2, .int l2), (3, .int l3), (4, .int l4), (5, .int l5), (6, .int l6)] [] := by
  intro σ l6 h
  unfold b_X1_addTips_43 at h
  refine v_iincN 46 6 h dX1_addTips_43 rfl kc_i_1 (by decide) rfl (fun _ => rfl) (fun x1 h => ?_)
  refine v_goto 3 dX1_addTips_46 (by decide) ?_
  refine v_sub [1, 2, 3, 4, 5, 6, 0] rfl ?_
  exact hc3 σ x1 h
set_option maxRecDepth 100000 in
set_option maxHeartbeats 4000000 in
theorem q_X1_addTips_3 {g : Cx} (k1 : Nat) (l2 : Int32) (l3 : Int32) (l4 : Int32) (l5 : Int32) (hk1 : kK k1 = 0) (τ : Sg) : ∀ f : Nat, ∀ σ : Sg, ∀ l6 : Int32, b_X1_addTips_3 k1 l2 l3 l4 l5 f σ l6 = some τ → V g cX1_addTips RX1 wsX1_addTips 7 none rm_X1_addTips none τ σ 3 [(0, .ref (g.1 107)), (1, .ref (g.1 k1)), (2, .int l2), (3, .int l3), (4, .int l4), (5, .int l5), (6, .int l6)] [] := by
  intro f
  induction f with
  | zero =>
    intro σ l6 h
    cases h
  | succ f ih =>
    intro σ l6 h
    rw [b_X1_addTips_3] at h
    refine v_iload 5 6 dX1_addTips_3 rfl rfl ?_
    refine v_aload_n 6 1 dX1_addTips_5 rfl rfl rfl ?_
    refine v_cV 9 0 [] hk1 rfl (c_X3_keeperCount k1 hk1) cl_X3_keeperCount gX1_addTips_X3_keeperCount rfl ⟨Nat.le_of_ble_eq_true rfl, Nat.le_of_ble_eq_true rfl⟩ rfl rfl (Nat.le_of_ble_eq_true rfl) dX1_addTips_6 rfl ?_
    refine v_icmp_ge 12 49 h dX1_addTips_9 rfl (by decide) (fun h => ?_) (fun h => ?_)
    · exact v_vretS h rfl dX1_addTips_49
    · refine v_iload_n 13 2 dX1_addTips_12 rfl rfl rfl ?_
      refine v_iload 15 6 dX1_addTips_13 rfl rfl ?_
      refine v_cN 18 [.int l2, .int l6] (c_X11_hasBit l2 l6) cl_X11_hasBit gX1_addTips_X11_hasBit_n41 nw_X1_41 (mem_at 14 rfl) (mem_at 15 rfl) ⟨Nat.le_of_ble_eq_true rfl, Nat.le_of_ble_eq_true rfl⟩ rfl rfl (Nat.le_of_ble_eq_true rfl) dX1_addTips_15 rfl ?_
      refine v_if_eq 21 43 h dX1_addTips_18 rfl (by decide) (fun h => ?_) (fun h => ?_)
      · refine v_sub [0, 1, 2, 3, 4, 5, 6] rfl ?_
        exact q_X1_addTips_43 k1 l2 l3 l4 l5 hk1 τ (b_X1_addTips_3 k1 l2 l3 l4 l5 f) ih σ l6 h
      · refine v_aload_n 22 0 dX1_addTips_21 rfl rfl rfl ?_
        refine v_aload_n 23 1 dX1_addTips_22 rfl rfl rfl ?_
        refine vg_0_2 26 (k1 + 5) hk1 in_X1_addTips_0 (mem_at 1 rfl) rfl dX1_addTips_23 rfl ?_
        refine v_iconst 27 1 dX1_addTips_26 kc_i_1 rfl ?_
        refine v_iload 29 4 dX1_addTips_27 rfl rfl ?_
        refine v_ishl 30 dX1_addTips_29 rfl ?_
        refine v_iconst 31 1 dX1_addTips_30 kc_i_1 rfl ?_
        refine v_iload 33 5 dX1_addTips_31 rfl rfl ?_
        refine v_ishl 34 dX1_addTips_33 rfl ?_
        refine v_iload 36 6 dX1_addTips_34 rfl rfl ?_
        refine v_iload_n 37 3 dX1_addTips_36 rfl rfl rfl ?_
        obtain ⟨x2, h0, h⟩ := ob h
        refine v_cS 40 [.ref (g.1 (k1 + 5)), .int (1 <<< (l4 &&& 31)), .int (1 <<< (l5 &&& 31)), .int l6, .int l3] (c_X1_tipIfOff (k1 + 5) (1 <<< (l4 &&& 31)) (1 <<< (l5 &&& 31)) l6 l3 (kf_0_2 hk1) _ h0) cl_X1_tipIfOff gX1_addTips_X1_tipIfOff ⟨Nat.le_of_ble_eq_true rfl, Nat.le_of_ble_eq_true rfl⟩ rfl rfl (Nat.le_of_ble_eq_true rfl) dX1_addTips_37 rfl ?_
        obtain ⟨s3, h0, h⟩ := ob h
        refine v_cV 43 3 [.int x2] (rfl : kK 107 = 3) rfl (c_X6_add x2 _ h0) cl_X6_add gX1_addTips_X6_add rfl ⟨Nat.le_of_ble_eq_true rfl, Nat.le_of_ble_eq_true rfl⟩ rfl rfl (Nat.le_of_ble_eq_true rfl) dX1_addTips_40 rfl ?_
        refine v_sub [0, 1, 2, 3, 4, 5, 6] rfl ?_
        exact q_X1_addTips_43 k1 l2 l3 l4 l5 hk1 τ (b_X1_addTips_3 k1 l2 l3 l4 l5 f) ih s3 l6 h
set_option maxRecDepth 100000 in
set_option maxHeartbeats 4000000 in
theorem c_X1_addTips {g : Cx} {σ : Sg} (k1 : Nat) (l2 : Int32) (l3 : Int32) (l4 : Int32) (l5 : Int32) (hk1 : kK k1 = 0) (τ : Sg) (h : f_X1_addTips σ k1 l2 l3 l4 l5 = some τ) : ∀ l, MetF l yX1_addTips wsX1_addTips rm_X1_addTips g [.ref (g.1 107), .ref (g.1 k1), .int l2, .int l3, .int l4, .int l5] σ none τ := by
  refine MetF.of (own0 := RX1) (lv0 := [(0, .ref (g.1 107)), (1, .ref (g.1 k1)), (2, .int l2), (3, .int l3), (4, .int l4), (5, .int l5)]) rfl cl_X1_addTips (by decide) (Nat.le_of_ble_eq_true rfl) rfl ?_
  unfold f_X1_addTips at h
  refine v_iconst 1 0 dX1_addTips_0 kc_i_0 rfl ?_
  refine v_istore 3 dX1_addTips_1 (by decide) rfl rfl ?_
  refine v_sub [1, 2, 3, 4, 5, 6, 0] rfl ?_
  exact q_X1_addTips_3 k1 l2 l3 l4 l5 hk1 τ FU σ 0 h
-- private static void addTipsOfKinds(WidowWeight$Parts, int, int, int);
abbrev rm_X1_addTipsOfKinds : Room := { frames := 4, cells := 0, slots := 0, locals := 85 }
theorem cl_X1_addTipsOfKinds : Cl yX1_addTipsOfKinds wsX1_addTipsOfKinds cX1_addTipsOfKinds 5 none rm_X1_addTipsOfKinds 4 := ⟨⟨_, rfl⟩, rfl, rfl, by decide +kernel, by decide +kernel, by decide +kernel⟩
def b_X1_addTipsOfKinds_30 (l1 : Int32) (l2 : Int32) (l3 : Int32) (c3 : Sg → Int32 → Option Sg) (σ : Sg) (l4 : Int32) : Option Sg := nam (l4 + 1) fun x1 => c3 σ x1
def b_X1_addTipsOfKinds_3 (l1 : Int32) (l2 : Int32) (l3 : Int32) : Nat → Sg → Int32 → Option Sg
  | 0, _, _ => none
  | f + 1, σ, l4 => (if 6 ≤ l4 then (some σ) else (if (f_X11_hasBit l1 l4) = 0 then b_X1_addTipsOfKinds_30 l1 l2 l3 (b_X1_addTipsOfKinds_3 l1 l2 l3 f) σ l4 else (f_X6_add σ (f_X0_tip l4 l2 l3)).bind fun s2 => b_X1_addTipsOfKinds_30 l1 l2 l3 (b_X1_addTipsOfKinds_3 l1 l2 l3 f) s2 l4))
def f_X1_addTipsOfKinds (σ : Sg) (l1 : Int32) (l2 : Int32) (l3 : Int32) : Option Sg := b_X1_addTipsOfKinds_3 l1 l2 l3 FU σ 0
set_option maxRecDepth 100000 in
set_option maxHeartbeats 4000000 in
theorem q_X1_addTipsOfKinds_30 {g : Cx} (l1 : Int32) (l2 : Int32) (l3 : Int32) (τ : Sg) (c3 : Sg → Int32 → Option Sg) (hc3 : ∀ σ : Sg, ∀ l4 : Int32, c3 σ l4 = some τ → V g cX1_addTipsOfKinds RX1 wsX1_addTipsOfKinds 5 none rm_X1_addTipsOfKinds none τ σ 3 [(0, .ref (g.1 107)), (1, .int l1), (2, .int l2), (3, .int l3), (4, .int l4)] []) : ∀ σ : Sg, ∀ l4 : Int32, b_X1_addTipsOfKinds_30 l1 l2 l3 c3 σ l4 = some τ → V g cX1_addTipsOfKinds RX1 wsX1_addTipsOfKinds 5 none rm_X1_addTipsOfKinds none τ σ 30 [(0, .ref (g.1 107)), (1, .int l1), (2, .int l2), (3, .int l3), (4, .int l4)] [] := by
  intro σ l4 h
  unfold b_X1_addTipsOfKinds_30 at h
  refine v_iincN 33 4 h dX1_addTipsOfKinds_30 rfl kc_i_1 (by decide) rfl (fun _ => rfl) (fun x1 h => ?_)
  refine v_goto 3 dX1_addTipsOfKinds_33 (by decide) ?_
  refine v_sub [1, 2, 3, 4, 0] rfl ?_
  exact hc3 σ x1 h
set_option maxRecDepth 100000 in
set_option maxHeartbeats 4000000 in
theorem q_X1_addTipsOfKinds_3 {g : Cx} (l1 : Int32) (l2 : Int32) (l3 : Int32) (τ : Sg) : ∀ f : Nat, ∀ σ : Sg, ∀ l4 : Int32, b_X1_addTipsOfKinds_3 l1 l2 l3 f σ l4 = some τ → V g cX1_addTipsOfKinds RX1 wsX1_addTipsOfKinds 5 none rm_X1_addTipsOfKinds none τ σ 3 [(0, .ref (g.1 107)), (1, .int l1), (2, .int l2), (3, .int l3), (4, .int l4)] [] := by
  intro f
  induction f with
  | zero =>
    intro σ l4 h
    cases h
  | succ f ih =>
    intro σ l4 h
    rw [b_X1_addTipsOfKinds_3] at h
    refine v_iload 5 4 dX1_addTipsOfKinds_3 rfl rfl ?_
    refine v_bipush 7 6 dX1_addTipsOfKinds_5 kc_b_6 rfl ?_
    refine v_icmp_ge 10 36 h dX1_addTipsOfKinds_7 rfl (by decide) (fun h => ?_) (fun h => ?_)
    · exact v_vretS h rfl dX1_addTipsOfKinds_36
    · refine v_iload_n 11 1 dX1_addTipsOfKinds_10 rfl rfl rfl ?_
      refine v_iload 13 4 dX1_addTipsOfKinds_11 rfl rfl ?_
      refine v_cN 16 [.int l1, .int l4] (c_X11_hasBit l1 l4) cl_X11_hasBit gX1_addTipsOfKinds_X11_hasBit_n41 nw_X1_41 (mem_at 1 rfl) (mem_at 2 rfl) ⟨Nat.le_of_ble_eq_true rfl, Nat.le_of_ble_eq_true rfl⟩ rfl rfl (Nat.le_of_ble_eq_true rfl) dX1_addTipsOfKinds_13 rfl ?_
      refine v_if_eq 19 30 h dX1_addTipsOfKinds_16 rfl (by decide) (fun h => ?_) (fun h => ?_)
      · refine v_sub [0, 1, 2, 3, 4] rfl ?_
        exact q_X1_addTipsOfKinds_30 l1 l2 l3 τ (b_X1_addTipsOfKinds_3 l1 l2 l3 f) ih σ l4 h
      · refine v_aload_n 20 0 dX1_addTipsOfKinds_19 rfl rfl rfl ?_
        refine v_iload 22 4 dX1_addTipsOfKinds_20 rfl rfl ?_
        refine v_iload_n 23 2 dX1_addTipsOfKinds_22 rfl rfl rfl ?_
        refine v_iload_n 24 3 dX1_addTipsOfKinds_23 rfl rfl rfl ?_
        refine v_cS 27 [.int l4, .int l2, .int l3] (c_X0_tip l4 l2 l3) cl_X0_tip gX1_addTipsOfKinds_X0_tip ⟨Nat.le_of_ble_eq_true rfl, Nat.le_of_ble_eq_true rfl⟩ rfl rfl (Nat.le_of_ble_eq_true rfl) dX1_addTipsOfKinds_24 rfl ?_
        obtain ⟨s2, h0, h⟩ := ob h
        refine v_cV 30 3 [.int (f_X0_tip l4 l2 l3)] (rfl : kK 107 = 3) rfl (c_X6_add (f_X0_tip l4 l2 l3) _ h0) cl_X6_add gX1_addTipsOfKinds_X6_add rfl ⟨Nat.le_of_ble_eq_true rfl, Nat.le_of_ble_eq_true rfl⟩ rfl rfl (Nat.le_of_ble_eq_true rfl) dX1_addTipsOfKinds_27 rfl ?_
        refine v_sub [0, 1, 2, 3, 4] rfl ?_
        exact q_X1_addTipsOfKinds_30 l1 l2 l3 τ (b_X1_addTipsOfKinds_3 l1 l2 l3 f) ih s2 l4 h
set_option maxRecDepth 100000 in
set_option maxHeartbeats 4000000 in
theorem c_X1_addTipsOfKinds {g : Cx} {σ : Sg} (l1 : Int32) (l2 : Int32) (l3 : Int32) (τ : Sg) (h : f_X1_addTipsOfKinds σ l1 l2 l3 = some τ) : ∀ l, MetF l yX1_addTipsOfKinds wsX1_addTipsOfKinds rm_X1_addTipsOfKinds g [.ref (g.1 107), .int l1, .int l2, .int l3] σ none τ := by
  refine MetF.of (own0 := RX1) (lv0 := [(0, .ref (g.1 107)), (1, .int l1), (2, .int l2), (3, .int l3)]) rfl cl_X1_addTipsOfKinds (by decide) (Nat.le_of_ble_eq_true rfl) rfl ?_
  unfold f_X1_addTipsOfKinds at h
  refine v_iconst 1 0 dX1_addTipsOfKinds_0 kc_i_0 rfl ?_
  refine v_istore 3 dX1_addTipsOfKinds_1 (by decide) rfl rfl ?_
  refine v_sub [1, 2, 3, 4, 0] rfl ?_
  exact q_X1_addTipsOfKinds_3 l1 l2 l3 τ FU σ 0 h
-- void restart();
abbrev rm_X6_restart : Room := { frames := 1, cells := 0, slots := 0, locals := 20 }
theorem cl_X6_restart : Cl yX6_restart wsX6_restart cX6_restart 1 none rm_X6_restart 0 := ⟨⟨_, rfl⟩, rfl, rfl, by decide +kernel, by decide +kernel, by decide +kernel⟩
theorem in_X6_restart_3 : ∀ w ∈ wsX60, w ∈ wsX6_restart := fun w h => List.mem_cons_of_mem _ (List.mem_append_left _ (List.mem_append_right _ h))
def f_X6_restart (σ : Sg) : Option Sg := (f_X7_restart σ 108).bind fun s1 => (f_X7_restart s1 110).bind fun s2 => nam (stI s2 107 2 0) fun s3 => (some s3)
set_option maxRecDepth 100000 in
set_option maxHeartbeats 4000000 in
theorem c_X6_restart {g : Cx} {σ : Sg} (τ : Sg) (h : f_X6_restart σ = some τ) : ∀ l, MetF l yX6_restart wsX6_restart rm_X6_restart g [.ref (g.1 107)] σ none τ := by
  refine MetF.of (own0 := RX6) (lv0 := [(0, .ref (g.1 107))]) rfl cl_X6_restart (by decide) (Nat.le_of_ble_eq_true rfl) rfl ?_
  unfold f_X6_restart at h
  refine v_aload_n 1 0 dX6_restart_0 rfl rfl rfl ?_
  refine vg_3_0 4 108 (rfl : kK 107 = 3) in_X6_restart_3 (mem_at 1 rfl) rfl dX6_restart_1 rfl ?_
  obtain ⟨s1, h0, h⟩ := ob h
  refine v_cV 7 4 [] (rfl : kK 108 = 4) rfl (c_X7_restart 108 (rfl : kK 108 = 4) _ h0) cl_X7_restart gX6_restart_X7_restart rfl ⟨Nat.le_of_ble_eq_true rfl, Nat.le_of_ble_eq_true rfl⟩ rfl rfl (Nat.le_of_ble_eq_true rfl) dX6_restart_4 rfl ?_
  refine v_aload_n 8 0 dX6_restart_7 rfl rfl rfl ?_
  refine vg_3_1 11 110 (rfl : kK 107 = 3) in_X6_restart_3 (mem_at 2 rfl) rfl dX6_restart_8 rfl ?_
  obtain ⟨s2, h0, h⟩ := ob h
  refine v_cV 14 4 [] (rfl : kK 110 = 4) rfl (c_X7_restart 110 (rfl : kK 110 = 4) _ h0) cl_X7_restart gX6_restart_X7_restart rfl ⟨Nat.le_of_ble_eq_true rfl, Nat.le_of_ble_eq_true rfl⟩ rfl rfl (Nat.le_of_ble_eq_true rfl) dX6_restart_11 rfl ?_
  refine v_aload_n 15 0 dX6_restart_14 rfl rfl rfl ?_
  refine v_iconst 16 0 dX6_restart_15 kc_i_0 rfl ?_
  refine vp_3_2 19 h (rfl : kK 107 = 3) in_X6_restart_3 (mem_at 3 rfl) dX6_restart_16 rfl (fun s3 h => ?_)
  exact v_vretS h rfl dX6_restart_19
-- int greatestPart();
abbrev rm_X6_greatestPart : Room := { frames := 0, cells := 0, slots := 0, locals := 0 }
theorem cl_X6_greatestPart : Cl yX6_greatestPart wsX6_greatestPart cX6_greatestPart 1 (some .int) rm_X6_greatestPart 0 := ⟨⟨_, rfl⟩, rfl, rfl, by decide +kernel, by decide +kernel, by decide +kernel⟩
theorem in_X6_greatestPart_3 : ∀ w ∈ wsX60, w ∈ wsX6_greatestPart := fun w h => List.mem_cons_of_mem _ (List.mem_append_right _ h)
def f_X6_greatestPart (σ : Sg) : Int32 := rI σ 107 2
set_option maxRecDepth 100000 in
set_option maxHeartbeats 4000000 in
theorem c_X6_greatestPart {g : Cx} {σ : Sg} : ∀ l, MetF l yX6_greatestPart wsX6_greatestPart rm_X6_greatestPart g [.ref (g.1 107)] σ (some (.int (f_X6_greatestPart σ))) σ := by
  have main : ∀ r : Int32, f_X6_greatestPart σ = r → ∀ l, MetF l yX6_greatestPart wsX6_greatestPart rm_X6_greatestPart g [.ref (g.1 107)] σ (some (.int r)) σ := by
    intro r h
    refine MetF.of (own0 := RX6) (lv0 := [(0, .ref (g.1 107))]) rfl cl_X6_greatestPart (by decide) (Nat.le_of_ble_eq_true rfl) rfl ?_
    unfold f_X6_greatestPart at h
    refine v_aload_n 1 0 dX6_greatestPart_0 rfl rfl rfl ?_
    refine vg_3_2 4 (rfl : kK 107 = 3) in_X6_greatestPart_3 (mem_at 1 rfl) dX6_greatestPart_1 rfl ?_
    exact v_iretT h rfl dX6_greatestPart_4
  exact main _ rfl
-- static int bestDay(int, int, WidowWeight$Parts);
abbrev rm_X1_bestDay : Room := { frames := 3, cells := 0, slots := 0, locals := 65 }
theorem cl_X1_bestDay : Cl yX1_bestDay wsX1_bestDay cX1_bestDay 7 (some .int) rm_X1_bestDay 3 := ⟨⟨_, rfl⟩, rfl, rfl, by decide +kernel, by decide +kernel, by decide +kernel⟩
def b_X1_bestDay_79 (l0 : Int32) (l1 : Int32) (c8 : Sg → Int32 → Int32 → Int32 → Option (Int32 × Sg)) (σ : Sg) (l3 : Int32) (l4 : Int32) (l5 : Int32) : Option (Int32 × Sg) := nam (l5 + 1) fun x3 => c8 σ l3 l4 x3
def b_X1_bestDay_70 (l0 : Int32) (l1 : Int32) (c8 : Sg → Int32 → Int32 → Int32 → Option (Int32 × Sg)) (σ : Sg) (l5 : Int32) : Option (Int32 × Sg) := nam (f_X6_greatestPart σ) fun x2 => b_X1_bestDay_79 l0 l1 c8 σ l5 x2 l5
def b_X1_bestDay_50 (l0 : Int32) (l1 : Int32) (c8 : Sg → Int32 → Int32 → Int32 → Option (Int32 × Sg)) (c22 : Sg → Int32 → Int32 → Int32 → Int32 → Option (Int32 × Sg)) (σ : Sg) (l3 : Int32) (l4 : Int32) (l5 : Int32) (l6 : Int32) : Option (Int32 × Sg) := nam (l6 + 1) fun x4 => c22 σ l3 l4 l5 x4
def b_X1_bestDay_22 (l0 : Int32) (l1 : Int32) (c8 : Sg → Int32 → Int32 → Int32 → Option (Int32 × Sg)) : Nat → Sg → Int32 → Int32 → Int32 → Int32 → Option (Int32 × Sg)
  | 0, _, _, _, _, _ => none
  | f + 1, σ, l3, l4, l5, l6 => (if 6 ≤ l6 then (if l3 = (-1) then b_X1_bestDay_70 l0 l1 c8 σ l5 else (if l4 ≤ (f_X6_greatestPart σ) then b_X1_bestDay_79 l0 l1 c8 σ l3 l4 l5 else b_X1_bestDay_70 l0 l1 c8 σ l5)) else (if (f_X11_hasBit l0 l6) = 0 then b_X1_bestDay_50 l0 l1 c8 (b_X1_bestDay_22 l0 l1 c8 f) σ l3 l4 l5 l6 else (f_X6_add σ (f_X2_behind l6 l1 l5)).bind fun s5 => b_X1_bestDay_50 l0 l1 c8 (b_X1_bestDay_22 l0 l1 c8 f) s5 l3 l4 l5 l6))
def b_X1_bestDay_8 (l0 : Int32) (l1 : Int32) : Nat → Sg → Int32 → Int32 → Int32 → Option (Int32 × Sg)
  | 0, _, _, _, _ => none
  | f + 1, σ, l3, l4, l5 => (if 11 < l5 then (some (l3, σ)) else (f_X6_restart σ).bind fun s1 => b_X1_bestDay_22 l0 l1 (b_X1_bestDay_8 l0 l1 f) FU s1 l3 l4 l5 0)
def f_X1_bestDay (σ : Sg) (l0 : Int32) (l1 : Int32) : Option (Int32 × Sg) := b_X1_bestDay_8 l0 l1 FU σ (-1) 0 0
set_option maxRecDepth 100000 in
set_option maxHeartbeats 4000000 in
theorem q_X1_bestDay_79 {g : Cx} (l0 : Int32) (l1 : Int32) (r : Int32) (τ : Sg) (c8 : Sg → Int32 → Int32 → Int32 → Option (Int32 × Sg)) (hc8 : ∀ σ : Sg, ∀ l3 : Int32, ∀ l4 : Int32, ∀ l5 : Int32, c8 σ l3 l4 l5 = some (r, τ) → V g cX1_bestDay RX1 wsX1_bestDay 7 (some .int) rm_X1_bestDay (some (.int r)) τ σ 8 [(0, .int l0), (1, .int l1), (2, .ref (g.1 107)), (3, .int l3), (4, .int l4), (5, .int l5)] []) : ∀ σ : Sg, ∀ l3 : Int32, ∀ l4 : Int32, ∀ l5 : Int32, b_X1_bestDay_79 l0 l1 c8 σ l3 l4 l5 = some (r, τ) → V g cX1_bestDay RX1 wsX1_bestDay 7 (some .int) rm_X1_bestDay (some (.int r)) τ σ 79 [(0, .int l0), (1, .int l1), (2, .ref (g.1 107)), (3, .int l3), (4, .int l4), (5, .int l5)] [] := by
  intro σ l3 l4 l5 h
  unfold b_X1_bestDay_79 at h
  refine v_iincN 82 5 h dX1_bestDay_79 rfl kc_i_1 (by decide) rfl (fun _ => rfl) (fun x3 h => ?_)
  refine v_goto 8 dX1_bestDay_82 (by decide) ?_
  refine v_sub [1, 2, 3, 4, 5, 0] rfl ?_
  exact hc8 σ l3 l4 x3 h
set_option maxRecDepth 100000 in
set_option maxHeartbeats 4000000 in
theorem q_X1_bestDay_70 {g : Cx} (l0 : Int32) (l1 : Int32) (r : Int32) (τ : Sg) (c8 : Sg → Int32 → Int32 → Int32 → Option (Int32 × Sg)) (hc8 : ∀ σ : Sg, ∀ l3 : Int32, ∀ l4 : Int32, ∀ l5 : Int32, c8 σ l3 l4 l5 = some (r, τ) → V g cX1_bestDay RX1 wsX1_bestDay 7 (some .int) rm_X1_bestDay (some (.int r)) τ σ 8 [(0, .int l0), (1, .int l1), (2, .ref (g.1 107)), (3, .int l3), (4, .int l4), (5, .int l5)] []) : ∀ σ : Sg, ∀ l5 : Int32, b_X1_bestDay_70 l0 l1 c8 σ l5 = some (r, τ) → V g cX1_bestDay RX1 wsX1_bestDay 7 (some .int) rm_X1_bestDay (some (.int r)) τ σ 70 [(0, .int l0), (1, .int l1), (2, .ref (g.1 107)), (5, .int l5)] [] := by
  intro σ l5 h
  unfold b_X1_bestDay_70 at h
  refine v_iload 72 3 dX1_bestDay_70 rfl rfl ?_
  refine v_istore_n 73 dX1_bestDay_72 rfl (by decide) rfl rfl ?_
  refine v_aload_n 74 3 dX1_bestDay_73 rfl rfl rfl ?_
  refine v_cV 77 3 [] (rfl : kK 107 = 3) rfl (c_X6_greatestPart) cl_X6_greatestPart gX1_bestDay_X6_greatestPart rfl ⟨Nat.le_of_ble_eq_true rfl, Nat.le_of_ble_eq_true rfl⟩ rfl rfl (Nat.le_of_ble_eq_true rfl) dX1_bestDay_74 rfl ?_
  refine v_istoreN 79 h dX1_bestDay_77 (by decide) rfl (fun _ => rfl) (fun x2 h => ?_)
  refine v_sub [2, 3, 4, 1, 0, 5] rfl ?_
  exact q_X1_bestDay_79 l0 l1 r τ c8 hc8 σ l5 x2 l5 h
set_option maxRecDepth 100000 in
set_option maxHeartbeats 4000000 in
theorem q_X1_bestDay_50 {g : Cx} (l0 : Int32) (l1 : Int32) (r : Int32) (τ : Sg) (c8 : Sg → Int32 → Int32 → Int32 → Option (Int32 × Sg)) (c22 : Sg → Int32 → Int32 → Int32 → Int32 → Option (Int32 × Sg)) (hc8 : ∀ σ : Sg, ∀ l3 : Int32, ∀ l4 : Int32, ∀ l5 : Int32, c8 σ l3 l4 l5 = some (r, τ) → V g cX1_bestDay RX1 wsX1_bestDay 7 (some .int) rm_X1_bestDay (some (.int r)) τ σ 8 [(0, .int l0), (1, .int l1), (2, .ref (g.1 107)), (3, .int l3), (4, .int l4), (5, .int l5)] []) (hc22 : ∀ σ : Sg, ∀ l3 : Int32, ∀ l4 : Int32, ∀ l5 : Int32, ∀ l6 : Int32, c22 σ l3 l4 l5 l6 = some (r, τ) → V g cX1_bestDay RX1 wsX1_bestDay 7 (some .int) rm_X1_bestDay (some (.int r)) τ σ 22 [(0, .int l0), (1, .int l1), (2, .ref (g.1 107)), (3, .int l3), (4, .int l4), (5, .int l5), (6, .int l6)] []) : ∀ σ : Sg, ∀ l3 : Int32, ∀ l4 : Int32, ∀ l5 : Int32, ∀ l6 : Int32, b_X1_bestDay_50 l0 l1 c8 c22 σ l3 l4 l5 l6 = some (r, τ) → V g cX1_bestDay RX1 wsX1_bestDay 7 (some .int) rm_X1_bestDay (some (.int r)) τ σ 50 [(0, .int l0), (1, .int l1), (2, .ref (g.1 107)), (3, .int l3), (4, .int l4), (5, .int l5), (6, .int l6)] [] := by
  intro σ l3 l4 l5 l6 h
  unfold b_X1_bestDay_50 at h
  refine v_iincN 53 6 h dX1_bestDay_50 rfl kc_i_1 (by decide) rfl (fun _ => rfl) (fun x4 h => ?_)
  refine v_goto 22 dX1_bestDay_53 (by decide) ?_
  refine v_sub [1, 2, 3, 4, 5, 6, 0] rfl ?_
  exact hc22 σ l3 l4 l5 x4 h
set_option maxRecDepth 100000 in
set_option maxHeartbeats 4000000 in
theorem q_X1_bestDay_22 {g : Cx} (l0 : Int32) (l1 : Int32) (r : Int32) (τ : Sg) (c8 : Sg → Int32 → Int32 → Int32 → Option (Int32 × Sg)) (hc8 : ∀ σ : Sg, ∀ l3 : Int32, ∀ l4 : Int32, ∀ l5 : Int32, c8 σ l3 l4 l5 = some (r, τ) → V g cX1_bestDay RX1 wsX1_bestDay 7 (some .int) rm_X1_bestDay (some (.int r)) τ σ 8 [(0, .int l0), (1, .int l1), (2, .ref (g.1 107)), (3, .int l3), (4, .int l4), (5, .int l5)] []) : ∀ f : Nat, ∀ σ : Sg, ∀ l3 : Int32, ∀ l4 : Int32, ∀ l5 : Int32, ∀ l6 : Int32, b_X1_bestDay_22 l0 l1 c8 f σ l3 l4 l5 l6 = some (r, τ) → V g cX1_bestDay RX1 wsX1_bestDay 7 (some .int) rm_X1_bestDay (some (.int r)) τ σ 22 [(0, .int l0), (1, .int l1), (2, .ref (g.1 107)), (3, .int l3), (4, .int l4), (5, .int l5), (6, .int l6)] [] := by
  intro f
  induction f with
  | zero =>
    intro σ l3 l4 l5 l6 h
    cases h
  | succ f ih =>
    intro σ l3 l4 l5 l6 h
    rw [b_X1_bestDay_22] at h
    refine v_iload 24 6 dX1_bestDay_22 rfl rfl ?_
    refine v_bipush 26 6 dX1_bestDay_24 kc_b_6 rfl ?_
    refine v_icmp_ge 29 56 h dX1_bestDay_26 rfl (by decide) (fun h => ?_) (fun h => ?_)
    · refine v_iload_n 57 3 dX1_bestDay_56 rfl rfl rfl ?_
      refine v_iconst 58 (-1) dX1_bestDay_57 kc_i_m1 rfl ?_
      refine v_icmp_eq 61 70 h dX1_bestDay_58 rfl (by decide) (fun h => ?_) (fun h => ?_)
      · refine v_sub [0, 1, 2, 5] rfl ?_
        exact q_X1_bestDay_70 l0 l1 r τ c8 hc8 σ l5 h
      · refine v_aload_n 62 2 dX1_bestDay_61 rfl rfl rfl ?_
        refine v_cV 65 3 [] (rfl : kK 107 = 3) rfl (c_X6_greatestPart) cl_X6_greatestPart gX1_bestDay_X6_greatestPart rfl ⟨Nat.le_of_ble_eq_true rfl, Nat.le_of_ble_eq_true rfl⟩ rfl rfl (Nat.le_of_ble_eq_true rfl) dX1_bestDay_62 rfl ?_
        refine v_iload 67 4 dX1_bestDay_65 rfl rfl ?_
        refine v_icmp_ge 70 79 h dX1_bestDay_67 rfl (by decide) (fun h => ?_) (fun h => ?_)
        · refine v_sub [0, 1, 2, 3, 4, 5] rfl ?_
          exact q_X1_bestDay_79 l0 l1 r τ c8 hc8 σ l3 l4 l5 h
        · refine v_sub [0, 1, 2, 5] rfl ?_
          exact q_X1_bestDay_70 l0 l1 r τ c8 hc8 σ l5 h
    · refine v_iload_n 30 0 dX1_bestDay_29 rfl rfl rfl ?_
      refine v_iload 32 6 dX1_bestDay_30 rfl rfl ?_
      refine v_cN 35 [.int l0, .int l6] (c_X11_hasBit l0 l6) cl_X11_hasBit gX1_bestDay_X11_hasBit_n41 nw_X1_41 (mem_at 15 rfl) (mem_at 16 rfl) ⟨Nat.le_of_ble_eq_true rfl, Nat.le_of_ble_eq_true rfl⟩ rfl rfl (Nat.le_of_ble_eq_true rfl) dX1_bestDay_32 rfl ?_
      refine v_if_eq 38 50 h dX1_bestDay_35 rfl (by decide) (fun h => ?_) (fun h => ?_)
      · refine v_sub [0, 1, 2, 3, 4, 5, 6] rfl ?_
        exact q_X1_bestDay_50 l0 l1 r τ c8 (b_X1_bestDay_22 l0 l1 c8 f) hc8 ih σ l3 l4 l5 l6 h
      · refine v_aload_n 39 2 dX1_bestDay_38 rfl rfl rfl ?_
        refine v_iload 41 6 dX1_bestDay_39 rfl rfl ?_
        refine v_iload_n 42 1 dX1_bestDay_41 rfl rfl rfl ?_
        refine v_iload 44 5 dX1_bestDay_42 rfl rfl ?_
        refine v_cS 47 [.int l6, .int l1, .int l5] (c_X2_behind l6 l1 l5) cl_X2_behind gX1_bestDay_X2_behind ⟨Nat.le_of_ble_eq_true rfl, Nat.le_of_ble_eq_true rfl⟩ rfl rfl (Nat.le_of_ble_eq_true rfl) dX1_bestDay_44 rfl ?_
        obtain ⟨s5, h0, h⟩ := ob h
        refine v_cV 50 3 [.int (f_X2_behind l6 l1 l5)] (rfl : kK 107 = 3) rfl (c_X6_add (f_X2_behind l6 l1 l5) _ h0) cl_X6_add gX1_bestDay_X6_add rfl ⟨Nat.le_of_ble_eq_true rfl, Nat.le_of_ble_eq_true rfl⟩ rfl rfl (Nat.le_of_ble_eq_true rfl) dX1_bestDay_47 rfl ?_
        refine v_sub [0, 1, 2, 3, 4, 5, 6] rfl ?_
        exact q_X1_bestDay_50 l0 l1 r τ c8 (b_X1_bestDay_22 l0 l1 c8 f) hc8 ih s5 l3 l4 l5 l6 h
set_option maxRecDepth 100000 in
set_option maxHeartbeats 4000000 in
theorem q_X1_bestDay_8 {g : Cx} (l0 : Int32) (l1 : Int32) (r : Int32) (τ : Sg) : ∀ f : Nat, ∀ σ : Sg, ∀ l3 : Int32, ∀ l4 : Int32, ∀ l5 : Int32, b_X1_bestDay_8 l0 l1 f σ l3 l4 l5 = some (r, τ) → V g cX1_bestDay RX1 wsX1_bestDay 7 (some .int) rm_X1_bestDay (some (.int r)) τ σ 8 [(0, .int l0), (1, .int l1), (2, .ref (g.1 107)), (3, .int l3), (4, .int l4), (5, .int l5)] [] := by
  intro f
  induction f with
  | zero =>
    intro σ l3 l4 l5 h
    cases h
  | succ f ih =>
    intro σ l3 l4 l5 h
    rw [b_X1_bestDay_8] at h
    refine v_iload 10 5 dX1_bestDay_8 rfl rfl ?_
    refine v_bipush 12 11 dX1_bestDay_10 kc_b_11 rfl ?_
    refine v_icmp_gt 15 85 h dX1_bestDay_12 rfl (by decide) (fun h => ?_) (fun h => ?_)
    · refine v_iload_n 86 3 dX1_bestDay_85 rfl rfl rfl ?_
      exact v_iretS h rfl dX1_bestDay_86
    · refine v_aload_n 16 2 dX1_bestDay_15 rfl rfl rfl ?_
      obtain ⟨s1, h0, h⟩ := ob h
      refine v_cV 19 3 [] (rfl : kK 107 = 3) rfl (c_X6_restart _ h0) cl_X6_restart gX1_bestDay_X6_restart rfl ⟨Nat.le_of_ble_eq_true rfl, Nat.le_of_ble_eq_true rfl⟩ rfl rfl (Nat.le_of_ble_eq_true rfl) dX1_bestDay_16 rfl ?_
      refine v_iconst 20 0 dX1_bestDay_19 kc_i_0 rfl ?_
      refine v_istore 22 dX1_bestDay_20 (by decide) rfl rfl ?_
      refine v_sub [1, 2, 3, 4, 5, 6, 0] rfl ?_
      exact q_X1_bestDay_22 l0 l1 r τ (b_X1_bestDay_8 l0 l1 f) ih FU s1 l3 l4 l5 0 h
set_option maxRecDepth 100000 in
set_option maxHeartbeats 4000000 in
theorem c_X1_bestDay {g : Cx} {σ : Sg} (l0 : Int32) (l1 : Int32) (r : Int32) (τ : Sg) (h : f_X1_bestDay σ l0 l1 = some (r, τ)) : ∀ l, MetF l yX1_bestDay wsX1_bestDay rm_X1_bestDay g [.int l0, .int l1, .ref (g.1 107)] σ (some (.int r)) τ := by
  refine MetF.of (own0 := RX1) (lv0 := [(0, .int l0), (1, .int l1), (2, .ref (g.1 107))]) rfl cl_X1_bestDay (by decide) (Nat.le_of_ble_eq_true rfl) rfl ?_
  unfold f_X1_bestDay at h
  refine v_iconst 1 (-1) dX1_bestDay_0 kc_i_m1 rfl ?_
  refine v_istore_n 2 dX1_bestDay_1 rfl (by decide) rfl rfl ?_
  refine v_iconst 3 0 dX1_bestDay_2 kc_i_0 rfl ?_
  refine v_istore 5 dX1_bestDay_3 (by decide) rfl rfl ?_
  refine v_iconst 6 0 dX1_bestDay_5 kc_i_0 rfl ?_
  refine v_istore 8 dX1_bestDay_6 (by decide) rfl rfl ?_
  refine v_sub [3, 4, 5, 2, 1, 0] rfl ?_
  exact q_X1_bestDay_8 l0 l1 r τ FU σ (-1) 0 0 h
-- static int bestGrains(int, WidowWeight$Parts);
abbrev rm_X1_bestGrains : Room := { frames := 5, cells := 0, slots := 0, locals := 109 }
theorem cl_X1_bestGrains : Cl yX1_bestGrains wsX1_bestGrains cX1_bestGrains 6 (some .int) rm_X1_bestGrains 2 := ⟨⟨_, rfl⟩, rfl, rfl, by decide +kernel, by decide +kernel, by decide +kernel⟩
def b_X1_bestGrains_64 (l0 : Int32) (c7 : Sg → Int32 → Int32 → Int32 → Option (Int32 × Sg)) (c17 : Sg → Int32 → Int32 → Int32 → Int32 → Option (Int32 × Sg)) (σ : Sg) (l2 : Int32) (l3 : Int32) (l4 : Int32) (l5 : Int32) : Option (Int32 × Sg) := nam (l5 + 1) fun x6 => c17 σ l2 l3 l4 x6
def b_X1_bestGrains_50 (l0 : Int32) (c7 : Sg → Int32 → Int32 → Int32 → Option (Int32 × Sg)) (c17 : Sg → Int32 → Int32 → Int32 → Int32 → Option (Int32 × Sg)) (σ : Sg) (l4 : Int32) (l5 : Int32) : Option (Int32 × Sg) := nam ((10 * l4) + l5) fun x4 => nam (f_X6_greatestPart σ) fun x5 => b_X1_bestGrains_64 l0 c7 c17 σ x4 x5 l4 l5
def b_X1_bestGrains_17 (l0 : Int32) (c7 : Sg → Int32 → Int32 → Int32 → Option (Int32 × Sg)) : Nat → Sg → Int32 → Int32 → Int32 → Int32 → Option (Int32 × Sg)
  | 0, _, _, _, _, _ => none
  | f + 1, σ, l2, l3, l4, l5 => (if 9 < l5 then nam (l4 + 1) fun x1 => c7 σ l2 l3 x1 else (f_X6_restart σ).bind fun s2 => (f_X1_addTipsOfKinds s2 l0 l4 l5).bind fun s3 => (if l2 = (-1) then b_X1_bestGrains_50 l0 c7 (b_X1_bestGrains_17 l0 c7 f) s3 l4 l5 else (if l3 ≤ (f_X6_greatestPart s3) then b_X1_bestGrains_64 l0 c7 (b_X1_bestGrains_17 l0 c7 f) s3 l2 l3 l4 l5 else b_X1_bestGrains_50 l0 c7 (b_X1_bestGrains_17 l0 c7 f) s3 l4 l5)))
def b_X1_bestGrains_7 (l0 : Int32) : Nat → Sg → Int32 → Int32 → Int32 → Option (Int32 × Sg)
  | 0, _, _, _, _ => none
  | f + 1, σ, l2, l3, l4 => (if 9 < l4 then (some (l2, σ)) else b_X1_bestGrains_17 l0 (b_X1_bestGrains_7 l0 f) FU σ l2 l3 l4 0)
def f_X1_bestGrains (σ : Sg) (l0 : Int32) : Option (Int32 × Sg) := b_X1_bestGrains_7 l0 FU σ (-1) 0 0
set_option maxRecDepth 100000 in
set_option maxHeartbeats 4000000 in
theorem q_X1_bestGrains_64 {g : Cx} (l0 : Int32) (r : Int32) (τ : Sg) (c7 : Sg → Int32 → Int32 → Int32 → Option (Int32 × Sg)) (c17 : Sg → Int32 → Int32 → Int32 → Int32 → Option (Int32 × Sg)) (hc7 : ∀ σ : Sg, ∀ l2 : Int32, ∀ l3 : Int32, ∀ l4 : Int32, c7 σ l2 l3 l4 = some (r, τ) → V g cX1_bestGrains RX1 wsX1_bestGrains 6 (some .int) rm_X1_bestGrains (some (.int r)) τ σ 7 [(0, .int l0), (1, .ref (g.1 107)), (2, .int l2), (3, .int l3), (4, .int l4)] []) (hc17 : ∀ σ : Sg, ∀ l2 : Int32, ∀ l3 : Int32, ∀ l4 : Int32, ∀ l5 : Int32, c17 σ l2 l3 l4 l5 = some (r, τ) → V g cX1_bestGrains RX1 wsX1_bestGrains 6 (some .int) rm_X1_bestGrains (some (.int r)) τ σ 17 [(0, .int l0), (1, .ref (g.1 107)), (2, .int l2), (3, .int l3), (4, .int l4), (5, .int l5)] []) : ∀ σ : Sg, ∀ l2 : Int32, ∀ l3 : Int32, ∀ l4 : Int32, ∀ l5 : Int32, b_X1_bestGrains_64 l0 c7 c17 σ l2 l3 l4 l5 = some (r, τ) → V g cX1_bestGrains RX1 wsX1_bestGrains 6 (some .int) rm_X1_bestGrains (some (.int r)) τ σ 64 [(0, .int l0), (1, .ref (g.1 107)), (2, .int l2), (3, .int l3), (4, .int l4), (5, .int l5)] [] := by
  intro σ l2 l3 l4 l5 h
  unfold b_X1_bestGrains_64 at h
  refine v_iincN 67 5 h dX1_bestGrains_64 rfl kc_i_1 (by decide) rfl (fun _ => rfl) (fun x6 h => ?_)
  refine v_goto 17 dX1_bestGrains_67 (by decide) ?_
  refine v_sub [1, 2, 3, 4, 5, 0] rfl ?_
  exact hc17 σ l2 l3 l4 x6 h
set_option maxRecDepth 100000 in
set_option maxHeartbeats 4000000 in
theorem q_X1_bestGrains_50 {g : Cx} (l0 : Int32) (r : Int32) (τ : Sg) (c7 : Sg → Int32 → Int32 → Int32 → Option (Int32 × Sg)) (c17 : Sg → Int32 → Int32 → Int32 → Int32 → Option (Int32 × Sg)) (hc7 : ∀ σ : Sg, ∀ l2 : Int32, ∀ l3 : Int32, ∀ l4 : Int32, c7 σ l2 l3 l4 = some (r, τ) → V g cX1_bestGrains RX1 wsX1_bestGrains 6 (some .int) rm_X1_bestGrains (some (.int r)) τ σ 7 [(0, .int l0), (1, .ref (g.1 107)), (2, .int l2), (3, .int l3), (4, .int l4)] []) (hc17 : ∀ σ : Sg, ∀ l2 : Int32, ∀ l3 : Int32, ∀ l4 : Int32, ∀ l5 : Int32, c17 σ l2 l3 l4 l5 = some (r, τ) → V g cX1_bestGrains RX1 wsX1_bestGrains 6 (some .int) rm_X1_bestGrains (some (.int r)) τ σ 17 [(0, .int l0), (1, .ref (g.1 107)), (2, .int l2), (3, .int l3), (4, .int l4), (5, .int l5)] []) : ∀ σ : Sg, ∀ l4 : Int32, ∀ l5 : Int32, b_X1_bestGrains_50 l0 c7 c17 σ l4 l5 = some (r, τ) → V g cX1_bestGrains RX1 wsX1_bestGrains 6 (some .int) rm_X1_bestGrains (some (.int r)) τ σ 50 [(0, .int l0), (1, .ref (g.1 107)), (4, .int l4), (5, .int l5)] [] := by
  intro σ l4 l5 h
  unfold b_X1_bestGrains_50 at h
  refine v_bipush 52 10 dX1_bestGrains_50 kc_b_10 rfl ?_
  refine v_iload 54 2 dX1_bestGrains_52 rfl rfl ?_
  refine v_imul 55 dX1_bestGrains_54 rfl ?_
  refine v_iload 57 3 dX1_bestGrains_55 rfl rfl ?_
  refine v_iadd 58 dX1_bestGrains_57 rfl ?_
  refine v_istoreN_n 59 h dX1_bestGrains_58 rfl (by decide) rfl (fun _ => rfl) (fun x4 h => ?_)
  refine v_aload_n 60 2 dX1_bestGrains_59 rfl rfl rfl ?_
  refine v_cV 63 3 [] (rfl : kK 107 = 3) rfl (c_X6_greatestPart) cl_X6_greatestPart gX1_bestGrains_X6_greatestPart rfl ⟨Nat.le_of_ble_eq_true rfl, Nat.le_of_ble_eq_true rfl⟩ rfl rfl (Nat.le_of_ble_eq_true rfl) dX1_bestGrains_60 rfl ?_
  refine v_istoreN_n 64 h dX1_bestGrains_63 rfl (by decide) rfl (fun _ => rfl) (fun x5 h => ?_)
  refine v_sub [2, 3, 1, 0, 4, 5] rfl ?_
  exact q_X1_bestGrains_64 l0 r τ c7 c17 hc7 hc17 σ x4 x5 l4 l5 h
set_option maxRecDepth 100000 in
set_option maxHeartbeats 4000000 in
theorem q_X1_bestGrains_17 {g : Cx} (l0 : Int32) (r : Int32) (τ : Sg) (c7 : Sg → Int32 → Int32 → Int32 → Option (Int32 × Sg)) (hc7 : ∀ σ : Sg, ∀ l2 : Int32, ∀ l3 : Int32, ∀ l4 : Int32, c7 σ l2 l3 l4 = some (r, τ) → V g cX1_bestGrains RX1 wsX1_bestGrains 6 (some .int) rm_X1_bestGrains (some (.int r)) τ σ 7 [(0, .int l0), (1, .ref (g.1 107)), (2, .int l2), (3, .int l3), (4, .int l4)] []) : ∀ f : Nat, ∀ σ : Sg, ∀ l2 : Int32, ∀ l3 : Int32, ∀ l4 : Int32, ∀ l5 : Int32, b_X1_bestGrains_17 l0 c7 f σ l2 l3 l4 l5 = some (r, τ) → V g cX1_bestGrains RX1 wsX1_bestGrains 6 (some .int) rm_X1_bestGrains (some (.int r)) τ σ 17 [(0, .int l0), (1, .ref (g.1 107)), (2, .int l2), (3, .int l3), (4, .int l4), (5, .int l5)] [] := by
  intro f
  induction f with
  | zero =>
    intro σ l2 l3 l4 l5 h
    cases h
  | succ f ih =>
    intro σ l2 l3 l4 l5 h
    rw [b_X1_bestGrains_17] at h
    refine v_iload 19 5 dX1_bestGrains_17 rfl rfl ?_
    refine v_bipush 21 9 dX1_bestGrains_19 kc_b_9 rfl ?_
    refine v_icmp_gt 24 70 h dX1_bestGrains_21 rfl (by decide) (fun h => ?_) (fun h => ?_)
    · refine v_iincN 73 4 h dX1_bestGrains_70 rfl kc_i_1 (by decide) rfl (fun _ => rfl) (fun x1 h => ?_)
      refine v_goto 7 dX1_bestGrains_73 (by decide) ?_
      refine v_sub [1, 2, 3, 4, 0] rfl ?_
      exact hc7 σ l2 l3 x1 h
    · refine v_aload_n 25 1 dX1_bestGrains_24 rfl rfl rfl ?_
      obtain ⟨s2, h0, h⟩ := ob h
      refine v_cV 28 3 [] (rfl : kK 107 = 3) rfl (c_X6_restart _ h0) cl_X6_restart gX1_bestGrains_X6_restart rfl ⟨Nat.le_of_ble_eq_true rfl, Nat.le_of_ble_eq_true rfl⟩ rfl rfl (Nat.le_of_ble_eq_true rfl) dX1_bestGrains_25 rfl ?_
      refine v_aload_n 29 1 dX1_bestGrains_28 rfl rfl rfl ?_
      refine v_iload_n 30 0 dX1_bestGrains_29 rfl rfl rfl ?_
      refine v_iload 32 4 dX1_bestGrains_30 rfl rfl ?_
      refine v_iload 34 5 dX1_bestGrains_32 rfl rfl ?_
      obtain ⟨s3, h0, h⟩ := ob h
      refine v_cS 37 [.ref (g.1 107), .int l0, .int l4, .int l5] (c_X1_addTipsOfKinds l0 l4 l5 _ h0) cl_X1_addTipsOfKinds gX1_bestGrains_X1_addTipsOfKinds ⟨Nat.le_of_ble_eq_true rfl, Nat.le_of_ble_eq_true rfl⟩ rfl rfl (Nat.le_of_ble_eq_true rfl) dX1_bestGrains_34 rfl ?_
      refine v_iload_n 38 2 dX1_bestGrains_37 rfl rfl rfl ?_
      refine v_iconst 39 (-1) dX1_bestGrains_38 kc_i_m1 rfl ?_
      refine v_icmp_eq 42 50 h dX1_bestGrains_39 rfl (by decide) (fun h => ?_) (fun h => ?_)
      · refine v_sub [0, 1, 4, 5] rfl ?_
        exact q_X1_bestGrains_50 l0 r τ c7 (b_X1_bestGrains_17 l0 c7 f) hc7 ih s3 l4 l5 h
      · refine v_aload_n 43 1 dX1_bestGrains_42 rfl rfl rfl ?_
        refine v_cV 46 3 [] (rfl : kK 107 = 3) rfl (c_X6_greatestPart) cl_X6_greatestPart gX1_bestGrains_X6_greatestPart rfl ⟨Nat.le_of_ble_eq_true rfl, Nat.le_of_ble_eq_true rfl⟩ rfl rfl (Nat.le_of_ble_eq_true rfl) dX1_bestGrains_43 rfl ?_
        refine v_iload_n 47 3 dX1_bestGrains_46 rfl rfl rfl ?_
        refine v_icmp_ge 50 64 h dX1_bestGrains_47 rfl (by decide) (fun h => ?_) (fun h => ?_)
        · refine v_sub [0, 1, 2, 3, 4, 5] rfl ?_
          exact q_X1_bestGrains_64 l0 r τ c7 (b_X1_bestGrains_17 l0 c7 f) hc7 ih s3 l2 l3 l4 l5 h
        · refine v_sub [0, 1, 4, 5] rfl ?_
          exact q_X1_bestGrains_50 l0 r τ c7 (b_X1_bestGrains_17 l0 c7 f) hc7 ih s3 l4 l5 h
set_option maxRecDepth 100000 in
set_option maxHeartbeats 4000000 in
theorem q_X1_bestGrains_7 {g : Cx} (l0 : Int32) (r : Int32) (τ : Sg) : ∀ f : Nat, ∀ σ : Sg, ∀ l2 : Int32, ∀ l3 : Int32, ∀ l4 : Int32, b_X1_bestGrains_7 l0 f σ l2 l3 l4 = some (r, τ) → V g cX1_bestGrains RX1 wsX1_bestGrains 6 (some .int) rm_X1_bestGrains (some (.int r)) τ σ 7 [(0, .int l0), (1, .ref (g.1 107)), (2, .int l2), (3, .int l3), (4, .int l4)] [] := by
  intro f
  induction f with
  | zero =>
    intro σ l2 l3 l4 h
    cases h
  | succ f ih =>
    intro σ l2 l3 l4 h
    rw [b_X1_bestGrains_7] at h
    refine v_iload 9 4 dX1_bestGrains_7 rfl rfl ?_
    refine v_bipush 11 9 dX1_bestGrains_9 kc_b_9 rfl ?_
    refine v_icmp_gt 14 76 h dX1_bestGrains_11 rfl (by decide) (fun h => ?_) (fun h => ?_)
    · refine v_iload_n 77 2 dX1_bestGrains_76 rfl rfl rfl ?_
      exact v_iretS h rfl dX1_bestGrains_77
    · refine v_iconst 15 0 dX1_bestGrains_14 kc_i_0 rfl ?_
      refine v_istore 17 dX1_bestGrains_15 (by decide) rfl rfl ?_
      refine v_sub [1, 2, 3, 4, 5, 0] rfl ?_
      exact q_X1_bestGrains_17 l0 r τ (b_X1_bestGrains_7 l0 f) ih FU σ l2 l3 l4 0 h
set_option maxRecDepth 100000 in
set_option maxHeartbeats 4000000 in
theorem c_X1_bestGrains {g : Cx} {σ : Sg} (l0 : Int32) (r : Int32) (τ : Sg) (h : f_X1_bestGrains σ l0 = some (r, τ)) : ∀ l, MetF l yX1_bestGrains wsX1_bestGrains rm_X1_bestGrains g [.int l0, .ref (g.1 107)] σ (some (.int r)) τ := by
  refine MetF.of (own0 := RX1) (lv0 := [(0, .int l0), (1, .ref (g.1 107))]) rfl cl_X1_bestGrains (by decide) (Nat.le_of_ble_eq_true rfl) rfl ?_
  unfold f_X1_bestGrains at h
  refine v_iconst 1 (-1) dX1_bestGrains_0 kc_i_m1 rfl ?_
  refine v_istore_n 2 dX1_bestGrains_1 rfl (by decide) rfl rfl ?_
  refine v_iconst 3 0 dX1_bestGrains_2 kc_i_0 rfl ?_
  refine v_istore_n 4 dX1_bestGrains_3 rfl (by decide) rfl rfl ?_
  refine v_iconst 5 0 dX1_bestGrains_4 kc_i_0 rfl ?_
  refine v_istore 7 dX1_bestGrains_5 (by decide) rfl rfl ?_
  refine v_sub [3, 4, 2, 1, 0] rfl ?_
  exact q_X1_bestGrains_7 l0 r τ FU σ (-1) 0 0 h
-- static int bestPair(WidowWeight$Market, int, int, WidowWeight$Parts);
abbrev rm_X1_bestPair : Room := { frames := 4, cells := 0, slots := 0, locals := 96 }
theorem cl_X1_bestPair : Cl yX1_bestPair wsX1_bestPair cX1_bestPair 8 (some .int) rm_X1_bestPair 4 := ⟨⟨_, rfl⟩, rfl, rfl, by decide +kernel, by decide +kernel, by decide +kernel⟩
def b_X1_bestPair_90 (k0 : Nat) (l1 : Int32) (l2 : Int32) (c9 : Sg → Int32 → Int32 → Int32 → Option (Int32 × Sg)) (c24 : Sg → Int32 → Int32 → Int32 → Int32 → Option (Int32 × Sg)) (σ : Sg) (l4 : Int32) (l5 : Int32) (l6 : Int32) (l7 : Int32) : Option (Int32 × Sg) := nam (l7 + 1) fun x8 => c24 σ l4 l5 l6 x8
def b_X1_bestPair_74 (k0 : Nat) (l1 : Int32) (l2 : Int32) (c9 : Sg → Int32 → Int32 → Int32 → Option (Int32 × Sg)) (c24 : Sg → Int32 → Int32 → Int32 → Int32 → Option (Int32 × Sg)) (σ : Sg) (l6 : Int32) (l7 : Int32) : Option (Int32 × Sg) := nam ((8 * l6) + l7) fun x6 => nam (f_X6_greatestPart σ) fun x7 => b_X1_bestPair_90 k0 l1 l2 c9 c24 σ x6 x7 l6 l7
def b_X1_bestPair_24 (k0 : Nat) (l1 : Int32) (l2 : Int32) (c9 : Sg → Int32 → Int32 → Int32 → Option (Int32 × Sg)) : Nat → Sg → Int32 → Int32 → Int32 → Int32 → Option (Int32 × Sg)
  | 0, _, _, _, _, _ => none
  | f + 1, σ, l4, l5, l6, l7 => (if (f_X3_keeperCount σ k0) ≤ l7 then nam (l6 + 1) fun x2 => c9 σ l4 l5 x2 else (f_X6_restart σ).bind fun s3 => (f_X1_addTips s3 k0 l1 (-1) l6 l7).bind fun s4 => (f_X1_addTips s4 k0 l2 1 l6 l7).bind fun s5 => (if l4 = (-1) then b_X1_bestPair_74 k0 l1 l2 c9 (b_X1_bestPair_24 k0 l1 l2 c9 f) s5 l6 l7 else (if l5 ≤ (f_X6_greatestPart s5) then b_X1_bestPair_90 k0 l1 l2 c9 (b_X1_bestPair_24 k0 l1 l2 c9 f) s5 l4 l5 l6 l7 else b_X1_bestPair_74 k0 l1 l2 c9 (b_X1_bestPair_24 k0 l1 l2 c9 f) s5 l6 l7)))
def b_X1_bestPair_9 (k0 : Nat) (l1 : Int32) (l2 : Int32) : Nat → Sg → Int32 → Int32 → Int32 → Option (Int32 × Sg)
  | 0, _, _, _, _ => none
  | f + 1, σ, l4, l5, l6 => (if (f_X3_keeperCount σ k0) ≤ l6 then (some (l4, σ)) else nam (l6 + 1) fun x1 => b_X1_bestPair_24 k0 l1 l2 (b_X1_bestPair_9 k0 l1 l2 f) FU σ l4 l5 l6 x1)
def f_X1_bestPair (σ : Sg) (k0 : Nat) (l1 : Int32) (l2 : Int32) : Option (Int32 × Sg) := b_X1_bestPair_9 k0 l1 l2 FU σ (-1) 0 0
set_option maxRecDepth 100000 in
set_option maxHeartbeats 4000000 in
theorem q_X1_bestPair_90 {g : Cx} (k0 : Nat) (l1 : Int32) (l2 : Int32) (hk0 : kK k0 = 0) (r : Int32) (τ : Sg) (c9 : Sg → Int32 → Int32 → Int32 → Option (Int32 × Sg)) (c24 : Sg → Int32 → Int32 → Int32 → Int32 → Option (Int32 × Sg)) (hc9 : ∀ σ : Sg, ∀ l4 : Int32, ∀ l5 : Int32, ∀ l6 : Int32, c9 σ l4 l5 l6 = some (r, τ) → V g cX1_bestPair RX1 wsX1_bestPair 8 (some .int) rm_X1_bestPair (some (.int r)) τ σ 9 [(0, .ref (g.1 k0)), (1, .int l1), (2, .int l2), (3, .ref (g.1 107)), (4, .int l4), (5, .int l5), (6, .int l6)] []) (hc24 : ∀ σ : Sg, ∀ l4 : Int32, ∀ l5 : Int32, ∀ l6 : Int32, ∀ l7 : Int32, c24 σ l4 l5 l6 l7 = some (r, τ) → V g cX1_bestPair RX1 wsX1_bestPair 8 (some .int) rm_X1_bestPair (some (.int r)) τ σ 24 [(0, .ref (g.1 k0)), (1, .int l1), (2, .int l2), (3, .ref (g.1 107)), (4, .int l4), (5, .int l5), (6, .int l6), (7, .int l7)] []) : ∀ σ : Sg, ∀ l4 : Int32, ∀ l5 : Int32, ∀ l6 : Int32, ∀ l7 : Int32, b_X1_bestPair_90 k0 l1 l2 c9 c24 σ l4 l5 l6 l7 = some (r, τ) → V g cX1_bestPair RX1 wsX1_bestPair 8 (some .int) rm_X1_bestPair (some (.int r)) τ σ 90 [(0, .ref (g.1 k0)), (1, .int l1), (2, .int l2), (3, .ref (g.1 107)), (4, .int l4), (5, .int l5), (6, .int l6), (7, .int l7)] [] := by
  intro σ l4 l5 l6 l7 h
  unfold b_X1_bestPair_90 at h
  refine v_iincN 93 7 h dX1_bestPair_90 rfl kc_i_1 (by decide) rfl (fun _ => rfl) (fun x8 h => ?_)
  refine v_goto 24 dX1_bestPair_93 (by decide) ?_
  refine v_sub [1, 2, 3, 4, 5, 6, 7, 0] rfl ?_
  exact hc24 σ l4 l5 l6 x8 h
set_option maxRecDepth 100000 in
set_option maxHeartbeats 4000000 in
theorem q_X1_bestPair_74 {g : Cx} (k0 : Nat) (l1 : Int32) (l2 : Int32) (hk0 : kK k0 = 0) (r : Int32) (τ : Sg) (c9 : Sg → Int32 → Int32 → Int32 → Option (Int32 × Sg)) (c24 : Sg → Int32 → Int32 → Int32 → Int32 → Option (Int32 × Sg)) (hc9 : ∀ σ : Sg, ∀ l4 : Int32, ∀ l5 : Int32, ∀ l6 : Int32, c9 σ l4 l5 l6 = some (r, τ) → V g cX1_bestPair RX1 wsX1_bestPair 8 (some .int) rm_X1_bestPair (some (.int r)) τ σ 9 [(0, .ref (g.1 k0)), (1, .int l1), (2, .int l2), (3, .ref (g.1 107)), (4, .int l4), (5, .int l5), (6, .int l6)] []) (hc24 : ∀ σ : Sg, ∀ l4 : Int32, ∀ l5 : Int32, ∀ l6 : Int32, ∀ l7 : Int32, c24 σ l4 l5 l6 l7 = some (r, τ) → V g cX1_bestPair RX1 wsX1_bestPair 8 (some .int) rm_X1_bestPair (some (.int r)) τ σ 24 [(0, .ref (g.1 k0)), (1, .int l1), (2, .int l2), (3, .ref (g.1 107)), (4, .int l4), (5, .int l5), (6, .int l6), (7, .int l7)] []) : ∀ σ : Sg, ∀ l6 : Int32, ∀ l7 : Int32, b_X1_bestPair_74 k0 l1 l2 c9 c24 σ l6 l7 = some (r, τ) → V g cX1_bestPair RX1 wsX1_bestPair 8 (some .int) rm_X1_bestPair (some (.int r)) τ σ 74 [(0, .ref (g.1 k0)), (1, .int l1), (2, .int l2), (3, .ref (g.1 107)), (6, .int l6), (7, .int l7)] [] := by
  intro σ l6 l7 h
  unfold b_X1_bestPair_74 at h
  refine v_bipush 76 8 dX1_bestPair_74 kc_b_8 rfl ?_
  refine v_iload 78 4 dX1_bestPair_76 rfl rfl ?_
  refine v_imul 79 dX1_bestPair_78 rfl ?_
  refine v_iload 81 5 dX1_bestPair_79 rfl rfl ?_
  refine v_iadd 82 dX1_bestPair_81 rfl ?_
  refine v_istoreN 84 h dX1_bestPair_82 (by decide) rfl (fun _ => rfl) (fun x6 h => ?_)
  refine v_aload_n 85 4 dX1_bestPair_84 rfl rfl rfl ?_
  refine v_cV 88 3 [] (rfl : kK 107 = 3) rfl (c_X6_greatestPart) cl_X6_greatestPart gX1_bestPair_X6_greatestPart rfl ⟨Nat.le_of_ble_eq_true rfl, Nat.le_of_ble_eq_true rfl⟩ rfl rfl (Nat.le_of_ble_eq_true rfl) dX1_bestPair_85 rfl ?_
  refine v_istoreN 90 h dX1_bestPair_88 (by decide) rfl (fun _ => rfl) (fun x7 h => ?_)
  refine v_sub [2, 3, 4, 5, 1, 0, 6, 7] rfl ?_
  exact q_X1_bestPair_90 k0 l1 l2 hk0 r τ c9 c24 hc9 hc24 σ x6 x7 l6 l7 h
set_option maxRecDepth 100000 in
set_option maxHeartbeats 4000000 in
theorem q_X1_bestPair_24 {g : Cx} (k0 : Nat) (l1 : Int32) (l2 : Int32) (hk0 : kK k0 = 0) (r : Int32) (τ : Sg) (c9 : Sg → Int32 → Int32 → Int32 → Option (Int32 × Sg)) (hc9 : ∀ σ : Sg, ∀ l4 : Int32, ∀ l5 : Int32, ∀ l6 : Int32, c9 σ l4 l5 l6 = some (r, τ) → V g cX1_bestPair RX1 wsX1_bestPair 8 (some .int) rm_X1_bestPair (some (.int r)) τ σ 9 [(0, .ref (g.1 k0)), (1, .int l1), (2, .int l2), (3, .ref (g.1 107)), (4, .int l4), (5, .int l5), (6, .int l6)] []) : ∀ f : Nat, ∀ σ : Sg, ∀ l4 : Int32, ∀ l5 : Int32, ∀ l6 : Int32, ∀ l7 : Int32, b_X1_bestPair_24 k0 l1 l2 c9 f σ l4 l5 l6 l7 = some (r, τ) → V g cX1_bestPair RX1 wsX1_bestPair 8 (some .int) rm_X1_bestPair (some (.int r)) τ σ 24 [(0, .ref (g.1 k0)), (1, .int l1), (2, .int l2), (3, .ref (g.1 107)), (4, .int l4), (5, .int l5), (6, .int l6), (7, .int l7)] [] := by
  intro f
  induction f with
  | zero =>
    intro σ l4 l5 l6 l7 h
    cases h
  | succ f ih =>
    intro σ l4 l5 l6 l7 h
    rw [b_X1_bestPair_24] at h
    refine v_iload 26 7 dX1_bestPair_24 rfl rfl ?_
    refine v_aload_n 27 0 dX1_bestPair_26 rfl rfl rfl ?_
    refine v_cV 30 0 [] hk0 rfl (c_X3_keeperCount k0 hk0) cl_X3_keeperCount gX1_bestPair_X3_keeperCount rfl ⟨Nat.le_of_ble_eq_true rfl, Nat.le_of_ble_eq_true rfl⟩ rfl rfl (Nat.le_of_ble_eq_true rfl) dX1_bestPair_27 rfl ?_
    refine v_icmp_ge 33 96 h dX1_bestPair_30 rfl (by decide) (fun h => ?_) (fun h => ?_)
    · refine v_iincN 99 6 h dX1_bestPair_96 rfl kc_i_1 (by decide) rfl (fun _ => rfl) (fun x2 h => ?_)
      refine v_goto 9 dX1_bestPair_99 (by decide) ?_
      refine v_sub [1, 2, 3, 4, 5, 6, 0] rfl ?_
      exact hc9 σ l4 l5 x2 h
    · refine v_aload_n 34 3 dX1_bestPair_33 rfl rfl rfl ?_
      obtain ⟨s3, h0, h⟩ := ob h
      refine v_cV 37 3 [] (rfl : kK 107 = 3) rfl (c_X6_restart _ h0) cl_X6_restart gX1_bestPair_X6_restart rfl ⟨Nat.le_of_ble_eq_true rfl, Nat.le_of_ble_eq_true rfl⟩ rfl rfl (Nat.le_of_ble_eq_true rfl) dX1_bestPair_34 rfl ?_
      refine v_aload_n 38 3 dX1_bestPair_37 rfl rfl rfl ?_
      refine v_aload_n 39 0 dX1_bestPair_38 rfl rfl rfl ?_
      refine v_iload_n 40 1 dX1_bestPair_39 rfl rfl rfl ?_
      refine v_iconst 41 (-1) dX1_bestPair_40 kc_i_m1 rfl ?_
      refine v_iload 43 6 dX1_bestPair_41 rfl rfl ?_
      refine v_iload 45 7 dX1_bestPair_43 rfl rfl ?_
      obtain ⟨s4, h0, h⟩ := ob h
      refine v_cS 48 [.ref (g.1 107), .ref (g.1 k0), .int l1, .int (-1), .int l6, .int l7] (c_X1_addTips k0 l1 (-1) l6 l7 hk0 _ h0) cl_X1_addTips gX1_bestPair_X1_addTips ⟨Nat.le_of_ble_eq_true rfl, Nat.le_of_ble_eq_true rfl⟩ rfl rfl (Nat.le_of_ble_eq_true rfl) dX1_bestPair_45 rfl ?_
      refine v_aload_n 49 3 dX1_bestPair_48 rfl rfl rfl ?_
      refine v_aload_n 50 0 dX1_bestPair_49 rfl rfl rfl ?_
      refine v_iload_n 51 2 dX1_bestPair_50 rfl rfl rfl ?_
      refine v_iconst 52 1 dX1_bestPair_51 kc_i_1 rfl ?_
      refine v_iload 54 6 dX1_bestPair_52 rfl rfl ?_
      refine v_iload 56 7 dX1_bestPair_54 rfl rfl ?_
      obtain ⟨s5, h0, h⟩ := ob h
      refine v_cS 59 [.ref (g.1 107), .ref (g.1 k0), .int l2, .int 1, .int l6, .int l7] (c_X1_addTips k0 l2 1 l6 l7 hk0 _ h0) cl_X1_addTips gX1_bestPair_X1_addTips ⟨Nat.le_of_ble_eq_true rfl, Nat.le_of_ble_eq_true rfl⟩ rfl rfl (Nat.le_of_ble_eq_true rfl) dX1_bestPair_56 rfl ?_
      refine v_iload 61 4 dX1_bestPair_59 rfl rfl ?_
      refine v_iconst 62 (-1) dX1_bestPair_61 kc_i_m1 rfl ?_
      refine v_icmp_eq 65 74 h dX1_bestPair_62 rfl (by decide) (fun h => ?_) (fun h => ?_)
      · refine v_sub [0, 1, 2, 3, 6, 7] rfl ?_
        exact q_X1_bestPair_74 k0 l1 l2 hk0 r τ c9 (b_X1_bestPair_24 k0 l1 l2 c9 f) hc9 ih s5 l6 l7 h
      · refine v_aload_n 66 3 dX1_bestPair_65 rfl rfl rfl ?_
        refine v_cV 69 3 [] (rfl : kK 107 = 3) rfl (c_X6_greatestPart) cl_X6_greatestPart gX1_bestPair_X6_greatestPart rfl ⟨Nat.le_of_ble_eq_true rfl, Nat.le_of_ble_eq_true rfl⟩ rfl rfl (Nat.le_of_ble_eq_true rfl) dX1_bestPair_66 rfl ?_
        refine v_iload 71 5 dX1_bestPair_69 rfl rfl ?_
        refine v_icmp_ge 74 90 h dX1_bestPair_71 rfl (by decide) (fun h => ?_) (fun h => ?_)
        · refine v_sub [0, 1, 2, 3, 4, 5, 6, 7] rfl ?_
          exact q_X1_bestPair_90 k0 l1 l2 hk0 r τ c9 (b_X1_bestPair_24 k0 l1 l2 c9 f) hc9 ih s5 l4 l5 l6 l7 h
        · refine v_sub [0, 1, 2, 3, 6, 7] rfl ?_
          exact q_X1_bestPair_74 k0 l1 l2 hk0 r τ c9 (b_X1_bestPair_24 k0 l1 l2 c9 f) hc9 ih s5 l6 l7 h
set_option maxRecDepth 100000 in
set_option maxHeartbeats 4000000 in
theorem q_X1_bestPair_9 {g : Cx} (k0 : Nat) (l1 : Int32) (l2 : Int32) (hk0 : kK k0 = 0) (r : Int32) (τ : Sg) : ∀ f : Nat, ∀ σ : Sg, ∀ l4 : Int32, ∀ l5 : Int32, ∀ l6 : Int32, b_X1_bestPair_9 k0 l1 l2 f σ l4 l5 l6 = some (r, τ) → V g cX1_bestPair RX1 wsX1_bestPair 8 (some .int) rm_X1_bestPair (some (.int r)) τ σ 9 [(0, .ref (g.1 k0)), (1, .int l1), (2, .int l2), (3, .ref (g.1 107)), (4, .int l4), (5, .int l5), (6, .int l6)] [] := by
  intro f
  induction f with
  | zero =>
    intro σ l4 l5 l6 h
    cases h
  | succ f ih =>
    intro σ l4 l5 l6 h
    rw [b_X1_bestPair_9] at h
    refine v_iload 11 6 dX1_bestPair_9 rfl rfl ?_
    refine v_aload_n 12 0 dX1_bestPair_11 rfl rfl rfl ?_
    refine v_cV 15 0 [] hk0 rfl (c_X3_keeperCount k0 hk0) cl_X3_keeperCount gX1_bestPair_X3_keeperCount rfl ⟨Nat.le_of_ble_eq_true rfl, Nat.le_of_ble_eq_true rfl⟩ rfl rfl (Nat.le_of_ble_eq_true rfl) dX1_bestPair_12 rfl ?_
    refine v_icmp_ge 18 102 h dX1_bestPair_15 rfl (by decide) (fun h => ?_) (fun h => ?_)
    · refine v_iload 104 4 dX1_bestPair_102 rfl rfl ?_
      exact v_iretS h rfl dX1_bestPair_104
    · refine v_iload 20 6 dX1_bestPair_18 rfl rfl ?_
      refine v_iconst 21 1 dX1_bestPair_20 kc_i_1 rfl ?_
      refine v_iadd 22 dX1_bestPair_21 rfl ?_
      refine v_istoreN 24 h dX1_bestPair_22 (by decide) rfl (fun _ => rfl) (fun x1 h => ?_)
      refine v_sub [1, 2, 3, 4, 5, 6, 7, 0] rfl ?_
      exact q_X1_bestPair_24 k0 l1 l2 hk0 r τ (b_X1_bestPair_9 k0 l1 l2 f) ih FU σ l4 l5 l6 x1 h
set_option maxRecDepth 100000 in
set_option maxHeartbeats 4000000 in
theorem c_X1_bestPair {g : Cx} {σ : Sg} (k0 : Nat) (l1 : Int32) (l2 : Int32) (hk0 : kK k0 = 0) (r : Int32) (τ : Sg) (h : f_X1_bestPair σ k0 l1 l2 = some (r, τ)) : ∀ l, MetF l yX1_bestPair wsX1_bestPair rm_X1_bestPair g [.ref (g.1 k0), .int l1, .int l2, .ref (g.1 107)] σ (some (.int r)) τ := by
  refine MetF.of (own0 := RX1) (lv0 := [(0, .ref (g.1 k0)), (1, .int l1), (2, .int l2), (3, .ref (g.1 107))]) rfl cl_X1_bestPair (by decide) (Nat.le_of_ble_eq_true rfl) rfl ?_
  unfold f_X1_bestPair at h
  refine v_iconst 1 (-1) dX1_bestPair_0 kc_i_m1 rfl ?_
  refine v_istore 3 dX1_bestPair_1 (by decide) rfl rfl ?_
  refine v_iconst 4 0 dX1_bestPair_3 kc_i_0 rfl ?_
  refine v_istore 6 dX1_bestPair_4 (by decide) rfl rfl ?_
  refine v_iconst 7 0 dX1_bestPair_6 kc_i_0 rfl ?_
  refine v_istore 9 dX1_bestPair_7 (by decide) rfl rfl ?_
  refine v_sub [3, 4, 5, 6, 2, 1, 0] rfl ?_
  exact q_X1_bestPair_9 k0 l1 l2 hk0 r τ FU σ (-1) 0 0 h
-- private static boolean fitsNotes(WidowWeight$Row, int, int);
abbrev rm_X1_fitsNotes : Room := { frames := 2, cells := 0, slots := 0, locals := 43 }
theorem cl_X1_fitsNotes : Cl yX1_fitsNotes wsX1_fitsNotes cX1_fitsNotes 4 (some .boolean) rm_X1_fitsNotes 3 := ⟨⟨_, rfl⟩, rfl, rfl, by decide +kernel, by decide +kernel, by decide +kernel⟩
def b_X1_fitsNotes_51 (σ : Sg) (k0 : Nat) (l1 : Int32) (l2 : Int32) (c2 : Int32 → Option Int32) (l3 : Int32) : Option Int32 := nam (l3 + 4) fun x2 => c2 x2
def b_X1_fitsNotes_2 (σ : Sg) (k0 : Nat) (l1 : Int32) (l2 : Int32) : Nat → Int32 → Option Int32
  | 0, _ => none
  | f + 1, l3 => (if (f_X7_size σ k0) ≤ (l3 + 3) then (some (1)) else (f_X7_at σ k0 l3).bind fun x1 => (if x1 = l1 then (f_X7_at σ k0 (l3 + 1)).bind fun x3 => (f_X7_at σ k0 (l3 + 2)).bind fun x4 => (f_X7_at σ k0 (l3 + 3)).bind fun x5 => (if (f_X2_behind l2 x3 x4) = x5 then b_X1_fitsNotes_51 σ k0 l1 l2 (b_X1_fitsNotes_2 σ k0 l1 l2 f) l3 else (some (0))) else b_X1_fitsNotes_51 σ k0 l1 l2 (b_X1_fitsNotes_2 σ k0 l1 l2 f) l3))
def f_X1_fitsNotes (σ : Sg) (k0 : Nat) (l1 : Int32) (l2 : Int32) : Option Int32 := b_X1_fitsNotes_2 σ k0 l1 l2 FU 0
set_option maxRecDepth 100000 in
set_option maxHeartbeats 4000000 in
theorem q_X1_fitsNotes_51 {g : Cx} (σ : Sg) (k0 : Nat) (l1 : Int32) (l2 : Int32) (hk0 : kK k0 = 4) (r : Int32) (c2 : Int32 → Option Int32) (hc2 : ∀ l3 : Int32, c2 l3 = some r → V g cX1_fitsNotes RX1 wsX1_fitsNotes 4 (some .boolean) rm_X1_fitsNotes (some (.int r)) σ σ 2 [(0, .ref (g.1 k0)), (1, .int l1), (2, .int l2), (3, .int l3)] []) : ∀ l3 : Int32, b_X1_fitsNotes_51 σ k0 l1 l2 c2 l3 = some r → V g cX1_fitsNotes RX1 wsX1_fitsNotes 4 (some .boolean) rm_X1_fitsNotes (some (.int r)) σ σ 51 [(0, .ref (g.1 k0)), (1, .int l1), (2, .int l2), (3, .int l3)] [] := by
  intro l3 h
  unfold b_X1_fitsNotes_51 at h
  refine v_iincN 54 3 h dX1_fitsNotes_51 rfl kc_i_4 (by decide) rfl (fun _ => rfl) (fun x2 h => ?_)
  refine v_goto 2 dX1_fitsNotes_54 (by decide) ?_
  refine v_sub [1, 2, 3, 0] rfl ?_
  exact hc2 x2 h
set_option maxRecDepth 100000 in
set_option maxHeartbeats 4000000 in
theorem q_X1_fitsNotes_2 {g : Cx} (σ : Sg) (k0 : Nat) (l1 : Int32) (l2 : Int32) (hk0 : kK k0 = 4) (r : Int32) : ∀ f : Nat, ∀ l3 : Int32, b_X1_fitsNotes_2 σ k0 l1 l2 f l3 = some r → V g cX1_fitsNotes RX1 wsX1_fitsNotes 4 (some .boolean) rm_X1_fitsNotes (some (.int r)) σ σ 2 [(0, .ref (g.1 k0)), (1, .int l1), (2, .int l2), (3, .int l3)] [] := by
  intro f
  induction f with
  | zero =>
    intro l3 h
    cases h
  | succ f ih =>
    intro l3 h
    rw [b_X1_fitsNotes_2] at h
    refine v_iload_n 3 3 dX1_fitsNotes_2 rfl rfl rfl ?_
    refine v_iconst 4 3 dX1_fitsNotes_3 kc_i_3 rfl ?_
    refine v_iadd 5 dX1_fitsNotes_4 rfl ?_
    refine v_aload_n 6 0 dX1_fitsNotes_5 rfl rfl rfl ?_
    refine v_cV 9 4 [] hk0 rfl (c_X7_size k0 hk0) cl_X7_size gX1_fitsNotes_X7_size rfl ⟨Nat.le_of_ble_eq_true rfl, Nat.le_of_ble_eq_true rfl⟩ rfl rfl (Nat.le_of_ble_eq_true rfl) dX1_fitsNotes_6 rfl ?_
    refine v_icmp_ge 12 57 h dX1_fitsNotes_9 rfl (by decide) (fun h => ?_) (fun h => ?_)
    · refine v_iconst 58 1 dX1_fitsNotes_57 kc_i_1 rfl ?_
      exact v_zretP h rfl (Or.inr rfl) dX1_fitsNotes_58
    · refine v_aload_n 13 0 dX1_fitsNotes_12 rfl rfl rfl ?_
      refine v_iload_n 14 3 dX1_fitsNotes_13 rfl rfl rfl ?_
      obtain ⟨x1, h0, h⟩ := ob h
      refine v_cV 17 4 [.int l3] hk0 rfl (c_X7_at k0 l3 hk0 _ h0) cl_X7_at gX1_fitsNotes_X7_at rfl ⟨Nat.le_of_ble_eq_true rfl, Nat.le_of_ble_eq_true rfl⟩ rfl rfl (Nat.le_of_ble_eq_true rfl) dX1_fitsNotes_14 rfl ?_
      refine v_iload_n 18 1 dX1_fitsNotes_17 rfl rfl rfl ?_
      refine v_icmp_ne 21 51 h dX1_fitsNotes_18 rfl (by decide) (fun h => ?_) (fun h => ?_)
      · refine v_sub [0, 1, 2, 3] rfl ?_
        exact q_X1_fitsNotes_51 σ k0 l1 l2 hk0 r (b_X1_fitsNotes_2 σ k0 l1 l2 f) ih l3 h
      · refine v_iload_n 22 2 dX1_fitsNotes_21 rfl rfl rfl ?_
        refine v_aload_n 23 0 dX1_fitsNotes_22 rfl rfl rfl ?_
        refine v_iload_n 24 3 dX1_fitsNotes_23 rfl rfl rfl ?_
        refine v_iconst 25 1 dX1_fitsNotes_24 kc_i_1 rfl ?_
        refine v_iadd 26 dX1_fitsNotes_25 rfl ?_
        obtain ⟨x3, h0, h⟩ := ob h
        refine v_cV 29 4 [.int (l3 + 1)] hk0 rfl (c_X7_at k0 (l3 + 1) hk0 _ h0) cl_X7_at gX1_fitsNotes_X7_at rfl ⟨Nat.le_of_ble_eq_true rfl, Nat.le_of_ble_eq_true rfl⟩ rfl rfl (Nat.le_of_ble_eq_true rfl) dX1_fitsNotes_26 rfl ?_
        refine v_aload_n 30 0 dX1_fitsNotes_29 rfl rfl rfl ?_
        refine v_iload_n 31 3 dX1_fitsNotes_30 rfl rfl rfl ?_
        refine v_iconst 32 2 dX1_fitsNotes_31 kc_i_2 rfl ?_
        refine v_iadd 33 dX1_fitsNotes_32 rfl ?_
        obtain ⟨x4, h0, h⟩ := ob h
        refine v_cV 36 4 [.int (l3 + 2)] hk0 rfl (c_X7_at k0 (l3 + 2) hk0 _ h0) cl_X7_at gX1_fitsNotes_X7_at rfl ⟨Nat.le_of_ble_eq_true rfl, Nat.le_of_ble_eq_true rfl⟩ rfl rfl (Nat.le_of_ble_eq_true rfl) dX1_fitsNotes_33 rfl ?_
        refine v_cS 39 [.int l2, .int x3, .int x4] (c_X2_behind l2 x3 x4) cl_X2_behind gX1_fitsNotes_X2_behind ⟨Nat.le_of_ble_eq_true rfl, Nat.le_of_ble_eq_true rfl⟩ rfl rfl (Nat.le_of_ble_eq_true rfl) dX1_fitsNotes_36 rfl ?_
        refine v_aload_n 40 0 dX1_fitsNotes_39 rfl rfl rfl ?_
        refine v_iload_n 41 3 dX1_fitsNotes_40 rfl rfl rfl ?_
        refine v_iconst 42 3 dX1_fitsNotes_41 kc_i_3 rfl ?_
        refine v_iadd 43 dX1_fitsNotes_42 rfl ?_
        obtain ⟨x5, h0, h⟩ := ob h
        refine v_cV 46 4 [.int (l3 + 3)] hk0 rfl (c_X7_at k0 (l3 + 3) hk0 _ h0) cl_X7_at gX1_fitsNotes_X7_at rfl ⟨Nat.le_of_ble_eq_true rfl, Nat.le_of_ble_eq_true rfl⟩ rfl rfl (Nat.le_of_ble_eq_true rfl) dX1_fitsNotes_43 rfl ?_
        refine v_icmp_eq 49 51 h dX1_fitsNotes_46 rfl (by decide) (fun h => ?_) (fun h => ?_)
        · refine v_sub [0, 1, 2, 3] rfl ?_
          exact q_X1_fitsNotes_51 σ k0 l1 l2 hk0 r (b_X1_fitsNotes_2 σ k0 l1 l2 f) ih l3 h
        · refine v_iconst 50 0 dX1_fitsNotes_49 kc_i_0 rfl ?_
          exact v_zretP h rfl (Or.inl rfl) dX1_fitsNotes_50
set_option maxRecDepth 100000 in
set_option maxHeartbeats 4000000 in
theorem c_X1_fitsNotes {g : Cx} {σ : Sg} (k0 : Nat) (l1 : Int32) (l2 : Int32) (hk0 : kK k0 = 4) (r : Int32) (h : f_X1_fitsNotes σ k0 l1 l2 = some r) : ∀ l, MetF l yX1_fitsNotes wsX1_fitsNotes rm_X1_fitsNotes g [.ref (g.1 k0), .int l1, .int l2] σ (some (.int r)) σ := by
  refine MetF.of (own0 := RX1) (lv0 := [(0, .ref (g.1 k0)), (1, .int l1), (2, .int l2)]) rfl cl_X1_fitsNotes (by decide) (Nat.le_of_ble_eq_true rfl) rfl ?_
  unfold f_X1_fitsNotes at h
  refine v_iconst 1 0 dX1_fitsNotes_0 kc_i_0 rfl ?_
  refine v_istore_n 2 dX1_fitsNotes_1 rfl (by decide) rfl rfl ?_
  refine v_sub [1, 2, 3, 0] rfl ?_
  exact q_X1_fitsNotes_2 σ k0 l1 l2 hk0 r FU 0 h
-- private static boolean fitsReadings(WidowWeight$Market, int, int);
abbrev rm_X1_fitsReadings : Room := { frames := 3, cells := 0, slots := 0, locals := 70 }
theorem cl_X1_fitsReadings : Cl yX1_fitsReadings wsX1_fitsReadings cX1_fitsReadings 5 (some .boolean) rm_X1_fitsReadings 3 := ⟨⟨_, rfl⟩, rfl, rfl, by decide +kernel, by decide +kernel, by decide +kernel⟩
theorem in_X1_fitsReadings_0 : ∀ w ∈ wsX30, w ∈ wsX1_fitsReadings := fun w h => List.mem_cons_of_mem _ (List.mem_append_left _ (List.mem_append_right _ h))
def b_X1_fitsReadings_8 (σ : Sg) (k0 : Nat) (l1 : Int32) (l2 : Int32) : Nat → Int32 → Option Int32
  | 0, _ => none
  | f + 1, l4 => (if (f_X7_size σ (k0 + 9)) ≤ (l4 + 2) then (some (1)) else (f_X7_at σ (k0 + 9) l4).bind fun x1 => (f_X7_at σ (k0 + 9) (l4 + 1)).bind fun x2 => (f_X1_tipIfOff σ (k0 + 5) x1 x2 l1 l2).bind fun x3 => (f_X7_at σ (k0 + 9) (l4 + 2)).bind fun x4 => (if x3 = x4 then nam (l4 + 3) fun x5 => b_X1_fitsReadings_8 σ k0 l1 l2 f x5 else (some (0))))
def f_X1_fitsReadings (σ : Sg) (k0 : Nat) (l1 : Int32) (l2 : Int32) : Option Int32 := b_X1_fitsReadings_8 σ k0 l1 l2 FU 0
set_option maxRecDepth 100000 in
set_option maxHeartbeats 4000000 in
theorem q_X1_fitsReadings_8 {g : Cx} (σ : Sg) (k0 : Nat) (l1 : Int32) (l2 : Int32) (hk0 : kK k0 = 0) (r : Int32) : ∀ f : Nat, ∀ l4 : Int32, b_X1_fitsReadings_8 σ k0 l1 l2 f l4 = some r → V g cX1_fitsReadings RX1 wsX1_fitsReadings 5 (some .boolean) rm_X1_fitsReadings (some (.int r)) σ σ 8 [(0, .ref (g.1 k0)), (1, .int l1), (2, .int l2), (3, .ref (g.1 (k0 + 9))), (4, .int l4)] [] := by
  intro f
  induction f with
  | zero =>
    intro l4 h
    cases h
  | succ f ih =>
    intro l4 h
    rw [b_X1_fitsReadings_8] at h
    refine v_iload 10 4 dX1_fitsReadings_8 rfl rfl ?_
    refine v_iconst 11 2 dX1_fitsReadings_10 kc_i_2 rfl ?_
    refine v_iadd 12 dX1_fitsReadings_11 rfl ?_
    refine v_aload_n 13 3 dX1_fitsReadings_12 rfl rfl rfl ?_
    refine v_cV 16 4 [] (kf_0_4 hk0) rfl (c_X7_size (k0 + 9) (kf_0_4 hk0)) cl_X7_size gX1_fitsReadings_X7_size rfl ⟨Nat.le_of_ble_eq_true rfl, Nat.le_of_ble_eq_true rfl⟩ rfl rfl (Nat.le_of_ble_eq_true rfl) dX1_fitsReadings_13 rfl ?_
    refine v_icmp_ge 19 61 h dX1_fitsReadings_16 rfl (by decide) (fun h => ?_) (fun h => ?_)
    · refine v_iconst 62 1 dX1_fitsReadings_61 kc_i_1 rfl ?_
      exact v_zretP h rfl (Or.inr rfl) dX1_fitsReadings_62
    · refine v_aload_n 20 0 dX1_fitsReadings_19 rfl rfl rfl ?_
      refine vg_0_2 23 (k0 + 5) hk0 in_X1_fitsReadings_0 (mem_at 2 rfl) rfl dX1_fitsReadings_20 rfl ?_
      refine v_aload_n 24 3 dX1_fitsReadings_23 rfl rfl rfl ?_
      refine v_iload 26 4 dX1_fitsReadings_24 rfl rfl ?_
      obtain ⟨x1, h0, h⟩ := ob h
      refine v_cV 29 4 [.int l4] (kf_0_4 hk0) rfl (c_X7_at (k0 + 9) l4 (kf_0_4 hk0) _ h0) cl_X7_at gX1_fitsReadings_X7_at rfl ⟨Nat.le_of_ble_eq_true rfl, Nat.le_of_ble_eq_true rfl⟩ rfl rfl (Nat.le_of_ble_eq_true rfl) dX1_fitsReadings_26 rfl ?_
      refine v_aload_n 30 3 dX1_fitsReadings_29 rfl rfl rfl ?_
      refine v_iload 32 4 dX1_fitsReadings_30 rfl rfl ?_
      refine v_iconst 33 1 dX1_fitsReadings_32 kc_i_1 rfl ?_
      refine v_iadd 34 dX1_fitsReadings_33 rfl ?_
      obtain ⟨x2, h0, h⟩ := ob h
      refine v_cV 37 4 [.int (l4 + 1)] (kf_0_4 hk0) rfl (c_X7_at (k0 + 9) (l4 + 1) (kf_0_4 hk0) _ h0) cl_X7_at gX1_fitsReadings_X7_at rfl ⟨Nat.le_of_ble_eq_true rfl, Nat.le_of_ble_eq_true rfl⟩ rfl rfl (Nat.le_of_ble_eq_true rfl) dX1_fitsReadings_34 rfl ?_
      refine v_iload_n 38 1 dX1_fitsReadings_37 rfl rfl rfl ?_
      refine v_iload_n 39 2 dX1_fitsReadings_38 rfl rfl rfl ?_
      obtain ⟨x3, h0, h⟩ := ob h
      refine v_cS 42 [.ref (g.1 (k0 + 5)), .int x1, .int x2, .int l1, .int l2] (c_X1_tipIfOff (k0 + 5) x1 x2 l1 l2 (kf_0_2 hk0) _ h0) cl_X1_tipIfOff gX1_fitsReadings_X1_tipIfOff ⟨Nat.le_of_ble_eq_true rfl, Nat.le_of_ble_eq_true rfl⟩ rfl rfl (Nat.le_of_ble_eq_true rfl) dX1_fitsReadings_39 rfl ?_
      refine v_aload_n 43 3 dX1_fitsReadings_42 rfl rfl rfl ?_
      refine v_iload 45 4 dX1_fitsReadings_43 rfl rfl ?_
      refine v_iconst 46 2 dX1_fitsReadings_45 kc_i_2 rfl ?_
      refine v_iadd 47 dX1_fitsReadings_46 rfl ?_
      obtain ⟨x4, h0, h⟩ := ob h
      refine v_cV 50 4 [.int (l4 + 2)] (kf_0_4 hk0) rfl (c_X7_at (k0 + 9) (l4 + 2) (kf_0_4 hk0) _ h0) cl_X7_at gX1_fitsReadings_X7_at rfl ⟨Nat.le_of_ble_eq_true rfl, Nat.le_of_ble_eq_true rfl⟩ rfl rfl (Nat.le_of_ble_eq_true rfl) dX1_fitsReadings_47 rfl ?_
      refine v_icmp_eq 53 55 h dX1_fitsReadings_50 rfl (by decide) (fun h => ?_) (fun h => ?_)
      · refine v_iincN 58 4 h dX1_fitsReadings_55 rfl kc_i_3 (by decide) rfl (fun _ => rfl) (fun x5 h => ?_)
        refine v_goto 8 dX1_fitsReadings_58 (by decide) ?_
        refine v_sub [1, 2, 3, 4, 0] rfl ?_
        exact ih x5 h
      · refine v_iconst 54 0 dX1_fitsReadings_53 kc_i_0 rfl ?_
        exact v_zretP h rfl (Or.inl rfl) dX1_fitsReadings_54
set_option maxRecDepth 100000 in
set_option maxHeartbeats 4000000 in
theorem c_X1_fitsReadings {g : Cx} {σ : Sg} (k0 : Nat) (l1 : Int32) (l2 : Int32) (hk0 : kK k0 = 0) (r : Int32) (h : f_X1_fitsReadings σ k0 l1 l2 = some r) : ∀ l, MetF l yX1_fitsReadings wsX1_fitsReadings rm_X1_fitsReadings g [.ref (g.1 k0), .int l1, .int l2] σ (some (.int r)) σ := by
  refine MetF.of (own0 := RX1) (lv0 := [(0, .ref (g.1 k0)), (1, .int l1), (2, .int l2)]) rfl cl_X1_fitsReadings (by decide) (Nat.le_of_ble_eq_true rfl) rfl ?_
  unfold f_X1_fitsReadings at h
  refine v_aload_n 1 0 dX1_fitsReadings_0 rfl rfl rfl ?_
  refine vg_0_4 4 (k0 + 9) hk0 in_X1_fitsReadings_0 (mem_at 1 rfl) rfl dX1_fitsReadings_1 rfl ?_
  refine v_astore_n 5 dX1_fitsReadings_4 rfl (by decide) rfl rfl ?_
  refine v_iconst 6 0 dX1_fitsReadings_5 kc_i_0 rfl ?_
  refine v_istore 8 dX1_fitsReadings_6 (by decide) rfl rfl ?_
  refine v_sub [2, 3, 4, 1, 0] rfl ?_
  exact q_X1_fitsReadings_8 σ k0 l1 l2 hk0 r FU 0 h
-- private static boolean fitsTippings(WidowWeight$Row, int, int);
abbrev rm_X1_fitsTippings : Room := { frames := 4, cells := 0, slots := 0, locals := 85 }
theorem cl_X1_fitsTippings : Cl yX1_fitsTippings wsX1_fitsTippings cX1_fitsTippings 4 (some .boolean) rm_X1_fitsTippings 3 := ⟨⟨_, rfl⟩, rfl, rfl, by decide +kernel, by decide +kernel, by decide +kernel⟩
def b_X1_fitsTippings_51 (σ : Sg) (k0 : Nat) (l1 : Int32) (l2 : Int32) (c2 : Int32 → Option Int32) (l3 : Int32) : Option Int32 := nam (l3 + 4) fun x2 => c2 x2
def b_X1_fitsTippings_2 (σ : Sg) (k0 : Nat) (l1 : Int32) (l2 : Int32) : Nat → Int32 → Option Int32
  | 0, _ => none
  | f + 1, l3 => (if (f_X7_size σ k0) ≤ (l3 + 3) then (some (1)) else (f_X7_at σ k0 l3).bind fun x1 => (if x1 = l1 then (f_X7_at σ k0 (l3 + 1)).bind fun x3 => (f_X7_at σ k0 (l3 + 2)).bind fun x4 => (f_X7_at σ k0 (l3 + 3)).bind fun x5 => (if (f_X0_tip l2 x3 x4) = x5 then b_X1_fitsTippings_51 σ k0 l1 l2 (b_X1_fitsTippings_2 σ k0 l1 l2 f) l3 else (some (0))) else b_X1_fitsTippings_51 σ k0 l1 l2 (b_X1_fitsTippings_2 σ k0 l1 l2 f) l3))
def f_X1_fitsTippings (σ : Sg) (k0 : Nat) (l1 : Int32) (l2 : Int32) : Option Int32 := b_X1_fitsTippings_2 σ k0 l1 l2 FU 0
set_option maxRecDepth 100000 in
set_option maxHeartbeats 4000000 in
theorem q_X1_fitsTippings_51 {g : Cx} (σ : Sg) (k0 : Nat) (l1 : Int32) (l2 : Int32) (hk0 : kK k0 = 4) (r : Int32) (c2 : Int32 → Option Int32) (hc2 : ∀ l3 : Int32, c2 l3 = some r → V g cX1_fitsTippings RX1 wsX1_fitsTippings 4 (some .boolean) rm_X1_fitsTippings (some (.int r)) σ σ 2 [(0, .ref (g.1 k0)), (1, .int l1), (2, .int l2), (3, .int l3)] []) : ∀ l3 : Int32, b_X1_fitsTippings_51 σ k0 l1 l2 c2 l3 = some r → V g cX1_fitsTippings RX1 wsX1_fitsTippings 4 (some .boolean) rm_X1_fitsTippings (some (.int r)) σ σ 51 [(0, .ref (g.1 k0)), (1, .int l1), (2, .int l2), (3, .int l3)] [] := by
  intro l3 h
  unfold b_X1_fitsTippings_51 at h
  refine v_iincN 54 3 h dX1_fitsTippings_51 rfl kc_i_4 (by decide) rfl (fun _ => rfl) (fun x2 h => ?_)
  refine v_goto 2 dX1_fitsTippings_54 (by decide) ?_
  refine v_sub [1, 2, 3, 0] rfl ?_
  exact hc2 x2 h
set_option maxRecDepth 100000 in
set_option maxHeartbeats 4000000 in
theorem q_X1_fitsTippings_2 {g : Cx} (σ : Sg) (k0 : Nat) (l1 : Int32) (l2 : Int32) (hk0 : kK k0 = 4) (r : Int32) : ∀ f : Nat, ∀ l3 : Int32, b_X1_fitsTippings_2 σ k0 l1 l2 f l3 = some r → V g cX1_fitsTippings RX1 wsX1_fitsTippings 4 (some .boolean) rm_X1_fitsTippings (some (.int r)) σ σ 2 [(0, .ref (g.1 k0)), (1, .int l1), (2, .int l2), (3, .int l3)] [] := by
  intro f
  induction f with
  | zero =>
    intro l3 h
    cases h
  | succ f ih =>
    intro l3 h
    rw [b_X1_fitsTippings_2] at h
    refine v_iload_n 3 3 dX1_fitsTippings_2 rfl rfl rfl ?_
    refine v_iconst 4 3 dX1_fitsTippings_3 kc_i_3 rfl ?_
    refine v_iadd 5 dX1_fitsTippings_4 rfl ?_
    refine v_aload_n 6 0 dX1_fitsTippings_5 rfl rfl rfl ?_
    refine v_cV 9 4 [] hk0 rfl (c_X7_size k0 hk0) cl_X7_size gX1_fitsTippings_X7_size rfl ⟨Nat.le_of_ble_eq_true rfl, Nat.le_of_ble_eq_true rfl⟩ rfl rfl (Nat.le_of_ble_eq_true rfl) dX1_fitsTippings_6 rfl ?_
    refine v_icmp_ge 12 57 h dX1_fitsTippings_9 rfl (by decide) (fun h => ?_) (fun h => ?_)
    · refine v_iconst 58 1 dX1_fitsTippings_57 kc_i_1 rfl ?_
      exact v_zretP h rfl (Or.inr rfl) dX1_fitsTippings_58
    · refine v_aload_n 13 0 dX1_fitsTippings_12 rfl rfl rfl ?_
      refine v_iload_n 14 3 dX1_fitsTippings_13 rfl rfl rfl ?_
      obtain ⟨x1, h0, h⟩ := ob h
      refine v_cV 17 4 [.int l3] hk0 rfl (c_X7_at k0 l3 hk0 _ h0) cl_X7_at gX1_fitsTippings_X7_at rfl ⟨Nat.le_of_ble_eq_true rfl, Nat.le_of_ble_eq_true rfl⟩ rfl rfl (Nat.le_of_ble_eq_true rfl) dX1_fitsTippings_14 rfl ?_
      refine v_iload_n 18 1 dX1_fitsTippings_17 rfl rfl rfl ?_
      refine v_icmp_ne 21 51 h dX1_fitsTippings_18 rfl (by decide) (fun h => ?_) (fun h => ?_)
      · refine v_sub [0, 1, 2, 3] rfl ?_
        exact q_X1_fitsTippings_51 σ k0 l1 l2 hk0 r (b_X1_fitsTippings_2 σ k0 l1 l2 f) ih l3 h
      · refine v_iload_n 22 2 dX1_fitsTippings_21 rfl rfl rfl ?_
        refine v_aload_n 23 0 dX1_fitsTippings_22 rfl rfl rfl ?_
        refine v_iload_n 24 3 dX1_fitsTippings_23 rfl rfl rfl ?_
        refine v_iconst 25 1 dX1_fitsTippings_24 kc_i_1 rfl ?_
        refine v_iadd 26 dX1_fitsTippings_25 rfl ?_
        obtain ⟨x3, h0, h⟩ := ob h
        refine v_cV 29 4 [.int (l3 + 1)] hk0 rfl (c_X7_at k0 (l3 + 1) hk0 _ h0) cl_X7_at gX1_fitsTippings_X7_at rfl ⟨Nat.le_of_ble_eq_true rfl, Nat.le_of_ble_eq_true rfl⟩ rfl rfl (Nat.le_of_ble_eq_true rfl) dX1_fitsTippings_26 rfl ?_
        refine v_aload_n 30 0 dX1_fitsTippings_29 rfl rfl rfl ?_
        refine v_iload_n 31 3 dX1_fitsTippings_30 rfl rfl rfl ?_
        refine v_iconst 32 2 dX1_fitsTippings_31 kc_i_2 rfl ?_
        refine v_iadd 33 dX1_fitsTippings_32 rfl ?_
        obtain ⟨x4, h0, h⟩ := ob h
        refine v_cV 36 4 [.int (l3 + 2)] hk0 rfl (c_X7_at k0 (l3 + 2) hk0 _ h0) cl_X7_at gX1_fitsTippings_X7_at rfl ⟨Nat.le_of_ble_eq_true rfl, Nat.le_of_ble_eq_true rfl⟩ rfl rfl (Nat.le_of_ble_eq_true rfl) dX1_fitsTippings_33 rfl ?_
        refine v_cS 39 [.int l2, .int x3, .int x4] (c_X0_tip l2 x3 x4) cl_X0_tip gX1_fitsTippings_X0_tip ⟨Nat.le_of_ble_eq_true rfl, Nat.le_of_ble_eq_true rfl⟩ rfl rfl (Nat.le_of_ble_eq_true rfl) dX1_fitsTippings_36 rfl ?_
        refine v_aload_n 40 0 dX1_fitsTippings_39 rfl rfl rfl ?_
        refine v_iload_n 41 3 dX1_fitsTippings_40 rfl rfl rfl ?_
        refine v_iconst 42 3 dX1_fitsTippings_41 kc_i_3 rfl ?_
        refine v_iadd 43 dX1_fitsTippings_42 rfl ?_
        obtain ⟨x5, h0, h⟩ := ob h
        refine v_cV 46 4 [.int (l3 + 3)] hk0 rfl (c_X7_at k0 (l3 + 3) hk0 _ h0) cl_X7_at gX1_fitsTippings_X7_at rfl ⟨Nat.le_of_ble_eq_true rfl, Nat.le_of_ble_eq_true rfl⟩ rfl rfl (Nat.le_of_ble_eq_true rfl) dX1_fitsTippings_43 rfl ?_
        refine v_icmp_eq 49 51 h dX1_fitsTippings_46 rfl (by decide) (fun h => ?_) (fun h => ?_)
        · refine v_sub [0, 1, 2, 3] rfl ?_
          exact q_X1_fitsTippings_51 σ k0 l1 l2 hk0 r (b_X1_fitsTippings_2 σ k0 l1 l2 f) ih l3 h
        · refine v_iconst 50 0 dX1_fitsTippings_49 kc_i_0 rfl ?_
          exact v_zretP h rfl (Or.inl rfl) dX1_fitsTippings_50
set_option maxRecDepth 100000 in
set_option maxHeartbeats 4000000 in
theorem c_X1_fitsTippings {g : Cx} {σ : Sg} (k0 : Nat) (l1 : Int32) (l2 : Int32) (hk0 : kK k0 = 4) (r : Int32) (h : f_X1_fitsTippings σ k0 l1 l2 = some r) : ∀ l, MetF l yX1_fitsTippings wsX1_fitsTippings rm_X1_fitsTippings g [.ref (g.1 k0), .int l1, .int l2] σ (some (.int r)) σ := by
  refine MetF.of (own0 := RX1) (lv0 := [(0, .ref (g.1 k0)), (1, .int l1), (2, .int l2)]) rfl cl_X1_fitsTippings (by decide) (Nat.le_of_ble_eq_true rfl) rfl ?_
  unfold f_X1_fitsTippings at h
  refine v_iconst 1 0 dX1_fitsTippings_0 kc_i_0 rfl ?_
  refine v_istore_n 2 dX1_fitsTippings_1 rfl (by decide) rfl rfl ?_
  refine v_sub [1, 2, 3, 0] rfl ?_
  exact q_X1_fitsTippings_2 σ k0 l1 l2 hk0 r FU 0 h
-- static int kindsOfBalance(WidowWeight$Market, int);
abbrev rm_X1_kindsOfBalance : Room := { frames := 5, cells := 0, slots := 0, locals := 108 }
theorem cl_X1_kindsOfBalance : Cl yX1_kindsOfBalance wsX1_kindsOfBalance cX1_kindsOfBalance 4 (some .int) rm_X1_kindsOfBalance 2 := ⟨⟨_, rfl⟩, rfl, rfl, by decide +kernel, by decide +kernel, by decide +kernel⟩
theorem in_X1_kindsOfBalance_0 : ∀ w ∈ wsX30, w ∈ wsX1_kindsOfBalance := fun w h => List.mem_cons_of_mem _ (List.mem_append_left _ (List.mem_append_right _ h))
def b_X1_kindsOfBalance_28 (σ : Sg) (k0 : Nat) (l1 : Int32) (c4 : Int32 → Int32 → Option Int32) (l2 : Int32) (l3 : Int32) : Option Int32 := nam (l3 + 1) fun x2 => c4 l2 x2
def b_X1_kindsOfBalance_4 (σ : Sg) (k0 : Nat) (l1 : Int32) : Nat → Int32 → Int32 → Option Int32
  | 0, _, _ => none
  | f + 1, l2, l3 => (if 6 ≤ l3 then (some (l2)) else (f_X1_fitsTippings σ (k0 + 13) l1 l3).bind fun x1 => (if x1 = 0 then b_X1_kindsOfBalance_28 σ k0 l1 (b_X1_kindsOfBalance_4 σ k0 l1 f) l2 l3 else nam (l2 ||| (1 <<< (l3 &&& 31))) fun x3 => b_X1_kindsOfBalance_28 σ k0 l1 (b_X1_kindsOfBalance_4 σ k0 l1 f) x3 l3))
def f_X1_kindsOfBalance (σ : Sg) (k0 : Nat) (l1 : Int32) : Option Int32 := b_X1_kindsOfBalance_4 σ k0 l1 FU 0 0
set_option maxRecDepth 100000 in
set_option maxHeartbeats 4000000 in
theorem q_X1_kindsOfBalance_28 {g : Cx} (σ : Sg) (k0 : Nat) (l1 : Int32) (hk0 : kK k0 = 0) (r : Int32) (c4 : Int32 → Int32 → Option Int32) (hc4 : ∀ l2 : Int32, ∀ l3 : Int32, c4 l2 l3 = some r → V g cX1_kindsOfBalance RX1 wsX1_kindsOfBalance 4 (some .int) rm_X1_kindsOfBalance (some (.int r)) σ σ 4 [(0, .ref (g.1 k0)), (1, .int l1), (2, .int l2), (3, .int l3)] []) : ∀ l2 : Int32, ∀ l3 : Int32, b_X1_kindsOfBalance_28 σ k0 l1 c4 l2 l3 = some r → V g cX1_kindsOfBalance RX1 wsX1_kindsOfBalance 4 (some .int) rm_X1_kindsOfBalance (some (.int r)) σ σ 28 [(0, .ref (g.1 k0)), (1, .int l1), (2, .int l2), (3, .int l3)] [] := by
  intro l2 l3 h
  unfold b_X1_kindsOfBalance_28 at h
  refine v_iincN 31 3 h dX1_kindsOfBalance_28 rfl kc_i_1 (by decide) rfl (fun _ => rfl) (fun x2 h => ?_)
  refine v_goto 4 dX1_kindsOfBalance_31 (by decide) ?_
  refine v_sub [1, 2, 3, 0] rfl ?_
  exact hc4 l2 x2 h
set_option maxRecDepth 100000 in
set_option maxHeartbeats 4000000 in
theorem q_X1_kindsOfBalance_4 {g : Cx} (σ : Sg) (k0 : Nat) (l1 : Int32) (hk0 : kK k0 = 0) (r : Int32) : ∀ f : Nat, ∀ l2 : Int32, ∀ l3 : Int32, b_X1_kindsOfBalance_4 σ k0 l1 f l2 l3 = some r → V g cX1_kindsOfBalance RX1 wsX1_kindsOfBalance 4 (some .int) rm_X1_kindsOfBalance (some (.int r)) σ σ 4 [(0, .ref (g.1 k0)), (1, .int l1), (2, .int l2), (3, .int l3)] [] := by
  intro f
  induction f with
  | zero =>
    intro l2 l3 h
    cases h
  | succ f ih =>
    intro l2 l3 h
    rw [b_X1_kindsOfBalance_4] at h
    refine v_iload_n 5 3 dX1_kindsOfBalance_4 rfl rfl rfl ?_
    refine v_bipush 7 6 dX1_kindsOfBalance_5 kc_b_6 rfl ?_
    refine v_icmp_ge 10 34 h dX1_kindsOfBalance_7 rfl (by decide) (fun h => ?_) (fun h => ?_)
    · refine v_iload_n 35 2 dX1_kindsOfBalance_34 rfl rfl rfl ?_
      exact v_iretP h rfl dX1_kindsOfBalance_35
    · refine v_aload_n 11 0 dX1_kindsOfBalance_10 rfl rfl rfl ?_
      refine vg_0_6 14 (k0 + 13) hk0 in_X1_kindsOfBalance_0 (mem_at 1 rfl) rfl dX1_kindsOfBalance_11 rfl ?_
      refine v_iload_n 15 1 dX1_kindsOfBalance_14 rfl rfl rfl ?_
      refine v_iload_n 16 3 dX1_kindsOfBalance_15 rfl rfl rfl ?_
      obtain ⟨x1, h0, h⟩ := ob h
      refine v_cS 19 [.ref (g.1 (k0 + 13)), .int l1, .int l3] (c_X1_fitsTippings (k0 + 13) l1 l3 (kf_0_6 hk0) _ h0) cl_X1_fitsTippings gX1_kindsOfBalance_X1_fitsTippings ⟨Nat.le_of_ble_eq_true rfl, Nat.le_of_ble_eq_true rfl⟩ rfl rfl (Nat.le_of_ble_eq_true rfl) dX1_kindsOfBalance_16 rfl ?_
      refine v_if_eq 22 28 h dX1_kindsOfBalance_19 rfl (by decide) (fun h => ?_) (fun h => ?_)
      · refine v_sub [0, 1, 2, 3] rfl ?_
        exact q_X1_kindsOfBalance_28 σ k0 l1 hk0 r (b_X1_kindsOfBalance_4 σ k0 l1 f) ih l2 l3 h
      · refine v_iload_n 23 2 dX1_kindsOfBalance_22 rfl rfl rfl ?_
        refine v_iconst 24 1 dX1_kindsOfBalance_23 kc_i_1 rfl ?_
        refine v_iload_n 25 3 dX1_kindsOfBalance_24 rfl rfl rfl ?_
        refine v_ishl 26 dX1_kindsOfBalance_25 rfl ?_
        refine v_ior 27 dX1_kindsOfBalance_26 rfl ?_
        refine v_istoreN_n 28 h dX1_kindsOfBalance_27 rfl (by decide) rfl (fun _ => rfl) (fun x3 h => ?_)
        refine v_sub [1, 2, 0, 3] rfl ?_
        exact q_X1_kindsOfBalance_28 σ k0 l1 hk0 r (b_X1_kindsOfBalance_4 σ k0 l1 f) ih x3 l3 h
set_option maxRecDepth 100000 in
set_option maxHeartbeats 4000000 in
theorem c_X1_kindsOfBalance {g : Cx} {σ : Sg} (k0 : Nat) (l1 : Int32) (hk0 : kK k0 = 0) (r : Int32) (h : f_X1_kindsOfBalance σ k0 l1 = some r) : ∀ l, MetF l yX1_kindsOfBalance wsX1_kindsOfBalance rm_X1_kindsOfBalance g [.ref (g.1 k0), .int l1] σ (some (.int r)) σ := by
  refine MetF.of (own0 := RX1) (lv0 := [(0, .ref (g.1 k0)), (1, .int l1)]) rfl cl_X1_kindsOfBalance (by decide) (Nat.le_of_ble_eq_true rfl) rfl ?_
  unfold f_X1_kindsOfBalance at h
  refine v_iconst 1 0 dX1_kindsOfBalance_0 kc_i_0 rfl ?_
  refine v_istore_n 2 dX1_kindsOfBalance_1 rfl (by decide) rfl rfl ?_
  refine v_iconst 3 0 dX1_kindsOfBalance_2 kc_i_0 rfl ?_
  refine v_istore_n 4 dX1_kindsOfBalance_3 rfl (by decide) rfl rfl ?_
  refine v_sub [2, 3, 1, 0] rfl ?_
  exact q_X1_kindsOfBalance_4 σ k0 l1 hk0 r FU 0 0 h
-- static int kindsOfKeeper(WidowWeight$Market, int);
abbrev rm_X1_kindsOfKeeper : Room := { frames := 3, cells := 0, slots := 0, locals := 66 }
theorem cl_X1_kindsOfKeeper : Cl yX1_kindsOfKeeper wsX1_kindsOfKeeper cX1_kindsOfKeeper 4 (some .int) rm_X1_kindsOfKeeper 2 := ⟨⟨_, rfl⟩, rfl, rfl, by decide +kernel, by decide +kernel, by decide +kernel⟩
theorem in_X1_kindsOfKeeper_0 : ∀ w ∈ wsX30, w ∈ wsX1_kindsOfKeeper := fun w h => List.mem_cons_of_mem _ (List.mem_append_left _ (List.mem_append_right _ h))
def b_X1_kindsOfKeeper_28 (σ : Sg) (k0 : Nat) (l1 : Int32) (c4 : Int32 → Int32 → Option Int32) (l2 : Int32) (l3 : Int32) : Option Int32 := nam (l3 + 1) fun x2 => c4 l2 x2
def b_X1_kindsOfKeeper_4 (σ : Sg) (k0 : Nat) (l1 : Int32) : Nat → Int32 → Int32 → Option Int32
  | 0, _, _ => none
  | f + 1, l2, l3 => (if 6 ≤ l3 then (some (l2)) else (f_X1_fitsNotes σ (k0 + 11) l1 l3).bind fun x1 => (if x1 = 0 then b_X1_kindsOfKeeper_28 σ k0 l1 (b_X1_kindsOfKeeper_4 σ k0 l1 f) l2 l3 else nam (l2 ||| (1 <<< (l3 &&& 31))) fun x3 => b_X1_kindsOfKeeper_28 σ k0 l1 (b_X1_kindsOfKeeper_4 σ k0 l1 f) x3 l3))
def f_X1_kindsOfKeeper (σ : Sg) (k0 : Nat) (l1 : Int32) : Option Int32 := b_X1_kindsOfKeeper_4 σ k0 l1 FU 0 0
set_option maxRecDepth 100000 in
set_option maxHeartbeats 4000000 in
theorem q_X1_kindsOfKeeper_28 {g : Cx} (σ : Sg) (k0 : Nat) (l1 : Int32) (hk0 : kK k0 = 0) (r : Int32) (c4 : Int32 → Int32 → Option Int32) (hc4 : ∀ l2 : Int32, ∀ l3 : Int32, c4 l2 l3 = some r → V g cX1_kindsOfKeeper RX1 wsX1_kindsOfKeeper 4 (some .int) rm_X1_kindsOfKeeper (some (.int r)) σ σ 4 [(0, .ref (g.1 k0)), (1, .int l1), (2, .int l2), (3, .int l3)] []) : ∀ l2 : Int32, ∀ l3 : Int32, b_X1_kindsOfKeeper_28 σ k0 l1 c4 l2 l3 = some r → V g cX1_kindsOfKeeper RX1 wsX1_kindsOfKeeper 4 (some .int) rm_X1_kindsOfKeeper (some (.int r)) σ σ 28 [(0, .ref (g.1 k0)), (1, .int l1), (2, .int l2), (3, .int l3)] [] := by
  intro l2 l3 h
  unfold b_X1_kindsOfKeeper_28 at h
  refine v_iincN 31 3 h dX1_kindsOfKeeper_28 rfl kc_i_1 (by decide) rfl (fun _ => rfl) (fun x2 h => ?_)
  refine v_goto 4 dX1_kindsOfKeeper_31 (by decide) ?_
  refine v_sub [1, 2, 3, 0] rfl ?_
  exact hc4 l2 x2 h
set_option maxRecDepth 100000 in
set_option maxHeartbeats 4000000 in
theorem q_X1_kindsOfKeeper_4 {g : Cx} (σ : Sg) (k0 : Nat) (l1 : Int32) (hk0 : kK k0 = 0) (r : Int32) : ∀ f : Nat, ∀ l2 : Int32, ∀ l3 : Int32, b_X1_kindsOfKeeper_4 σ k0 l1 f l2 l3 = some r → V g cX1_kindsOfKeeper RX1 wsX1_kindsOfKeeper 4 (some .int) rm_X1_kindsOfKeeper (some (.int r)) σ σ 4 [(0, .ref (g.1 k0)), (1, .int l1), (2, .int l2), (3, .int l3)] [] := by
  intro f
  induction f with
  | zero =>
    intro l2 l3 h
    cases h
  | succ f ih =>
    intro l2 l3 h
    rw [b_X1_kindsOfKeeper_4] at h
    refine v_iload_n 5 3 dX1_kindsOfKeeper_4 rfl rfl rfl ?_
    refine v_bipush 7 6 dX1_kindsOfKeeper_5 kc_b_6 rfl ?_
    refine v_icmp_ge 10 34 h dX1_kindsOfKeeper_7 rfl (by decide) (fun h => ?_) (fun h => ?_)
    · refine v_iload_n 35 2 dX1_kindsOfKeeper_34 rfl rfl rfl ?_
      exact v_iretP h rfl dX1_kindsOfKeeper_35
    · refine v_aload_n 11 0 dX1_kindsOfKeeper_10 rfl rfl rfl ?_
      refine vg_0_5 14 (k0 + 11) hk0 in_X1_kindsOfKeeper_0 (mem_at 1 rfl) rfl dX1_kindsOfKeeper_11 rfl ?_
      refine v_iload_n 15 1 dX1_kindsOfKeeper_14 rfl rfl rfl ?_
      refine v_iload_n 16 3 dX1_kindsOfKeeper_15 rfl rfl rfl ?_
      obtain ⟨x1, h0, h⟩ := ob h
      refine v_cS 19 [.ref (g.1 (k0 + 11)), .int l1, .int l3] (c_X1_fitsNotes (k0 + 11) l1 l3 (kf_0_5 hk0) _ h0) cl_X1_fitsNotes gX1_kindsOfKeeper_X1_fitsNotes ⟨Nat.le_of_ble_eq_true rfl, Nat.le_of_ble_eq_true rfl⟩ rfl rfl (Nat.le_of_ble_eq_true rfl) dX1_kindsOfKeeper_16 rfl ?_
      refine v_if_eq 22 28 h dX1_kindsOfKeeper_19 rfl (by decide) (fun h => ?_) (fun h => ?_)
      · refine v_sub [0, 1, 2, 3] rfl ?_
        exact q_X1_kindsOfKeeper_28 σ k0 l1 hk0 r (b_X1_kindsOfKeeper_4 σ k0 l1 f) ih l2 l3 h
      · refine v_iload_n 23 2 dX1_kindsOfKeeper_22 rfl rfl rfl ?_
        refine v_iconst 24 1 dX1_kindsOfKeeper_23 kc_i_1 rfl ?_
        refine v_iload_n 25 3 dX1_kindsOfKeeper_24 rfl rfl rfl ?_
        refine v_ishl 26 dX1_kindsOfKeeper_25 rfl ?_
        refine v_ior 27 dX1_kindsOfKeeper_26 rfl ?_
        refine v_istoreN_n 28 h dX1_kindsOfKeeper_27 rfl (by decide) rfl (fun _ => rfl) (fun x3 h => ?_)
        refine v_sub [1, 2, 0, 3] rfl ?_
        exact q_X1_kindsOfKeeper_28 σ k0 l1 hk0 r (b_X1_kindsOfKeeper_4 σ k0 l1 f) ih x3 l3 h
set_option maxRecDepth 100000 in
set_option maxHeartbeats 4000000 in
theorem c_X1_kindsOfKeeper {g : Cx} {σ : Sg} (k0 : Nat) (l1 : Int32) (hk0 : kK k0 = 0) (r : Int32) (h : f_X1_kindsOfKeeper σ k0 l1 = some r) : ∀ l, MetF l yX1_kindsOfKeeper wsX1_kindsOfKeeper rm_X1_kindsOfKeeper g [.ref (g.1 k0), .int l1] σ (some (.int r)) σ := by
  refine MetF.of (own0 := RX1) (lv0 := [(0, .ref (g.1 k0)), (1, .int l1)]) rfl cl_X1_kindsOfKeeper (by decide) (Nat.le_of_ble_eq_true rfl) rfl ?_
  unfold f_X1_kindsOfKeeper at h
  refine v_iconst 1 0 dX1_kindsOfKeeper_0 kc_i_0 rfl ?_
  refine v_istore_n 2 dX1_kindsOfKeeper_1 rfl (by decide) rfl rfl ?_
  refine v_iconst 3 0 dX1_kindsOfKeeper_2 kc_i_0 rfl ?_
  refine v_istore_n 4 dX1_kindsOfKeeper_3 rfl (by decide) rfl rfl ?_
  refine v_sub [2, 3, 1, 0] rfl ?_
  exact q_X1_kindsOfKeeper_4 σ k0 l1 hk0 r FU 0 0 h
-- static int mayBeOff(WidowWeight$Market, int);
abbrev rm_X1_mayBeOff : Room := { frames := 4, cells := 0, slots := 0, locals := 94 }
theorem cl_X1_mayBeOff : Cl yX1_mayBeOff wsX1_mayBeOff cX1_mayBeOff 4 (some .int) rm_X1_mayBeOff 2 := ⟨⟨_, rfl⟩, rfl, rfl, by decide +kernel, by decide +kernel, by decide +kernel⟩
def b_X1_mayBeOff_27 (σ : Sg) (k0 : Nat) (l1 : Int32) (c4 : Int32 → Int32 → Option Int32) (l2 : Int32) (l3 : Int32) : Option Int32 := nam (l3 + 1) fun x2 => c4 l2 x2
def b_X1_mayBeOff_4 (σ : Sg) (k0 : Nat) (l1 : Int32) : Nat → Int32 → Int32 → Option Int32
  | 0, _, _ => none
  | f + 1, l2, l3 => (if (f_X3_keeperCount σ k0) ≤ l3 then (some (l2)) else (f_X1_fitsReadings σ k0 l3 l1).bind fun x1 => (if x1 = 0 then b_X1_mayBeOff_27 σ k0 l1 (b_X1_mayBeOff_4 σ k0 l1 f) l2 l3 else nam (l2 ||| (1 <<< (l3 &&& 31))) fun x3 => b_X1_mayBeOff_27 σ k0 l1 (b_X1_mayBeOff_4 σ k0 l1 f) x3 l3))
def f_X1_mayBeOff (σ : Sg) (k0 : Nat) (l1 : Int32) : Option Int32 := b_X1_mayBeOff_4 σ k0 l1 FU 0 0
set_option maxRecDepth 100000 in
set_option maxHeartbeats 4000000 in
theorem q_X1_mayBeOff_27 {g : Cx} (σ : Sg) (k0 : Nat) (l1 : Int32) (hk0 : kK k0 = 0) (r : Int32) (c4 : Int32 → Int32 → Option Int32) (hc4 : ∀ l2 : Int32, ∀ l3 : Int32, c4 l2 l3 = some r → V g cX1_mayBeOff RX1 wsX1_mayBeOff 4 (some .int) rm_X1_mayBeOff (some (.int r)) σ σ 4 [(0, .ref (g.1 k0)), (1, .int l1), (2, .int l2), (3, .int l3)] []) : ∀ l2 : Int32, ∀ l3 : Int32, b_X1_mayBeOff_27 σ k0 l1 c4 l2 l3 = some r → V g cX1_mayBeOff RX1 wsX1_mayBeOff 4 (some .int) rm_X1_mayBeOff (some (.int r)) σ σ 27 [(0, .ref (g.1 k0)), (1, .int l1), (2, .int l2), (3, .int l3)] [] := by
  intro l2 l3 h
  unfold b_X1_mayBeOff_27 at h
  refine v_iincN 30 3 h dX1_mayBeOff_27 rfl kc_i_1 (by decide) rfl (fun _ => rfl) (fun x2 h => ?_)
  refine v_goto 4 dX1_mayBeOff_30 (by decide) ?_
  refine v_sub [1, 2, 3, 0] rfl ?_
  exact hc4 l2 x2 h
set_option maxRecDepth 100000 in
set_option maxHeartbeats 4000000 in
theorem q_X1_mayBeOff_4 {g : Cx} (σ : Sg) (k0 : Nat) (l1 : Int32) (hk0 : kK k0 = 0) (r : Int32) : ∀ f : Nat, ∀ l2 : Int32, ∀ l3 : Int32, b_X1_mayBeOff_4 σ k0 l1 f l2 l3 = some r → V g cX1_mayBeOff RX1 wsX1_mayBeOff 4 (some .int) rm_X1_mayBeOff (some (.int r)) σ σ 4 [(0, .ref (g.1 k0)), (1, .int l1), (2, .int l2), (3, .int l3)] [] := by
  intro f
  induction f with
  | zero =>
    intro l2 l3 h
    cases h
  | succ f ih =>
    intro l2 l3 h
    rw [b_X1_mayBeOff_4] at h
    refine v_iload_n 5 3 dX1_mayBeOff_4 rfl rfl rfl ?_
    refine v_aload_n 6 0 dX1_mayBeOff_5 rfl rfl rfl ?_
    refine v_cV 9 0 [] hk0 rfl (c_X3_keeperCount k0 hk0) cl_X3_keeperCount gX1_mayBeOff_X3_keeperCount rfl ⟨Nat.le_of_ble_eq_true rfl, Nat.le_of_ble_eq_true rfl⟩ rfl rfl (Nat.le_of_ble_eq_true rfl) dX1_mayBeOff_6 rfl ?_
    refine v_icmp_ge 12 33 h dX1_mayBeOff_9 rfl (by decide) (fun h => ?_) (fun h => ?_)
    · refine v_iload_n 34 2 dX1_mayBeOff_33 rfl rfl rfl ?_
      exact v_iretP h rfl dX1_mayBeOff_34
    · refine v_aload_n 13 0 dX1_mayBeOff_12 rfl rfl rfl ?_
      refine v_iload_n 14 3 dX1_mayBeOff_13 rfl rfl rfl ?_
      refine v_iload_n 15 1 dX1_mayBeOff_14 rfl rfl rfl ?_
      obtain ⟨x1, h0, h⟩ := ob h
      refine v_cS 18 [.ref (g.1 k0), .int l3, .int l1] (c_X1_fitsReadings k0 l3 l1 hk0 _ h0) cl_X1_fitsReadings gX1_mayBeOff_X1_fitsReadings ⟨Nat.le_of_ble_eq_true rfl, Nat.le_of_ble_eq_true rfl⟩ rfl rfl (Nat.le_of_ble_eq_true rfl) dX1_mayBeOff_15 rfl ?_
      refine v_if_eq 21 27 h dX1_mayBeOff_18 rfl (by decide) (fun h => ?_) (fun h => ?_)
      · refine v_sub [0, 1, 2, 3] rfl ?_
        exact q_X1_mayBeOff_27 σ k0 l1 hk0 r (b_X1_mayBeOff_4 σ k0 l1 f) ih l2 l3 h
      · refine v_iload_n 22 2 dX1_mayBeOff_21 rfl rfl rfl ?_
        refine v_iconst 23 1 dX1_mayBeOff_22 kc_i_1 rfl ?_
        refine v_iload_n 24 3 dX1_mayBeOff_23 rfl rfl rfl ?_
        refine v_ishl 25 dX1_mayBeOff_24 rfl ?_
        refine v_ior 26 dX1_mayBeOff_25 rfl ?_
        refine v_istoreN_n 27 h dX1_mayBeOff_26 rfl (by decide) rfl (fun _ => rfl) (fun x3 h => ?_)
        refine v_sub [1, 2, 0, 3] rfl ?_
        exact q_X1_mayBeOff_27 σ k0 l1 hk0 r (b_X1_mayBeOff_4 σ k0 l1 f) ih x3 l3 h
set_option maxRecDepth 100000 in
set_option maxHeartbeats 4000000 in
theorem c_X1_mayBeOff {g : Cx} {σ : Sg} (k0 : Nat) (l1 : Int32) (hk0 : kK k0 = 0) (r : Int32) (h : f_X1_mayBeOff σ k0 l1 = some r) : ∀ l, MetF l yX1_mayBeOff wsX1_mayBeOff rm_X1_mayBeOff g [.ref (g.1 k0), .int l1] σ (some (.int r)) σ := by
  refine MetF.of (own0 := RX1) (lv0 := [(0, .ref (g.1 k0)), (1, .int l1)]) rfl cl_X1_mayBeOff (by decide) (Nat.le_of_ble_eq_true rfl) rfl ?_
  unfold f_X1_mayBeOff at h
  refine v_iconst 1 0 dX1_mayBeOff_0 kc_i_0 rfl ?_
  refine v_istore_n 2 dX1_mayBeOff_1 rfl (by decide) rfl rfl ?_
  refine v_iconst 3 0 dX1_mayBeOff_2 kc_i_0 rfl ?_
  refine v_istore_n 4 dX1_mayBeOff_3 rfl (by decide) rfl rfl ?_
  refine v_sub [2, 3, 1, 0] rfl ?_
  exact q_X1_mayBeOff_4 σ k0 l1 hk0 r FU 0 0 h
-- private void keepWay();
abbrev rm_X5_keepWay : Room := { frames := 1, cells := 0, slots := 0, locals := 21 }
theorem cl_X5_keepWay : Cl yX5_keepWay wsX5_keepWay cX5_keepWay 1 none rm_X5_keepWay 0 := ⟨⟨_, rfl⟩, rfl, rfl, by decide +kernel, by decide +kernel, by decide +kernel⟩
theorem in_X5_keepWay_2 : ∀ w ∈ wsX50, w ∈ wsX5_keepWay := fun w h => List.mem_cons_of_mem _ (List.mem_append_right _ h)
def b_X5_keepWay_68 (σ : Sg) (t0 : Int32) : Option Sg := nam (stI σ 99 4 t0) fun s4 => nam (stI s4 99 0 1) fun s5 => (some s5)
def b_X5_keepWay_42 (σ : Sg) : Option Sg := (if (rI σ 99 0) = 0 then b_X5_keepWay_68 σ (rI σ 99 9) else b_X5_keepWay_68 σ (if (rI σ 99 9) < (rI σ 99 4) then (rI σ 99 9) else (rI σ 99 4)))
def b_X5_keepWay_18 (σ : Sg) : Option Sg := nam (stI σ 99 1 (rI σ 99 6)) fun s1 => nam (stI s1 99 2 (rI s1 99 7)) fun s2 => nam (stI s2 99 3 (rI s2 99 9)) fun s3 => b_X5_keepWay_42 s3
def f_X5_keepWay (σ : Sg) : Option Sg := (if (rI σ 99 0) = 0 then b_X5_keepWay_18 σ else (if (rI σ 99 1) ≤ (rI σ 99 6) then b_X5_keepWay_42 σ else b_X5_keepWay_18 σ))
set_option maxRecDepth 100000 in
set_option maxHeartbeats 4000000 in
theorem q_X5_keepWay_68 {g : Cx} (τ : Sg) : ∀ σ : Sg, ∀ t0 : Int32, b_X5_keepWay_68 σ t0 = some τ → V g cX5_keepWay RX5 wsX5_keepWay 1 none rm_X5_keepWay none τ σ 68 [(0, .ref (g.1 99))] [.int t0, .ref (g.1 99)] := by
  intro σ t0 h
  unfold b_X5_keepWay_68 at h
  refine vp_2_4 71 h (rfl : kK 99 = 2) in_X5_keepWay_2 (mem_at 8 rfl) dX5_keepWay_68 rfl (fun s4 h => ?_)
  refine v_aload_n 72 0 dX5_keepWay_71 rfl rfl rfl ?_
  refine v_iconst 73 1 dX5_keepWay_72 kc_i_1 rfl ?_
  refine vp_2_0 76 h (rfl : kK 99 = 2) in_X5_keepWay_2 (mem_at 1 rfl) (Or.inr rfl) dX5_keepWay_73 rfl (fun s5 h => ?_)
  exact v_vretS h rfl dX5_keepWay_76
set_option maxRecDepth 100000 in
set_option maxHeartbeats 4000000 in
theorem q_X5_keepWay_42 {g : Cx} (τ : Sg) : ∀ σ : Sg, b_X5_keepWay_42 σ = some τ → V g cX5_keepWay RX5 wsX5_keepWay 1 none rm_X5_keepWay none τ σ 42 [(0, .ref (g.1 99))] [] := by
  intro σ h
  unfold b_X5_keepWay_42 at h
  refine v_aload_n 43 0 dX5_keepWay_42 rfl rfl rfl ?_
  refine v_aload_n 44 0 dX5_keepWay_43 rfl rfl rfl ?_
  refine vg_2_0 47 (rfl : kK 99 = 2) in_X5_keepWay_2 (mem_at 1 rfl) dX5_keepWay_44 rfl ?_
  refine v_if_eq 50 64 h dX5_keepWay_47 rfl (by decide) (fun h => ?_) (fun h => ?_)
  · refine v_aload_n 65 0 dX5_keepWay_64 rfl rfl rfl ?_
    refine vg_2_9 68 (rfl : kK 99 = 2) in_X5_keepWay_2 (mem_at 6 rfl) dX5_keepWay_65 rfl ?_
    refine v_sub [0] rfl ?_
    exact q_X5_keepWay_68 τ σ (rI σ 99 9) h
  · refine v_aload_n 51 0 dX5_keepWay_50 rfl rfl rfl ?_
    refine vg_2_4 54 (rfl : kK 99 = 2) in_X5_keepWay_2 (mem_at 8 rfl) dX5_keepWay_51 rfl ?_
    refine v_aload_n 55 0 dX5_keepWay_54 rfl rfl rfl ?_
    refine vg_2_9 58 (rfl : kK 99 = 2) in_X5_keepWay_2 (mem_at 6 rfl) dX5_keepWay_55 rfl ?_
    refine v_min 61 (mem_at 9 rfl) (mem_at 10 rfl) (mem_at 11 rfl) (mem_at 12 rfl) ⟨Nat.le_of_ble_eq_true rfl, Nat.le_of_ble_eq_true rfl⟩ (Nat.le_of_ble_eq_true rfl) dX5_keepWay_58 rfl ?_
    refine v_goto 68 dX5_keepWay_61 (by decide) ?_
    refine v_sub [0] rfl ?_
    exact q_X5_keepWay_68 τ σ (if (rI σ 99 9) < (rI σ 99 4) then (rI σ 99 9) else (rI σ 99 4)) h
set_option maxRecDepth 100000 in
set_option maxHeartbeats 4000000 in
theorem q_X5_keepWay_18 {g : Cx} (τ : Sg) : ∀ σ : Sg, b_X5_keepWay_18 σ = some τ → V g cX5_keepWay RX5 wsX5_keepWay 1 none rm_X5_keepWay none τ σ 18 [(0, .ref (g.1 99))] [] := by
  intro σ h
  unfold b_X5_keepWay_18 at h
  refine v_aload_n 19 0 dX5_keepWay_18 rfl rfl rfl ?_
  refine v_aload_n 20 0 dX5_keepWay_19 rfl rfl rfl ?_
  refine vg_2_6 23 (rfl : kK 99 = 2) in_X5_keepWay_2 (mem_at 2 rfl) dX5_keepWay_20 rfl ?_
  refine vp_2_1 26 h (rfl : kK 99 = 2) in_X5_keepWay_2 (mem_at 3 rfl) dX5_keepWay_23 rfl (fun s1 h => ?_)
  refine v_aload_n 27 0 dX5_keepWay_26 rfl rfl rfl ?_
  refine v_aload_n 28 0 dX5_keepWay_27 rfl rfl rfl ?_
  refine vg_2_7 31 (rfl : kK 99 = 2) in_X5_keepWay_2 (mem_at 4 rfl) dX5_keepWay_28 rfl ?_
  refine vp_2_2 34 h (rfl : kK 99 = 2) in_X5_keepWay_2 (mem_at 5 rfl) dX5_keepWay_31 rfl (fun s2 h => ?_)
  refine v_aload_n 35 0 dX5_keepWay_34 rfl rfl rfl ?_
  refine v_aload_n 36 0 dX5_keepWay_35 rfl rfl rfl ?_
  refine vg_2_9 39 (rfl : kK 99 = 2) in_X5_keepWay_2 (mem_at 6 rfl) dX5_keepWay_36 rfl ?_
  refine vp_2_3 42 h (rfl : kK 99 = 2) in_X5_keepWay_2 (mem_at 7 rfl) dX5_keepWay_39 rfl (fun s3 h => ?_)
  refine v_sub [0] rfl ?_
  exact q_X5_keepWay_42 τ s3 h
set_option maxRecDepth 100000 in
set_option maxHeartbeats 4000000 in
theorem c_X5_keepWay {g : Cx} {σ : Sg} (τ : Sg) (h : f_X5_keepWay σ = some τ) : ∀ l, MetF l yX5_keepWay wsX5_keepWay rm_X5_keepWay g [.ref (g.1 99)] σ none τ := by
  refine MetF.of (own0 := RX5) (lv0 := [(0, .ref (g.1 99))]) rfl cl_X5_keepWay (by decide) (Nat.le_of_ble_eq_true rfl) rfl ?_
  unfold f_X5_keepWay at h
  refine v_aload_n 1 0 dX5_keepWay_0 rfl rfl rfl ?_
  refine vg_2_0 4 (rfl : kK 99 = 2) in_X5_keepWay_2 (mem_at 1 rfl) dX5_keepWay_1 rfl ?_
  refine v_if_eq 7 18 h dX5_keepWay_4 rfl (by decide) (fun h => ?_) (fun h => ?_)
  · refine v_sub [0] rfl ?_
    exact q_X5_keepWay_18 τ σ h
  · refine v_aload_n 8 0 dX5_keepWay_7 rfl rfl rfl ?_
    refine vg_2_6 11 (rfl : kK 99 = 2) in_X5_keepWay_2 (mem_at 2 rfl) dX5_keepWay_8 rfl ?_
    refine v_aload_n 12 0 dX5_keepWay_11 rfl rfl rfl ?_
    refine vg_2_1 15 (rfl : kK 99 = 2) in_X5_keepWay_2 (mem_at 3 rfl) dX5_keepWay_12 rfl ?_
    refine v_icmp_ge 18 42 h dX5_keepWay_15 rfl (by decide) (fun h => ?_) (fun h => ?_)
    · refine v_sub [0] rfl ?_
      exact q_X5_keepWay_42 τ σ h
    · refine v_sub [0] rfl ?_
      exact q_X5_keepWay_18 τ σ h
-- private static int pullOf(int);
abbrev rm_X5_pullOf : Room := { frames := 0, cells := 0, slots := 0, locals := 0 }
theorem cl_X5_pullOf : Cl yX5_pullOf wsX5_pullOf cX5_pullOf 1 (some .int) rm_X5_pullOf 1 := ⟨⟨_, rfl⟩, rfl, rfl, by decide +kernel, by decide +kernel, by decide +kernel⟩
def f_X5_pullOf (l0 : Int32) : Int32 := (if l0 = 1 then (-1) else (if l0 = 2 then 1 else 0))
set_option maxRecDepth 100000 in
set_option maxHeartbeats 4000000 in
theorem c_X5_pullOf {g : Cx} {σ : Sg} (l0 : Int32) : ∀ l, MetF l yX5_pullOf wsX5_pullOf rm_X5_pullOf g [.int l0] σ (some (.int (f_X5_pullOf l0))) σ := by
  have main : ∀ r : Int32, f_X5_pullOf l0 = r → ∀ l, MetF l yX5_pullOf wsX5_pullOf rm_X5_pullOf g [.int l0] σ (some (.int r)) σ := by
    intro r h
    refine MetF.of (own0 := RX5) (lv0 := [(0, .int l0)]) rfl cl_X5_pullOf (by decide) (Nat.le_of_ble_eq_true rfl) rfl ?_
    unfold f_X5_pullOf at h
    refine v_iload_n 1 0 dX5_pullOf_0 rfl rfl rfl ?_
    refine v_iconst 2 1 dX5_pullOf_1 kc_i_1 rfl ?_
    refine v_icmp_ne 5 9 h dX5_pullOf_2 rfl (by decide) (fun h => ?_) (fun h => ?_)
    · refine v_iload_n 10 0 dX5_pullOf_9 rfl rfl rfl ?_
      refine v_iconst 11 2 dX5_pullOf_10 kc_i_2 rfl ?_
      refine v_icmp_ne 14 18 h dX5_pullOf_11 rfl (by decide) (fun h => ?_) (fun h => ?_)
      · refine v_iconst 19 0 dX5_pullOf_18 kc_i_0 rfl ?_
        exact v_iretT h rfl dX5_pullOf_19
      · refine v_iconst 15 1 dX5_pullOf_14 kc_i_1 rfl ?_
        refine v_goto 19 dX5_pullOf_15 (by decide) ?_
        exact v_iretT h rfl dX5_pullOf_19
    · refine v_iconst 6 (-1) dX5_pullOf_5 kc_i_m1 rfl ?_
      refine v_goto 19 dX5_pullOf_6 (by decide) ?_
      exact v_iretT h rfl dX5_pullOf_19
  exact main _ rfl
-- private void move(int, int, int, int);
abbrev rm_X5_move : Room := { frames := 1, cells := 0, slots := 0, locals := 22 }
theorem cl_X5_move : Cl yX5_move wsX5_move cX5_move 8 none rm_X5_move 4 := ⟨⟨_, rfl⟩, rfl, rfl, by decide +kernel, by decide +kernel, by decide +kernel⟩
theorem in_X5_move_2 : ∀ w ∈ wsX50, w ∈ wsX5_move := fun w h => List.mem_cons_of_mem _ (List.mem_append_left _ (List.mem_append_right _ h))
def b_X5_move_79 (l1 : Int32) (l2 : Int32) (l3 : Int32) (l4 : Int32) (σ : Sg) (l5 : Int32) (l6 : Int32) (l7 : Int32) (t0 : Int32) (t1 : Int32) : Option Sg := nam (stI σ 99 6 (t1 + t0)) fun s4 => nam (stI s4 99 7 ((rI s4 99 7) + (l2 * (l6 - l5)))) fun s5 => nam (stI s5 99 8 ((rI s5 99 8) + (l7 * l3))) fun s6 => nam (stI s6 99 9 ((rI s6 99 9) + (l7 * l4))) fun s7 => (some s7)
def b_X5_move_30 (l1 : Int32) (l2 : Int32) (l3 : Int32) (l4 : Int32) (σ : Sg) (l5 : Int32) (t0 : Int32) : Option Sg := nam ((f_X5_pullOf t0) - (f_X5_pullOf l5)) fun x2 => (f_X7_put σ 100 l1 t0).bind fun s3 => (if l5 = 0 then b_X5_move_79 l1 l2 l3 l4 s3 l5 t0 x2 1 (rI s3 99 6) else (if t0 = 0 then b_X5_move_79 l1 l2 l3 l4 s3 l5 t0 x2 (-1) (rI s3 99 6) else b_X5_move_79 l1 l2 l3 l4 s3 l5 t0 x2 0 (rI s3 99 6)))
def f_X5_move (σ : Sg) (l1 : Int32) (l2 : Int32) (l3 : Int32) (l4 : Int32) : Option Sg := (f_X7_at σ 100 l1).bind fun x1 => (if x1 = 0 then b_X5_move_30 l1 l2 l3 l4 σ x1 1 else (if x1 = 1 then b_X5_move_30 l1 l2 l3 l4 σ x1 2 else b_X5_move_30 l1 l2 l3 l4 σ x1 0))
set_option maxRecDepth 100000 in
set_option maxHeartbeats 4000000 in
theorem q_X5_move_79 {g : Cx} (l1 : Int32) (l2 : Int32) (l3 : Int32) (l4 : Int32) (τ : Sg) : ∀ σ : Sg, ∀ l5 : Int32, ∀ l6 : Int32, ∀ l7 : Int32, ∀ t0 : Int32, ∀ t1 : Int32, b_X5_move_79 l1 l2 l3 l4 σ l5 l6 l7 t0 t1 = some τ → V g cX5_move RX5 wsX5_move 8 none rm_X5_move none τ σ 79 [(0, .ref (g.1 99)), (2, .int l2), (3, .int l3), (4, .int l4), (5, .int l5), (6, .int l6), (7, .int l7)] [.int t0, .int t1, .ref (g.1 99)] := by
  intro σ l5 l6 l7 t0 t1 h
  unfold b_X5_move_79 at h
  refine v_iadd 80 dX5_move_79 rfl ?_
  refine vp_2_6 83 h (rfl : kK 99 = 2) in_X5_move_2 (mem_at 2 rfl) dX5_move_80 rfl (fun s4 h => ?_)
  refine v_aload_n 84 0 dX5_move_83 rfl rfl rfl ?_
  refine v_dup 85 dX5_move_84 rfl rfl ?_
  refine vg_2_7 88 (rfl : kK 99 = 2) in_X5_move_2 (mem_at 3 rfl) dX5_move_85 rfl ?_
  refine v_iload_n 89 1 dX5_move_88 rfl rfl rfl ?_
  refine v_iload 91 5 dX5_move_89 rfl rfl ?_
  refine v_iload 93 4 dX5_move_91 rfl rfl ?_
  refine v_isub 94 dX5_move_93 rfl ?_
  refine v_imul 95 dX5_move_94 rfl ?_
  refine v_iadd 96 dX5_move_95 rfl ?_
  refine vp_2_7 99 h (rfl : kK 99 = 2) in_X5_move_2 (mem_at 3 rfl) dX5_move_96 rfl (fun s5 h => ?_)
  refine v_aload_n 100 0 dX5_move_99 rfl rfl rfl ?_
  refine v_dup 101 dX5_move_100 rfl rfl ?_
  refine vg_2_8 104 (rfl : kK 99 = 2) in_X5_move_2 (mem_at 4 rfl) dX5_move_101 rfl ?_
  refine v_iload 106 6 dX5_move_104 rfl rfl ?_
  refine v_iload_n 107 2 dX5_move_106 rfl rfl rfl ?_
  refine v_imul 108 dX5_move_107 rfl ?_
  refine v_iadd 109 dX5_move_108 rfl ?_
  refine vp_2_8 112 h (rfl : kK 99 = 2) in_X5_move_2 (mem_at 4 rfl) dX5_move_109 rfl (fun s6 h => ?_)
  refine v_aload_n 113 0 dX5_move_112 rfl rfl rfl ?_
  refine v_dup 114 dX5_move_113 rfl rfl ?_
  refine vg_2_9 117 (rfl : kK 99 = 2) in_X5_move_2 (mem_at 5 rfl) dX5_move_114 rfl ?_
  refine v_iload 119 6 dX5_move_117 rfl rfl ?_
  refine v_iload 121 3 dX5_move_119 rfl rfl ?_
  refine v_imul 122 dX5_move_121 rfl ?_
  refine v_iadd 123 dX5_move_122 rfl ?_
  refine vp_2_9 126 h (rfl : kK 99 = 2) in_X5_move_2 (mem_at 5 rfl) dX5_move_123 rfl (fun s7 h => ?_)
  exact v_vretS h rfl dX5_move_126
set_option maxRecDepth 100000 in
set_option maxHeartbeats 4000000 in
theorem q_X5_move_30 {g : Cx} (l1 : Int32) (l2 : Int32) (l3 : Int32) (l4 : Int32) (τ : Sg) : ∀ σ : Sg, ∀ l5 : Int32, ∀ t0 : Int32, b_X5_move_30 l1 l2 l3 l4 σ l5 t0 = some τ → V g cX5_move RX5 wsX5_move 8 none rm_X5_move none τ σ 30 [(0, .ref (g.1 99)), (1, .int l1), (2, .int l2), (3, .int l3), (4, .int l4), (5, .int l5)] [.int t0] := by
  intro σ l5 t0 h
  unfold b_X5_move_30 at h
  refine v_istore 32 dX5_move_30 (by decide) rfl rfl ?_
  refine v_iload 34 0 dX5_move_32 rfl rfl ?_
  refine v_cS 37 [.int t0] (c_X5_pullOf t0) cl_X5_pullOf gX5_move_X5_pullOf ⟨Nat.le_of_ble_eq_true rfl, Nat.le_of_ble_eq_true rfl⟩ rfl rfl (Nat.le_of_ble_eq_true rfl) dX5_move_34 rfl ?_
  refine v_iload 39 6 dX5_move_37 rfl rfl ?_
  refine v_cS 42 [.int l5] (c_X5_pullOf l5) cl_X5_pullOf gX5_move_X5_pullOf ⟨Nat.le_of_ble_eq_true rfl, Nat.le_of_ble_eq_true rfl⟩ rfl rfl (Nat.le_of_ble_eq_true rfl) dX5_move_39 rfl ?_
  refine v_isub 43 dX5_move_42 rfl ?_
  refine v_istoreN 45 h dX5_move_43 (by decide) rfl (fun _ => rfl) (fun x2 h => ?_)
  refine v_aload_n 46 2 dX5_move_45 rfl rfl rfl ?_
  refine vg_2_5 49 100 (rfl : kK 99 = 2) in_X5_move_2 (mem_at 1 rfl) rfl dX5_move_46 rfl ?_
  refine v_iload_n 50 3 dX5_move_49 rfl rfl rfl ?_
  refine v_iload 52 1 dX5_move_50 rfl rfl ?_
  obtain ⟨s3, h0, h⟩ := ob h
  refine v_cV 55 4 [.int l1, .int t0] (rfl : kK 100 = 4) rfl (c_X7_put 100 l1 t0 (rfl : kK 100 = 4) _ h0) cl_X7_put gX5_move_X7_put rfl ⟨Nat.le_of_ble_eq_true rfl, Nat.le_of_ble_eq_true rfl⟩ rfl rfl (Nat.le_of_ble_eq_true rfl) dX5_move_52 rfl ?_
  refine v_aload_n 56 2 dX5_move_55 rfl rfl rfl ?_
  refine v_dup 57 dX5_move_56 rfl rfl ?_
  refine vg_2_6 60 (rfl : kK 99 = 2) in_X5_move_2 (mem_at 2 rfl) dX5_move_57 rfl ?_
  refine v_iload 62 7 dX5_move_60 rfl rfl ?_
  refine v_if_ne 65 69 h dX5_move_62 rfl (by decide) (fun h => ?_) (fun h => ?_)
  · refine v_iload 71 1 dX5_move_69 rfl rfl ?_
    refine v_if_ne 74 78 h dX5_move_71 rfl (by decide) (fun h => ?_) (fun h => ?_)
    · refine v_iconst 79 0 dX5_move_78 kc_i_0 rfl ?_
      refine v_sub [2, 4, 5, 6, 7, 1, 0] rfl ?_
      exact q_X5_move_79 l1 l2 l3 l4 τ s3 l5 t0 x2 0 (rI s3 99 6) h
    · refine v_iconst 75 (-1) dX5_move_74 kc_i_m1 rfl ?_
      refine v_goto 79 dX5_move_75 (by decide) ?_
      refine v_sub [2, 4, 5, 6, 7, 1, 0] rfl ?_
      exact q_X5_move_79 l1 l2 l3 l4 τ s3 l5 t0 x2 (-1) (rI s3 99 6) h
  · refine v_iconst 66 1 dX5_move_65 kc_i_1 rfl ?_
    refine v_goto 79 dX5_move_66 (by decide) ?_
    refine v_sub [2, 4, 5, 6, 7, 1, 0] rfl ?_
    exact q_X5_move_79 l1 l2 l3 l4 τ s3 l5 t0 x2 1 (rI s3 99 6) h
set_option maxRecDepth 100000 in
set_option maxHeartbeats 4000000 in
theorem c_X5_move {g : Cx} {σ : Sg} (l1 : Int32) (l2 : Int32) (l3 : Int32) (l4 : Int32) (τ : Sg) (h : f_X5_move σ l1 l2 l3 l4 = some τ) : ∀ l, MetF l yX5_move wsX5_move rm_X5_move g [.ref (g.1 99), .int l1, .int l2, .int l3, .int l4] σ none τ := by
  refine MetF.of (own0 := RX5) (lv0 := [(0, .ref (g.1 99)), (1, .int l1), (2, .int l2), (3, .int l3), (4, .int l4)]) rfl cl_X5_move (by decide) (Nat.le_of_ble_eq_true rfl) rfl ?_
  unfold f_X5_move at h
  refine v_aload_n 1 0 dX5_move_0 rfl rfl rfl ?_
  refine vg_2_5 4 100 (rfl : kK 99 = 2) in_X5_move_2 (mem_at 1 rfl) rfl dX5_move_1 rfl ?_
  refine v_iload_n 5 1 dX5_move_4 rfl rfl rfl ?_
  obtain ⟨x1, h0, h⟩ := ob h
  refine v_cV 8 4 [.int l1] (rfl : kK 100 = 4) rfl (c_X7_at 100 l1 (rfl : kK 100 = 4) _ h0) cl_X7_at gX5_move_X7_at rfl ⟨Nat.le_of_ble_eq_true rfl, Nat.le_of_ble_eq_true rfl⟩ rfl rfl (Nat.le_of_ble_eq_true rfl) dX5_move_5 rfl ?_
  refine v_istore 10 dX5_move_8 (by decide) rfl rfl ?_
  refine v_iload 12 0 dX5_move_10 rfl rfl ?_
  refine v_if_ne 15 19 h dX5_move_12 rfl (by decide) (fun h => ?_) (fun h => ?_)
  · refine v_iload 21 0 dX5_move_19 rfl rfl ?_
    refine v_iconst 22 1 dX5_move_21 kc_i_1 rfl ?_
    refine v_icmp_ne 25 29 h dX5_move_22 rfl (by decide) (fun h => ?_) (fun h => ?_)
    · refine v_iconst 30 0 dX5_move_29 kc_i_0 rfl ?_
      refine v_sub [1, 2, 3, 4, 5, 0] rfl ?_
      exact q_X5_move_30 l1 l2 l3 l4 τ σ x1 0 h
    · refine v_iconst 26 2 dX5_move_25 kc_i_2 rfl ?_
      refine v_goto 30 dX5_move_26 (by decide) ?_
      refine v_sub [1, 2, 3, 4, 5, 0] rfl ?_
      exact q_X5_move_30 l1 l2 l3 l4 τ σ x1 2 h
  · refine v_iconst 16 1 dX5_move_15 kc_i_1 rfl ?_
    refine v_goto 30 dX5_move_16 (by decide) ?_
    refine v_sub [1, 2, 3, 4, 5, 0] rfl ?_
    exact q_X5_move_30 l1 l2 l3 l4 τ σ x1 1 h
-- private boolean layNext(WidowWeight$Market, int);
abbrev rm_X5_layNext : Room := { frames := 2, cells := 0, slots := 0, locals := 49 }
theorem cl_X5_layNext : Cl yX5_layNext wsX5_layNext cX5_layNext 6 (some .boolean) rm_X5_layNext 2 := ⟨⟨_, rfl⟩, rfl, rfl, by decide +kernel, by decide +kernel, by decide +kernel⟩
theorem in_X5_layNext_2 : ∀ w ∈ wsX50, w ∈ wsX5_layNext := fun w h => List.mem_cons_of_mem _ (List.mem_append_left _ (List.mem_append_left _ (List.mem_append_left _ (List.mem_append_right _ h))))
theorem in_X5_layNext_0 : ∀ w ∈ wsX30, w ∈ wsX5_layNext := fun w h => List.mem_cons_of_mem _ (List.mem_append_left _ (List.mem_append_left _ (List.mem_append_right _ h)))
theorem in_X5_layNext_1 : ∀ w ∈ wsX40, w ∈ wsX5_layNext := fun w h => List.mem_cons_of_mem _ (List.mem_append_left _ (List.mem_append_right _ h))
def b_X5_layNext_78 (k1 : Nat) (l2 : Int32) (c5 : Sg → Int32 → Int32 → Option (Int32 × Sg)) (σ : Sg) (l3 : Int32) (l4 : Int32) : Option (Int32 × Sg) := nam (l3 * 3) fun x1 => nam (l4 + 1) fun x2 => c5 σ x1 x2
def b_X5_layNext_41 (k1 : Nat) (l2 : Int32) (c5 : Sg → Int32 → Int32 → Option (Int32 × Sg)) (σ : Sg) (l3 : Int32) (l4 : Int32) (t0 : Int32) : Option (Int32 × Sg) := (f_X7_at σ (k1 + 5) l4).bind fun x4 => (f_X7_at σ (k1 + 17 + 1) l4).bind fun x5 => (f_X5_move σ l4 l3 x4 x5).bind fun s6 => (if t0 = 0 then (some (1, s6)) else b_X5_layNext_78 k1 l2 c5 s6 l3 l4)
def b_X5_layNext_5 (k1 : Nat) (l2 : Int32) : Nat → Sg → Int32 → Int32 → Option (Int32 × Sg)
  | 0, _, _, _ => none
  | f + 1, σ, l3, l4 => (if (f_X3_keeperCount σ k1) ≤ l4 then (some (0, σ)) else (if (f_X11_hasBit l2 l4) = 0 then b_X5_layNext_78 k1 l2 (b_X5_layNext_5 k1 l2 f) σ l3 l4 else (f_X7_at σ 100 l4).bind fun x3 => (if x3 = 2 then b_X5_layNext_41 k1 l2 (b_X5_layNext_5 k1 l2 f) σ l3 l4 1 else b_X5_layNext_41 k1 l2 (b_X5_layNext_5 k1 l2 f) σ l3 l4 0)))
def f_X5_layNext (σ : Sg) (k1 : Nat) (l2 : Int32) : Option (Int32 × Sg) := b_X5_layNext_5 k1 l2 FU σ 1 0
set_option maxRecDepth 100000 in
set_option maxHeartbeats 4000000 in
theorem q_X5_layNext_78 {g : Cx} (k1 : Nat) (l2 : Int32) (hk1 : kK k1 = 0) (r : Int32) (τ : Sg) (c5 : Sg → Int32 → Int32 → Option (Int32 × Sg)) (hc5 : ∀ σ : Sg, ∀ l3 : Int32, ∀ l4 : Int32, c5 σ l3 l4 = some (r, τ) → V g cX5_layNext RX5 wsX5_layNext 6 (some .boolean) rm_X5_layNext (some (.int r)) τ σ 5 [(0, .ref (g.1 99)), (1, .ref (g.1 k1)), (2, .int l2), (3, .int l3), (4, .int l4)] []) : ∀ σ : Sg, ∀ l3 : Int32, ∀ l4 : Int32, b_X5_layNext_78 k1 l2 c5 σ l3 l4 = some (r, τ) → V g cX5_layNext RX5 wsX5_layNext 6 (some .boolean) rm_X5_layNext (some (.int r)) τ σ 78 [(0, .ref (g.1 99)), (1, .ref (g.1 k1)), (2, .int l2), (3, .int l3), (4, .int l4)] [] := by
  intro σ l3 l4 h
  unfold b_X5_layNext_78 at h
  refine v_iload_n 79 3 dX5_layNext_78 rfl rfl rfl ?_
  refine v_iconst 80 3 dX5_layNext_79 kc_i_3 rfl ?_
  refine v_imul 81 dX5_layNext_80 rfl ?_
  refine v_istoreN_n 82 h dX5_layNext_81 rfl (by decide) rfl (fun _ => rfl) (fun x1 h => ?_)
  refine v_iincN 85 4 h dX5_layNext_82 rfl kc_i_1 (by decide) rfl (fun _ => rfl) (fun x2 h => ?_)
  refine v_goto 5 dX5_layNext_85 (by decide) ?_
  refine v_sub [2, 3, 4, 1, 0] rfl ?_
  exact hc5 σ x1 x2 h
set_option maxRecDepth 100000 in
set_option maxHeartbeats 4000000 in
theorem q_X5_layNext_41 {g : Cx} (k1 : Nat) (l2 : Int32) (hk1 : kK k1 = 0) (r : Int32) (τ : Sg) (c5 : Sg → Int32 → Int32 → Option (Int32 × Sg)) (hc5 : ∀ σ : Sg, ∀ l3 : Int32, ∀ l4 : Int32, c5 σ l3 l4 = some (r, τ) → V g cX5_layNext RX5 wsX5_layNext 6 (some .boolean) rm_X5_layNext (some (.int r)) τ σ 5 [(0, .ref (g.1 99)), (1, .ref (g.1 k1)), (2, .int l2), (3, .int l3), (4, .int l4)] []) : ∀ σ : Sg, ∀ l3 : Int32, ∀ l4 : Int32, ∀ t0 : Int32, (t0 = 0 ∨ t0 = 1) → b_X5_layNext_41 k1 l2 c5 σ l3 l4 t0 = some (r, τ) → V g cX5_layNext RX5 wsX5_layNext 6 (some .boolean) rm_X5_layNext (some (.int r)) τ σ 41 [(0, .ref (g.1 99)), (1, .ref (g.1 k1)), (2, .int l2), (3, .int l3), (4, .int l4)] [.int t0] := by
  intro σ l3 l4 t0 hz0 h
  unfold b_X5_layNext_41 at h
  refine v_istore 43 dX5_layNext_41 (by decide) rfl rfl ?_
  refine v_aload_n 44 1 dX5_layNext_43 rfl rfl rfl ?_
  refine v_iload 46 5 dX5_layNext_44 rfl rfl ?_
  refine v_iload_n 47 4 dX5_layNext_46 rfl rfl rfl ?_
  refine v_aload_n 48 2 dX5_layNext_47 rfl rfl rfl ?_
  refine vg_0_2 51 (k1 + 5) hk1 in_X5_layNext_0 (mem_at 2 rfl) rfl dX5_layNext_48 rfl ?_
  refine v_iload 53 5 dX5_layNext_51 rfl rfl ?_
  obtain ⟨x4, h0, h⟩ := ob h
  refine v_cV 56 4 [.int l4] (kf_0_2 hk1) rfl (c_X7_at (k1 + 5) l4 (kf_0_2 hk1) _ h0) cl_X7_at gX5_layNext_X7_at rfl ⟨Nat.le_of_ble_eq_true rfl, Nat.le_of_ble_eq_true rfl⟩ rfl rfl (Nat.le_of_ble_eq_true rfl) dX5_layNext_53 rfl ?_
  refine v_aload_n 57 2 dX5_layNext_56 rfl rfl rfl ?_
  refine vg_0_8 60 (k1 + 17) hk1 in_X5_layNext_0 (mem_at 3 rfl) rfl dX5_layNext_57 rfl ?_
  refine vg_1_2 63 (k1 + 17 + 1) (kf_0_8 hk1) in_X5_layNext_1 (mem_at 4 rfl) rfl dX5_layNext_60 rfl ?_
  refine v_iload 65 5 dX5_layNext_63 rfl rfl ?_
  obtain ⟨x5, h0, h⟩ := ob h
  refine v_cV 68 4 [.int l4] (kf_1_2 (kf_0_8 hk1)) rfl (c_X7_at (k1 + 17 + 1) l4 (kf_1_2 (kf_0_8 hk1)) _ h0) cl_X7_at gX5_layNext_X7_at rfl ⟨Nat.le_of_ble_eq_true rfl, Nat.le_of_ble_eq_true rfl⟩ rfl rfl (Nat.le_of_ble_eq_true rfl) dX5_layNext_65 rfl ?_
  obtain ⟨s6, h0, h⟩ := ob h
  refine v_cV 71 2 [.int l4, .int l3, .int x4, .int x5] (rfl : kK 99 = 2) rfl (c_X5_move l4 l3 x4 x5 _ h0) cl_X5_move gX5_layNext_X5_move rfl ⟨Nat.le_of_ble_eq_true rfl, Nat.le_of_ble_eq_true rfl⟩ rfl rfl (Nat.le_of_ble_eq_true rfl) dX5_layNext_68 rfl ?_
  refine v_iload 73 0 dX5_layNext_71 rfl rfl ?_
  refine v_if_ne 76 78 h dX5_layNext_73 rfl (by decide) (fun h => ?_) (fun h => ?_)
  · refine v_sub [1, 2, 3, 4, 5] rfl ?_
    exact q_X5_layNext_78 k1 l2 hk1 r τ c5 hc5 s6 l3 l4 h
  · refine v_iconst 77 1 dX5_layNext_76 kc_i_1 rfl ?_
    exact v_zretS h rfl (Or.inr rfl) dX5_layNext_77
set_option maxRecDepth 100000 in
set_option maxHeartbeats 4000000 in
theorem q_X5_layNext_5 {g : Cx} (k1 : Nat) (l2 : Int32) (hk1 : kK k1 = 0) (r : Int32) (τ : Sg) : ∀ f : Nat, ∀ σ : Sg, ∀ l3 : Int32, ∀ l4 : Int32, b_X5_layNext_5 k1 l2 f σ l3 l4 = some (r, τ) → V g cX5_layNext RX5 wsX5_layNext 6 (some .boolean) rm_X5_layNext (some (.int r)) τ σ 5 [(0, .ref (g.1 99)), (1, .ref (g.1 k1)), (2, .int l2), (3, .int l3), (4, .int l4)] [] := by
  intro f
  induction f with
  | zero =>
    intro σ l3 l4 h
    cases h
  | succ f ih =>
    intro σ l3 l4 h
    rw [b_X5_layNext_5] at h
    refine v_iload 7 4 dX5_layNext_5 rfl rfl ?_
    refine v_aload_n 8 1 dX5_layNext_7 rfl rfl rfl ?_
    refine v_cV 11 0 [] hk1 rfl (c_X3_keeperCount k1 hk1) cl_X3_keeperCount gX5_layNext_X3_keeperCount rfl ⟨Nat.le_of_ble_eq_true rfl, Nat.le_of_ble_eq_true rfl⟩ rfl rfl (Nat.le_of_ble_eq_true rfl) dX5_layNext_8 rfl ?_
    refine v_icmp_ge 14 88 h dX5_layNext_11 rfl (by decide) (fun h => ?_) (fun h => ?_)
    · refine v_iconst 89 0 dX5_layNext_88 kc_i_0 rfl ?_
      exact v_zretS h rfl (Or.inl rfl) dX5_layNext_89
    · refine v_iload_n 15 2 dX5_layNext_14 rfl rfl rfl ?_
      refine v_iload 17 4 dX5_layNext_15 rfl rfl ?_
      refine v_cN 20 [.int l2, .int l4] (c_X11_hasBit l2 l4) cl_X11_hasBit gX5_layNext_X11_hasBit_n77 nw_X5_77 (mem_at 17 rfl) (mem_at 18 rfl) ⟨Nat.le_of_ble_eq_true rfl, Nat.le_of_ble_eq_true rfl⟩ rfl rfl (Nat.le_of_ble_eq_true rfl) dX5_layNext_17 rfl ?_
      refine v_if_eq 23 78 h dX5_layNext_20 rfl (by decide) (fun h => ?_) (fun h => ?_)
      · refine v_sub [0, 1, 2, 3, 4] rfl ?_
        exact q_X5_layNext_78 k1 l2 hk1 r τ (b_X5_layNext_5 k1 l2 f) ih σ l3 l4 h
      · refine v_aload_n 24 0 dX5_layNext_23 rfl rfl rfl ?_
        refine vg_2_5 27 100 (rfl : kK 99 = 2) in_X5_layNext_2 (mem_at 1 rfl) rfl dX5_layNext_24 rfl ?_
        refine v_iload 29 4 dX5_layNext_27 rfl rfl ?_
        obtain ⟨x3, h0, h⟩ := ob h
        refine v_cV 32 4 [.int l4] (rfl : kK 100 = 4) rfl (c_X7_at 100 l4 (rfl : kK 100 = 4) _ h0) cl_X7_at gX5_layNext_X7_at rfl ⟨Nat.le_of_ble_eq_true rfl, Nat.le_of_ble_eq_true rfl⟩ rfl rfl (Nat.le_of_ble_eq_true rfl) dX5_layNext_29 rfl ?_
        refine v_iconst 33 2 dX5_layNext_32 kc_i_2 rfl ?_
        refine v_icmp_ne 36 40 h dX5_layNext_33 rfl (by decide) (fun h => ?_) (fun h => ?_)
        · refine v_iconst 41 0 dX5_layNext_40 kc_i_0 rfl ?_
          refine v_sub [0, 1, 2, 3, 4] rfl ?_
          exact q_X5_layNext_41 k1 l2 hk1 r τ (b_X5_layNext_5 k1 l2 f) ih σ l3 l4 0 (Or.inl rfl) h
        · refine v_iconst 37 1 dX5_layNext_36 kc_i_1 rfl ?_
          refine v_goto 41 dX5_layNext_37 (by decide) ?_
          refine v_sub [0, 1, 2, 3, 4] rfl ?_
          exact q_X5_layNext_41 k1 l2 hk1 r τ (b_X5_layNext_5 k1 l2 f) ih σ l3 l4 1 (Or.inr rfl) h
set_option maxRecDepth 100000 in
set_option maxHeartbeats 4000000 in
theorem c_X5_layNext {g : Cx} {σ : Sg} (k1 : Nat) (l2 : Int32) (hk1 : kK k1 = 0) (r : Int32) (τ : Sg) (h : f_X5_layNext σ k1 l2 = some (r, τ)) : ∀ l, MetF l yX5_layNext wsX5_layNext rm_X5_layNext g [.ref (g.1 99), .ref (g.1 k1), .int l2] σ (some (.int r)) τ := by
  refine MetF.of (own0 := RX5) (lv0 := [(0, .ref (g.1 99)), (1, .ref (g.1 k1)), (2, .int l2)]) rfl cl_X5_layNext (by decide) (Nat.le_of_ble_eq_true rfl) rfl ?_
  unfold f_X5_layNext at h
  refine v_iconst 1 1 dX5_layNext_0 kc_i_1 rfl ?_
  refine v_istore_n 2 dX5_layNext_1 rfl (by decide) rfl rfl ?_
  refine v_iconst 3 0 dX5_layNext_2 kc_i_0 rfl ?_
  refine v_istore 5 dX5_layNext_3 (by decide) rfl rfl ?_
  refine v_sub [2, 3, 4, 1, 0] rfl ?_
  exact q_X5_layNext_5 k1 l2 hk1 r τ FU σ 1 0 h
-- private void layNothing();
abbrev rm_X5_layNothing : Room := { frames := 1, cells := 0, slots := 0, locals := 21 }
theorem cl_X5_layNothing : Cl yX5_layNothing wsX5_layNothing cX5_layNothing 2 none rm_X5_layNothing 0 := ⟨⟨_, rfl⟩, rfl, rfl, by decide +kernel, by decide +kernel, by decide +kernel⟩
theorem in_X5_layNothing_2 : ∀ w ∈ wsX50, w ∈ wsX5_layNothing := fun w h => List.mem_cons_of_mem _ (List.mem_append_left _ (List.mem_append_right _ h))
def b_X5_layNothing_9 : Nat → Sg → Int32 → Option Sg
  | 0, _, _ => none
  | f + 1, σ, l1 => (if 7 ≤ l1 then nam (stI σ 99 6 0) fun s2 => nam (stI s2 99 7 0) fun s3 => nam (stI s3 99 8 0) fun s4 => nam (stI s4 99 9 0) fun s5 => (some s5) else (f_X7_add σ 100 0).bind fun s6 => nam (l1 + 1) fun x7 => b_X5_layNothing_9 f s6 x7)
def f_X5_layNothing (σ : Sg) : Option Sg := (f_X7_restart σ 100).bind fun s1 => b_X5_layNothing_9 FU s1 0
set_option maxRecDepth 100000 in
set_option maxHeartbeats 4000000 in
theorem q_X5_layNothing_9 {g : Cx} (τ : Sg) : ∀ f : Nat, ∀ σ : Sg, ∀ l1 : Int32, b_X5_layNothing_9 f σ l1 = some τ → V g cX5_layNothing RX5 wsX5_layNothing 2 none rm_X5_layNothing none τ σ 9 [(0, .ref (g.1 99)), (1, .int l1)] [] := by
  intro f
  induction f with
  | zero =>
    intro σ l1 h
    cases h
  | succ f ih =>
    intro σ l1 h
    rw [b_X5_layNothing_9] at h
    refine v_iload_n 10 1 dX5_layNothing_9 rfl rfl rfl ?_
    refine v_bipush 12 7 dX5_layNothing_10 kc_b_7 rfl ?_
    refine v_icmp_ge 15 29 h dX5_layNothing_12 rfl (by decide) (fun h => ?_) (fun h => ?_)
    · refine v_aload_n 30 0 dX5_layNothing_29 rfl rfl rfl ?_
      refine v_iconst 31 0 dX5_layNothing_30 kc_i_0 rfl ?_
      refine vp_2_6 34 h (rfl : kK 99 = 2) in_X5_layNothing_2 (mem_at 2 rfl) dX5_layNothing_31 rfl (fun s2 h => ?_)
      refine v_aload_n 35 0 dX5_layNothing_34 rfl rfl rfl ?_
      refine v_iconst 36 0 dX5_layNothing_35 kc_i_0 rfl ?_
      refine vp_2_7 39 h (rfl : kK 99 = 2) in_X5_layNothing_2 (mem_at 3 rfl) dX5_layNothing_36 rfl (fun s3 h => ?_)
      refine v_aload_n 40 0 dX5_layNothing_39 rfl rfl rfl ?_
      refine v_iconst 41 0 dX5_layNothing_40 kc_i_0 rfl ?_
      refine vp_2_8 44 h (rfl : kK 99 = 2) in_X5_layNothing_2 (mem_at 4 rfl) dX5_layNothing_41 rfl (fun s4 h => ?_)
      refine v_aload_n 45 0 dX5_layNothing_44 rfl rfl rfl ?_
      refine v_iconst 46 0 dX5_layNothing_45 kc_i_0 rfl ?_
      refine vp_2_9 49 h (rfl : kK 99 = 2) in_X5_layNothing_2 (mem_at 5 rfl) dX5_layNothing_46 rfl (fun s5 h => ?_)
      exact v_vretS h rfl dX5_layNothing_49
    · refine v_aload_n 16 0 dX5_layNothing_15 rfl rfl rfl ?_
      refine vg_2_5 19 100 (rfl : kK 99 = 2) in_X5_layNothing_2 (mem_at 1 rfl) rfl dX5_layNothing_16 rfl ?_
      refine v_iconst 20 0 dX5_layNothing_19 kc_i_0 rfl ?_
      obtain ⟨s6, h0, h⟩ := ob h
      refine v_cV 23 4 [.int 0] (rfl : kK 100 = 4) rfl (c_X7_add 100 0 (rfl : kK 100 = 4) _ h0) cl_X7_add gX5_layNothing_X7_add rfl ⟨Nat.le_of_ble_eq_true rfl, Nat.le_of_ble_eq_true rfl⟩ rfl rfl (Nat.le_of_ble_eq_true rfl) dX5_layNothing_20 rfl ?_
      refine v_iincN 26 1 h dX5_layNothing_23 rfl kc_i_1 (by decide) rfl (fun _ => rfl) (fun x7 h => ?_)
      refine v_goto 9 dX5_layNothing_26 (by decide) ?_
      refine v_sub [1, 0] rfl ?_
      exact ih s6 x7 h
set_option maxRecDepth 100000 in
set_option maxHeartbeats 4000000 in
theorem c_X5_layNothing {g : Cx} {σ : Sg} (τ : Sg) (h : f_X5_layNothing σ = some τ) : ∀ l, MetF l yX5_layNothing wsX5_layNothing rm_X5_layNothing g [.ref (g.1 99)] σ none τ := by
  refine MetF.of (own0 := RX5) (lv0 := [(0, .ref (g.1 99))]) rfl cl_X5_layNothing (by decide) (Nat.le_of_ble_eq_true rfl) rfl ?_
  unfold f_X5_layNothing at h
  refine v_aload_n 1 0 dX5_layNothing_0 rfl rfl rfl ?_
  refine vg_2_5 4 100 (rfl : kK 99 = 2) in_X5_layNothing_2 (mem_at 1 rfl) rfl dX5_layNothing_1 rfl ?_
  obtain ⟨s1, h0, h⟩ := ob h
  refine v_cV 7 4 [] (rfl : kK 100 = 4) rfl (c_X7_restart 100 (rfl : kK 100 = 4) _ h0) cl_X7_restart gX5_layNothing_X7_restart rfl ⟨Nat.le_of_ble_eq_true rfl, Nat.le_of_ble_eq_true rfl⟩ rfl rfl (Nat.le_of_ble_eq_true rfl) dX5_layNothing_4 rfl ?_
  refine v_iconst 8 0 dX5_layNothing_7 kc_i_0 rfl ?_
  refine v_istore_n 9 dX5_layNothing_8 rfl (by decide) rfl rfl ?_
  refine v_sub [1, 0] rfl ?_
  exact q_X5_layNothing_9 τ FU s1 0 h
-- void weigh(WidowWeight$Market, int, int);
abbrev rm_X5_weigh : Room := { frames := 3, cells := 0, slots := 0, locals := 74 }
theorem cl_X5_weigh : Cl yX5_weigh wsX5_weigh cX5_weigh 5 none rm_X5_weigh 3 := ⟨⟨_, rfl⟩, rfl, rfl, by decide +kernel, by decide +kernel, by decide +kernel⟩
theorem in_X5_weigh_2 : ∀ w ∈ wsX50, w ∈ wsX5_weigh := fun w h => List.mem_cons_of_mem _ (List.mem_append_left _ (List.mem_append_left _ (List.mem_append_left _ (List.mem_append_right _ h))))
def b_X5_weigh_41 (k1 : Nat) (l2 : Int32) (l3 : Int32) (c12 : Sg → Int32 → Option Sg) (σ : Sg) (l4 : Int32) : Option Sg := nam (l4 + 1) fun x5 => c12 σ x5
def b_X5_weigh_12 (k1 : Nat) (l2 : Int32) (l3 : Int32) : Nat → Sg → Int32 → Option Sg
  | 0, _, _ => none
  | f + 1, σ, l4 => (if 2187 ≤ l4 then (some σ) else bnd (f_X5_layNext σ k1 l3) fun x3 s4 => (if x3 = 0 then (some s4) else (if (rI s4 99 8) = l2 then (f_X5_keepWay s4).bind fun s6 => b_X5_weigh_41 k1 l2 l3 (b_X5_weigh_12 k1 l2 l3 f) s6 l4 else b_X5_weigh_41 k1 l2 l3 (b_X5_weigh_12 k1 l2 l3 f) s4 l4)))
def f_X5_weigh (σ : Sg) (k1 : Nat) (l2 : Int32) (l3 : Int32) : Option Sg := nam (stI σ 99 0 0) fun s1 => (f_X5_layNothing s1).bind fun s2 => b_X5_weigh_12 k1 l2 l3 FU s2 0
set_option maxRecDepth 100000 in
set_option maxHeartbeats 4000000 in
theorem q_X5_weigh_41 {g : Cx} (k1 : Nat) (l2 : Int32) (l3 : Int32) (hk1 : kK k1 = 0) (τ : Sg) (c12 : Sg → Int32 → Option Sg) (hc12 : ∀ σ : Sg, ∀ l4 : Int32, c12 σ l4 = some τ → V g cX5_weigh RX5 wsX5_weigh 5 none rm_X5_weigh none τ σ 12 [(0, .ref (g.1 99)), (1, .ref (g.1 k1)), (2, .int l2), (3, .int l3), (4, .int l4)] []) : ∀ σ : Sg, ∀ l4 : Int32, b_X5_weigh_41 k1 l2 l3 c12 σ l4 = some τ → V g cX5_weigh RX5 wsX5_weigh 5 none rm_X5_weigh none τ σ 41 [(0, .ref (g.1 99)), (1, .ref (g.1 k1)), (2, .int l2), (3, .int l3), (4, .int l4)] [] := by
  intro σ l4 h
  unfold b_X5_weigh_41 at h
  refine v_iincN 44 4 h dX5_weigh_41 rfl kc_i_1 (by decide) rfl (fun _ => rfl) (fun x5 h => ?_)
  refine v_goto 12 dX5_weigh_44 (by decide) ?_
  refine v_sub [1, 2, 3, 4, 0] rfl ?_
  exact hc12 σ x5 h
set_option maxRecDepth 100000 in
set_option maxHeartbeats 4000000 in
theorem q_X5_weigh_12 {g : Cx} (k1 : Nat) (l2 : Int32) (l3 : Int32) (hk1 : kK k1 = 0) (τ : Sg) : ∀ f : Nat, ∀ σ : Sg, ∀ l4 : Int32, b_X5_weigh_12 k1 l2 l3 f σ l4 = some τ → V g cX5_weigh RX5 wsX5_weigh 5 none rm_X5_weigh none τ σ 12 [(0, .ref (g.1 99)), (1, .ref (g.1 k1)), (2, .int l2), (3, .int l3), (4, .int l4)] [] := by
  intro f
  induction f with
  | zero =>
    intro σ l4 h
    cases h
  | succ f ih =>
    intro σ l4 h
    rw [b_X5_weigh_12] at h
    refine v_iload 14 4 dX5_weigh_12 rfl rfl ?_
    refine v_sipush 17 2187 dX5_weigh_14 kc_s_2187 rfl ?_
    refine v_icmp_ge 20 47 h dX5_weigh_17 rfl (by decide) (fun h => ?_) (fun h => ?_)
    · exact v_vretS h rfl dX5_weigh_47
    · refine v_aload_n 21 0 dX5_weigh_20 rfl rfl rfl ?_
      refine v_aload_n 22 1 dX5_weigh_21 rfl rfl rfl ?_
      refine v_iload_n 23 3 dX5_weigh_22 rfl rfl rfl ?_
      obtain ⟨x3, s4, h0, h⟩ := ob2 h
      refine v_cV 26 2 [.ref (g.1 k1), .int l3] (rfl : kK 99 = 2) rfl (c_X5_layNext k1 l3 hk1 _ _ h0) cl_X5_layNext gX5_weigh_X5_layNext rfl ⟨Nat.le_of_ble_eq_true rfl, Nat.le_of_ble_eq_true rfl⟩ rfl rfl (Nat.le_of_ble_eq_true rfl) dX5_weigh_23 rfl ?_
      refine v_if_eq 29 47 h dX5_weigh_26 rfl (by decide) (fun h => ?_) (fun h => ?_)
      · exact v_vretS h rfl dX5_weigh_47
      · refine v_aload_n 30 0 dX5_weigh_29 rfl rfl rfl ?_
        refine vg_2_8 33 (rfl : kK 99 = 2) in_X5_weigh_2 (mem_at 2 rfl) dX5_weigh_30 rfl ?_
        refine v_iload_n 34 2 dX5_weigh_33 rfl rfl rfl ?_
        refine v_icmp_ne 37 41 h dX5_weigh_34 rfl (by decide) (fun h => ?_) (fun h => ?_)
        · refine v_sub [0, 1, 2, 3, 4] rfl ?_
          exact q_X5_weigh_41 k1 l2 l3 hk1 τ (b_X5_weigh_12 k1 l2 l3 f) ih s4 l4 h
        · refine v_aload_n 38 0 dX5_weigh_37 rfl rfl rfl ?_
          obtain ⟨s6, h0, h⟩ := ob h
          refine v_cV 41 2 [] (rfl : kK 99 = 2) rfl (c_X5_keepWay _ h0) cl_X5_keepWay gX5_weigh_X5_keepWay rfl ⟨Nat.le_of_ble_eq_true rfl, Nat.le_of_ble_eq_true rfl⟩ rfl rfl (Nat.le_of_ble_eq_true rfl) dX5_weigh_38 rfl ?_
          refine v_sub [0, 1, 2, 3, 4] rfl ?_
          exact q_X5_weigh_41 k1 l2 l3 hk1 τ (b_X5_weigh_12 k1 l2 l3 f) ih s6 l4 h
set_option maxRecDepth 100000 in
set_option maxHeartbeats 4000000 in
theorem c_X5_weigh {g : Cx} {σ : Sg} (k1 : Nat) (l2 : Int32) (l3 : Int32) (hk1 : kK k1 = 0) (τ : Sg) (h : f_X5_weigh σ k1 l2 l3 = some τ) : ∀ l, MetF l yX5_weigh wsX5_weigh rm_X5_weigh g [.ref (g.1 99), .ref (g.1 k1), .int l2, .int l3] σ none τ := by
  refine MetF.of (own0 := RX5) (lv0 := [(0, .ref (g.1 99)), (1, .ref (g.1 k1)), (2, .int l2), (3, .int l3)]) rfl cl_X5_weigh (by decide) (Nat.le_of_ble_eq_true rfl) rfl ?_
  unfold f_X5_weigh at h
  refine v_aload_n 1 0 dX5_weigh_0 rfl rfl rfl ?_
  refine v_iconst 2 0 dX5_weigh_1 kc_i_0 rfl ?_
  refine vp_2_0 5 h (rfl : kK 99 = 2) in_X5_weigh_2 (mem_at 1 rfl) (Or.inl rfl) dX5_weigh_2 rfl (fun s1 h => ?_)
  refine v_aload_n 6 0 dX5_weigh_5 rfl rfl rfl ?_
  obtain ⟨s2, h0, h⟩ := ob h
  refine v_cV 9 2 [] (rfl : kK 99 = 2) rfl (c_X5_layNothing _ h0) cl_X5_layNothing gX5_weigh_X5_layNothing rfl ⟨Nat.le_of_ble_eq_true rfl, Nat.le_of_ble_eq_true rfl⟩ rfl rfl (Nat.le_of_ble_eq_true rfl) dX5_weigh_6 rfl ?_
  refine v_iconst 10 0 dX5_weigh_9 kc_i_0 rfl ?_
  refine v_istore 12 dX5_weigh_10 (by decide) rfl rfl ?_
  refine v_sub [1, 2, 3, 4, 0] rfl ?_
  exact q_X5_weigh_12 k1 l2 l3 hk1 τ FU s2 0 h
