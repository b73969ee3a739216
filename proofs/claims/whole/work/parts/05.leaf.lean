-- public static int compare(int, int);
abbrev rm_J6_compare_7cf53 : Room := { frames := 0, cells := 0, slots := 0, locals := 0 }
theorem cl_J6_compare_7cf53 : Cl yJ6_compare_7cf53 wsJ6_compare_7cf53 cJ6_compare_7cf53 2 (some .int) rm_J6_compare_7cf53 2 := ⟨⟨_, rfl⟩, rfl, rfl, by decide +kernel, by decide +kernel, by decide +kernel⟩
def f_J6_compare_7cf53 (l0 : Int32) (l1 : Int32) : Int32 := (if l1 ≤ l0 then (if l0 = l1 then 0 else 1) else (-1))
set_option maxRecDepth 100000 in
set_option maxHeartbeats 4000000 in
theorem c_J6_compare_7cf53 {g : Cx} {σ : Sg} (l0 : Int32) (l1 : Int32) : ∀ l, MetF l yJ6_compare_7cf53 wsJ6_compare_7cf53 rm_J6_compare_7cf53 g [.int l0, .int l1] σ (some (.int (f_J6_compare_7cf53 l0 l1))) σ := by
  have main : ∀ r : Int32, f_J6_compare_7cf53 l0 l1 = r → ∀ l, MetF l yJ6_compare_7cf53 wsJ6_compare_7cf53 rm_J6_compare_7cf53 g [.int l0, .int l1] σ (some (.int r)) σ := by
    intro r h
    refine MetF.of (own0 := RJ6) (lv0 := [(0, .int l0), (1, .int l1)]) rfl cl_J6_compare_7cf53 (by decide) (Nat.le_of_ble_eq_true rfl) rfl ?_
    unfold f_J6_compare_7cf53 at h
    refine v_iload_n 1 0 dJ6_compare_7cf53_0 rfl rfl rfl ?_
    refine v_iload_n 2 1 dJ6_compare_7cf53_1 rfl rfl rfl ?_
    refine v_icmp_ge 5 9 h dJ6_compare_7cf53_2 rfl (by decide) (fun h => ?_) (fun h => ?_)
    · refine v_iload_n 10 0 dJ6_compare_7cf53_9 rfl rfl rfl ?_
      refine v_iload_n 11 1 dJ6_compare_7cf53_10 rfl rfl rfl ?_
      refine v_icmp_ne 14 18 h dJ6_compare_7cf53_11 rfl (by decide) (fun h => ?_) (fun h => ?_)
      · refine v_iconst 19 1 dJ6_compare_7cf53_18 kc_i_1 rfl ?_
        exact v_iretT h rfl dJ6_compare_7cf53_19
      · refine v_iconst 15 0 dJ6_compare_7cf53_14 kc_i_0 rfl ?_
        refine v_goto 19 dJ6_compare_7cf53_15 (by decide) ?_
        exact v_iretT h rfl dJ6_compare_7cf53_19
    · refine v_iconst 6 (-1) dJ6_compare_7cf53_5 kc_i_m1 rfl ?_
      refine v_goto 19 dJ6_compare_7cf53_6 (by decide) ?_
      exact v_iretT h rfl dJ6_compare_7cf53_19
  exact main _ rfl
-- static int trueTip(int, int);
abbrev rm_X0_trueTip : Room := { frames := 1, cells := 0, slots := 0, locals := 21 }
theorem cl_X0_trueTip : Cl yX0_trueTip wsX0_trueTip cX0_trueTip 2 (some .int) rm_X0_trueTip 2 := ⟨⟨_, rfl⟩, rfl, rfl, by decide +kernel, by decide +kernel, by decide +kernel⟩
def f_X0_trueTip (l0 : Int32) (l1 : Int32) : Int32 := f_J6_compare_7cf53 l0 l1
set_option maxRecDepth 100000 in
set_option maxHeartbeats 4000000 in
theorem c_X0_trueTip {g : Cx} {σ : Sg} (l0 : Int32) (l1 : Int32) : ∀ l, MetF l yX0_trueTip wsX0_trueTip rm_X0_trueTip g [.int l0, .int l1] σ (some (.int (f_X0_trueTip l0 l1))) σ := by
  have main : ∀ r : Int32, f_X0_trueTip l0 l1 = r → ∀ l, MetF l yX0_trueTip wsX0_trueTip rm_X0_trueTip g [.int l0, .int l1] σ (some (.int r)) σ := by
    intro r h
    refine MetF.of (own0 := RX0) (lv0 := [(0, .int l0), (1, .int l1)]) rfl cl_X0_trueTip (by decide) (Nat.le_of_ble_eq_true rfl) rfl ?_
    unfold f_X0_trueTip at h
    refine v_iload_n 1 0 dX0_trueTip_0 rfl rfl rfl ?_
    refine v_iload_n 2 1 dX0_trueTip_1 rfl rfl rfl ?_
    refine v_cS 5 [.int l0, .int l1] (c_J6_compare_7cf53 l0 l1) cl_J6_compare_7cf53 gX0_trueTip_J6_compare_7cf53 ⟨Nat.le_of_ble_eq_true rfl, Nat.le_of_ble_eq_true rfl⟩ rfl rfl (Nat.le_of_ble_eq_true rfl) dX0_trueTip_2 rfl ?_
    exact v_iretT h rfl dX0_trueTip_5
  exact main _ rfl
-- private static int bentTip(int, int);
abbrev rm_X0_bentTip : Room := { frames := 2, cells := 0, slots := 0, locals := 42 }
theorem cl_X0_bentTip : Cl yX0_bentTip wsX0_bentTip cX0_bentTip 2 (some .int) rm_X0_bentTip 2 := ⟨⟨_, rfl⟩, rfl, rfl, by decide +kernel, by decide +kernel, by decide +kernel⟩
def f_X0_bentTip (l0 : Int32) (l1 : Int32) : Int32 := f_X0_trueTip (l0 + 2) l1
set_option maxRecDepth 100000 in
set_option maxHeartbeats 4000000 in
theorem c_X0_bentTip {g : Cx} {σ : Sg} (l0 : Int32) (l1 : Int32) : ∀ l, MetF l yX0_bentTip wsX0_bentTip rm_X0_bentTip g [.int l0, .int l1] σ (some (.int (f_X0_bentTip l0 l1))) σ := by
  have main : ∀ r : Int32, f_X0_bentTip l0 l1 = r → ∀ l, MetF l yX0_bentTip wsX0_bentTip rm_X0_bentTip g [.int l0, .int l1] σ (some (.int r)) σ := by
    intro r h
    refine MetF.of (own0 := RX0) (lv0 := [(0, .int l0), (1, .int l1)]) rfl cl_X0_bentTip (by decide) (Nat.le_of_ble_eq_true rfl) rfl ?_
    unfold f_X0_bentTip at h
    refine v_iload_n 1 0 dX0_bentTip_0 rfl rfl rfl ?_
    refine v_iconst 2 2 dX0_bentTip_1 kc_i_2 rfl ?_
    refine v_iadd 3 dX0_bentTip_2 rfl ?_
    refine v_iload_n 4 1 dX0_bentTip_3 rfl rfl rfl ?_
    refine v_cS 7 [.int (l0 + 2), .int l1] (c_X0_trueTip (l0 + 2) l1) cl_X0_trueTip gX0_bentTip_X0_trueTip ⟨Nat.le_of_ble_eq_true rfl, Nat.le_of_ble_eq_true rfl⟩ rfl rfl (Nat.le_of_ble_eq_true rfl) dX0_bentTip_4 rfl ?_
    exact v_iretT h rfl dX0_bentTip_7
  exact main _ rfl
-- private static int stiffTip(int, int);
abbrev rm_X0_stiffTip : Room := { frames := 2, cells := 0, slots := 0, locals := 42 }
theorem cl_X0_stiffTip : Cl yX0_stiffTip wsX0_stiffTip cX0_stiffTip 2 (some .int) rm_X0_stiffTip 2 := ⟨⟨_, rfl⟩, rfl, rfl, by decide +kernel, by decide +kernel, by decide +kernel⟩
def f_X0_stiffTip (l0 : Int32) (l1 : Int32) : Int32 := (if 3 ≤ (if 0 ≤ (l0 - l1) then (l0 - l1) else 0 - (l0 - l1)) then f_X0_trueTip l0 l1 else 0)
set_option maxRecDepth 100000 in
set_option maxHeartbeats 4000000 in
theorem c_X0_stiffTip {g : Cx} {σ : Sg} (l0 : Int32) (l1 : Int32) : ∀ l, MetF l yX0_stiffTip wsX0_stiffTip rm_X0_stiffTip g [.int l0, .int l1] σ (some (.int (f_X0_stiffTip l0 l1))) σ := by
  have main : ∀ r : Int32, f_X0_stiffTip l0 l1 = r → ∀ l, MetF l yX0_stiffTip wsX0_stiffTip rm_X0_stiffTip g [.int l0, .int l1] σ (some (.int r)) σ := by
    intro r h
    refine MetF.of (own0 := RX0) (lv0 := [(0, .int l0), (1, .int l1)]) rfl cl_X0_stiffTip (by decide) (Nat.le_of_ble_eq_true rfl) rfl ?_
    unfold f_X0_stiffTip at h
    refine v_iload_n 1 0 dX0_stiffTip_0 rfl rfl rfl ?_
    refine v_iload_n 2 1 dX0_stiffTip_1 rfl rfl rfl ?_
    refine v_isub 3 dX0_stiffTip_2 rfl ?_
    refine v_abs 6 (mem_at 1 rfl) (mem_at 2 rfl) (mem_at 3 rfl) (mem_at 4 rfl) ⟨Nat.le_of_ble_eq_true rfl, Nat.le_of_ble_eq_true rfl⟩ (Nat.le_of_ble_eq_true rfl) dX0_stiffTip_3 rfl ?_
    refine v_iconst 7 3 dX0_stiffTip_6 kc_i_3 rfl ?_
    refine v_icmp_ge 10 14 h dX0_stiffTip_7 rfl (by decide) (fun h => ?_) (fun h => ?_)
    · refine v_iload_n 15 0 dX0_stiffTip_14 rfl rfl rfl ?_
      refine v_iload_n 16 1 dX0_stiffTip_15 rfl rfl rfl ?_
      refine v_cS 19 [.int l0, .int l1] (c_X0_trueTip l0 l1) cl_X0_trueTip gX0_stiffTip_X0_trueTip ⟨Nat.le_of_ble_eq_true rfl, Nat.le_of_ble_eq_true rfl⟩ rfl rfl (Nat.le_of_ble_eq_true rfl) dX0_stiffTip_16 rfl ?_
      exact v_iretT h rfl dX0_stiffTip_19
    · refine v_iconst 11 0 dX0_stiffTip_10 kc_i_0 rfl ?_
      refine v_goto 19 dX0_stiffTip_11 (by decide) ?_
      exact v_iretT h rfl dX0_stiffTip_19
  exact main _ rfl
-- static int tip(int, int, int);
abbrev rm_X0_tip : Room := { frames := 3, cells := 0, slots := 0, locals := 63 }
theorem cl_X0_tip : Cl yX0_tip wsX0_tip cX0_tip 3 (some .int) rm_X0_tip 3 := ⟨⟨_, rfl⟩, rfl, rfl, by decide +kernel, by decide +kernel, by decide +kernel⟩
def f_X0_tip (l0 : Int32) (l1 : Int32) (l2 : Int32) : Int32 := (if l0 = 0 then f_X0_trueTip l1 l2 else (if l0 = 1 then f_X0_stiffTip l1 l2 else (if l0 = 2 then f_X0_bentTip l1 l2 else (if l0 = 3 then (if ((l1 + l2) - (l1 + l2) / 2 * 2) = 0 then f_X0_trueTip l1 l2 else -(f_X0_trueTip l1 l2)) else (if l0 = 4 then (if l2 = 0 then 0 else f_X0_stiffTip l1 l2) else (if l0 = 5 then -(f_X0_bentTip l1 l2) else 0))))))
set_option maxRecDepth 100000 in
set_option maxHeartbeats 4000000 in
theorem c_X0_tip {g : Cx} {σ : Sg} (l0 : Int32) (l1 : Int32) (l2 : Int32) : ∀ l, MetF l yX0_tip wsX0_tip rm_X0_tip g [.int l0, .int l1, .int l2] σ (some (.int (f_X0_tip l0 l1 l2))) σ := by
  have main : ∀ r : Int32, f_X0_tip l0 l1 l2 = r → ∀ l, MetF l yX0_tip wsX0_tip rm_X0_tip g [.int l0, .int l1, .int l2] σ (some (.int r)) σ := by
    intro r h
    refine MetF.of (own0 := RX0) (lv0 := [(0, .int l0), (1, .int l1), (2, .int l2)]) rfl cl_X0_tip (by decide) (Nat.le_of_ble_eq_true rfl) rfl ?_
    unfold f_X0_tip at h
    refine v_iload_n 1 0 dX0_tip_0 rfl rfl rfl ?_
    refine v_ite h (fun q h => ?_) (fun q0 h => ?_)
    · refine v_tabInZ 40 0 dX0_tip_1 (ti_of q kc_ti_0) (by decide) (by decide) rfl (by decide) ?_
      refine v_iload_n 41 1 dX0_tip_40 rfl rfl rfl ?_
      refine v_iload_n 42 2 dX0_tip_41 rfl rfl rfl ?_
      refine v_cS 45 [.int l1, .int l2] (c_X0_trueTip l1 l2) cl_X0_trueTip gX0_tip_X0_trueTip ⟨Nat.le_of_ble_eq_true rfl, Nat.le_of_ble_eq_true rfl⟩ rfl rfl (Nat.le_of_ble_eq_true rfl) dX0_tip_42 rfl ?_
      exact v_iretT h rfl dX0_tip_45
    refine v_ite h (fun q h => ?_) (fun q1 h => ?_)
    · refine v_tabInZ 46 1 dX0_tip_1 (ti_of q kc_ti_1) (by decide) (by decide) rfl (by decide) ?_
      refine v_iload_n 47 1 dX0_tip_46 rfl rfl rfl ?_
      refine v_iload_n 48 2 dX0_tip_47 rfl rfl rfl ?_
      refine v_cS 51 [.int l1, .int l2] (c_X0_stiffTip l1 l2) cl_X0_stiffTip gX0_tip_X0_stiffTip ⟨Nat.le_of_ble_eq_true rfl, Nat.le_of_ble_eq_true rfl⟩ rfl rfl (Nat.le_of_ble_eq_true rfl) dX0_tip_48 rfl ?_
      exact v_iretT h rfl dX0_tip_51
    refine v_ite h (fun q h => ?_) (fun q2 h => ?_)
    · refine v_tabInZ 52 2 dX0_tip_1 (ti_of q kc_ti_2) (by decide) (by decide) rfl (by decide) ?_
      refine v_iload_n 53 1 dX0_tip_52 rfl rfl rfl ?_
      refine v_iload_n 54 2 dX0_tip_53 rfl rfl rfl ?_
      refine v_cS 57 [.int l1, .int l2] (c_X0_bentTip l1 l2) cl_X0_bentTip gX0_tip_X0_bentTip ⟨Nat.le_of_ble_eq_true rfl, Nat.le_of_ble_eq_true rfl⟩ rfl rfl (Nat.le_of_ble_eq_true rfl) dX0_tip_54 rfl ?_
      exact v_iretT h rfl dX0_tip_57
    refine v_ite h (fun q h => ?_) (fun q3 h => ?_)
    · refine v_tabInZ 58 3 dX0_tip_1 (ti_of q kc_ti_3) (by decide) (by decide) rfl (by decide) ?_
      refine v_iload_n 59 1 dX0_tip_58 rfl rfl rfl ?_
      refine v_iload_n 60 2 dX0_tip_59 rfl rfl rfl ?_
      refine v_iadd 61 dX0_tip_60 rfl ?_
      refine v_iconst 62 2 dX0_tip_61 kc_i_2 rfl ?_
      refine v_irem 63 kc_ne_2 dX0_tip_62 rfl ?_
      refine v_if_ne 66 74 h dX0_tip_63 rfl (by decide) (fun h => ?_) (fun h => ?_)
      · refine v_iload_n 75 1 dX0_tip_74 rfl rfl rfl ?_
        refine v_iload_n 76 2 dX0_tip_75 rfl rfl rfl ?_
        refine v_cS 79 [.int l1, .int l2] (c_X0_trueTip l1 l2) cl_X0_trueTip gX0_tip_X0_trueTip ⟨Nat.le_of_ble_eq_true rfl, Nat.le_of_ble_eq_true rfl⟩ rfl rfl (Nat.le_of_ble_eq_true rfl) dX0_tip_76 rfl ?_
        refine v_ineg 80 dX0_tip_79 rfl ?_
        exact v_iretT h rfl dX0_tip_80
      · refine v_iload_n 67 1 dX0_tip_66 rfl rfl rfl ?_
        refine v_iload_n 68 2 dX0_tip_67 rfl rfl rfl ?_
        refine v_cS 71 [.int l1, .int l2] (c_X0_trueTip l1 l2) cl_X0_trueTip gX0_tip_X0_trueTip ⟨Nat.le_of_ble_eq_true rfl, Nat.le_of_ble_eq_true rfl⟩ rfl rfl (Nat.le_of_ble_eq_true rfl) dX0_tip_68 rfl ?_
        refine v_goto 80 dX0_tip_71 (by decide) ?_
        exact v_iretT h rfl dX0_tip_80
    refine v_ite h (fun q h => ?_) (fun q4 h => ?_)
    · refine v_tabInZ 81 4 dX0_tip_1 (ti_of q kc_ti_4) (by decide) (by decide) rfl (by decide) ?_
      refine v_iload_n 82 2 dX0_tip_81 rfl rfl rfl ?_
      refine v_if_ne 85 89 h dX0_tip_82 rfl (by decide) (fun h => ?_) (fun h => ?_)
      · refine v_iload_n 90 1 dX0_tip_89 rfl rfl rfl ?_
        refine v_iload_n 91 2 dX0_tip_90 rfl rfl rfl ?_
        refine v_cS 94 [.int l1, .int l2] (c_X0_stiffTip l1 l2) cl_X0_stiffTip gX0_tip_X0_stiffTip ⟨Nat.le_of_ble_eq_true rfl, Nat.le_of_ble_eq_true rfl⟩ rfl rfl (Nat.le_of_ble_eq_true rfl) dX0_tip_91 rfl ?_
        exact v_iretT h rfl dX0_tip_94
      · refine v_iconst 86 0 dX0_tip_85 kc_i_0 rfl ?_
        refine v_goto 94 dX0_tip_86 (by decide) ?_
        exact v_iretT h rfl dX0_tip_94
    refine v_ite h (fun q h => ?_) (fun q5 h => ?_)
    · refine v_tabInZ 95 5 dX0_tip_1 (ti_of q kc_ti_5) (by decide) (by decide) rfl (by decide) ?_
      refine v_iload_n 96 1 dX0_tip_95 rfl rfl rfl ?_
      refine v_iload_n 97 2 dX0_tip_96 rfl rfl rfl ?_
      refine v_cS 100 [.int l1, .int l2] (c_X0_bentTip l1 l2) cl_X0_bentTip gX0_tip_X0_bentTip ⟨Nat.le_of_ble_eq_true rfl, Nat.le_of_ble_eq_true rfl⟩ rfl rfl (Nat.le_of_ble_eq_true rfl) dX0_tip_97 rfl ?_
      refine v_ineg 101 dX0_tip_100 rfl ?_
      exact v_iretT h rfl dX0_tip_101
    have a0 := ne_lit q0 kc_ti_0
    have a1 := ne_lit q1 kc_ti_1
    have a2 := ne_lit q2 kc_ti_2
    have a3 := ne_lit q3 kc_ti_3
    have a4 := ne_lit q4 kc_ti_4
    have a5 := ne_lit q5 kc_ti_5
    refine v_tabOut 102 dX0_tip_1 (by omega) (by decide) ?_
    refine v_iconst 103 0 dX0_tip_102 kc_i_0 rfl ?_
    exact v_iretT h rfl dX0_tip_103
  exact main _ rfl
-- int size();
abbrev rm_X7_size : Room := { frames := 0, cells := 0, slots := 0, locals := 0 }
theorem cl_X7_size : Cl yX7_size wsX7_size cX7_size 1 (some .int) rm_X7_size 0 := ⟨⟨_, rfl⟩, rfl, rfl, by decide +kernel, by decide +kernel, by decide +kernel⟩
theorem in_X7_size_4 : ∀ w ∈ wsX70, w ∈ wsX7_size := fun w h => List.mem_cons_of_mem _ (List.mem_append_right _ h)
def f_X7_size (σ : Sg) (k0 : Nat) : Int32 := rI σ k0 1
set_option maxRecDepth 100000 in
set_option maxHeartbeats 4000000 in
theorem c_X7_size {g : Cx} {σ : Sg} (k0 : Nat) (hk0 : kK k0 = 4) : ∀ l, MetF l yX7_size wsX7_size rm_X7_size g [.ref (g.1 k0)] σ (some (.int (f_X7_size σ k0))) σ := by
  have main : ∀ r : Int32, f_X7_size σ k0 = r → ∀ l, MetF l yX7_size wsX7_size rm_X7_size g [.ref (g.1 k0)] σ (some (.int r)) σ := by
    intro r h
    refine MetF.of (own0 := RX7) (lv0 := [(0, .ref (g.1 k0))]) rfl cl_X7_size (by decide) (Nat.le_of_ble_eq_true rfl) rfl ?_
    unfold f_X7_size at h
    refine v_aload_n 1 0 dX7_size_0 rfl rfl rfl ?_
    refine vg_4_1 4 hk0 in_X7_size_4 (mem_at 1 rfl) dX7_size_1 rfl ?_
    exact v_iretT h rfl dX7_size_4
  exact main _ rfl
-- private static boolean hasBit(int, int);
abbrev rm_X11_hasBit : Room := { frames := 0, cells := 0, slots := 0, locals := 0 }
theorem cl_X11_hasBit : Cl yX11_hasBit wsX11_hasBit cX11_hasBit 2 (some .boolean) rm_X11_hasBit 2 := ⟨⟨_, rfl⟩, rfl, rfl, by decide +kernel, by decide +kernel, by decide +kernel⟩
def f_X11_hasBit (l0 : Int32) (l1 : Int32) : Int32 := (if l1 < 0 then 0 else (if 32 ≤ l1 then 0 else (if ((l0 >>> (l1 &&& 31)) &&& 1) = 1 then 1 else 0)))
theorem zb_X11_hasBit {l0 : Int32} {l1 : Int32} : f_X11_hasBit l0 l1 = 0 ∨ f_X11_hasBit l0 l1 = 1 := by
  unfold f_X11_hasBit
  try simp only [nam]
  repeat' (first | exact Or.inl rfl | exact Or.inr rfl | split)
set_option maxRecDepth 100000 in
set_option maxHeartbeats 4000000 in
theorem c_X11_hasBit {g : Cx} {σ : Sg} (l0 : Int32) (l1 : Int32) : ∀ l, MetF l yX11_hasBit wsX11_hasBit rm_X11_hasBit g [.int l0, .int l1] σ (some (.int (f_X11_hasBit l0 l1))) σ := by
  have main : ∀ r : Int32, f_X11_hasBit l0 l1 = r → ∀ l, MetF l yX11_hasBit wsX11_hasBit rm_X11_hasBit g [.int l0, .int l1] σ (some (.int r)) σ := by
    intro r h
    refine MetF.of (own0 := RX11) (lv0 := [(0, .int l0), (1, .int l1)]) rfl cl_X11_hasBit (by decide) (Nat.le_of_ble_eq_true rfl) rfl ?_
    unfold f_X11_hasBit at h
    refine v_iload_n 1 1 dX11_hasBit_0 rfl rfl rfl ?_
    refine v_if_lt 4 23 h dX11_hasBit_1 rfl (by decide) (fun h => ?_) (fun h => ?_)
    · refine v_iconst 24 0 dX11_hasBit_23 kc_i_0 rfl ?_
      exact v_zretT h rfl (Or.inl rfl) dX11_hasBit_24
    · refine v_iload_n 5 1 dX11_hasBit_4 rfl rfl rfl ?_
      refine v_bipush 7 32 dX11_hasBit_5 kc_b_32 rfl ?_
      refine v_icmp_ge 10 23 h dX11_hasBit_7 rfl (by decide) (fun h => ?_) (fun h => ?_)
      · refine v_iconst 24 0 dX11_hasBit_23 kc_i_0 rfl ?_
        exact v_zretT h rfl (Or.inl rfl) dX11_hasBit_24
      · refine v_iload_n 11 0 dX11_hasBit_10 rfl rfl rfl ?_
        refine v_iload_n 12 1 dX11_hasBit_11 rfl rfl rfl ?_
        refine v_ishr 13 dX11_hasBit_12 rfl ?_
        refine v_iconst 14 1 dX11_hasBit_13 kc_i_1 rfl ?_
        refine v_iand 15 dX11_hasBit_14 rfl ?_
        refine v_iconst 16 1 dX11_hasBit_15 kc_i_1 rfl ?_
        refine v_icmp_ne 19 23 h dX11_hasBit_16 rfl (by decide) (fun h => ?_) (fun h => ?_)
        · refine v_iconst 24 0 dX11_hasBit_23 kc_i_0 rfl ?_
          exact v_zretT h rfl (Or.inl rfl) dX11_hasBit_24
        · refine v_iconst 20 1 dX11_hasBit_19 kc_i_1 rfl ?_
          refine v_goto 24 dX11_hasBit_20 (by decide) ?_
          exact v_zretT h rfl (Or.inr rfl) dX11_hasBit_24
  exact main _ rfl
-- int at(int);
abbrev rm_X7_at : Room := { frames := 0, cells := 0, slots := 0, locals := 0 }
theorem cl_X7_at : Cl yX7_at wsX7_at cX7_at 2 (some .int) rm_X7_at 1 := ⟨⟨_, rfl⟩, rfl, rfl, by decide +kernel, by decide +kernel, by decide +kernel⟩
theorem in_X7_at_4 : ∀ w ∈ wsX70, w ∈ wsX7_at := fun w h => List.mem_cons_of_mem _ (List.mem_append_right _ h)
def f_X7_at (σ : Sg) (k0 : Nat) (l1 : Int32) : Option Int32 := (if l1 < 0 then (some (0)) else (if (rI σ k0 1) ≤ l1 then (some (0)) else (if (nI (kLen (k0 + 1))) ≤ l1 then (some (0)) else (if inb l1 (kLen (k0 + 1)) = true then (some (rI σ (k0 + 1) (ix l1))) else none))))
set_option maxRecDepth 100000 in
set_option maxHeartbeats 4000000 in
theorem c_X7_at {g : Cx} {σ : Sg} (k0 : Nat) (l1 : Int32) (hk0 : kK k0 = 4) (r : Int32) (h : f_X7_at σ k0 l1 = some r) : ∀ l, MetF l yX7_at wsX7_at rm_X7_at g [.ref (g.1 k0), .int l1] σ (some (.int r)) σ := by
  refine MetF.of (own0 := RX7) (lv0 := [(0, .ref (g.1 k0)), (1, .int l1)]) rfl cl_X7_at (by decide) (Nat.le_of_ble_eq_true rfl) rfl ?_
  unfold f_X7_at at h
  refine v_iload_n 1 1 dX7_at_0 rfl rfl rfl ?_
  refine v_if_lt 4 30 h dX7_at_1 rfl (by decide) (fun h => ?_) (fun h => ?_)
  · refine v_iconst 31 0 dX7_at_30 kc_i_0 rfl ?_
    exact v_iretP h rfl dX7_at_31
  · refine v_iload_n 5 1 dX7_at_4 rfl rfl rfl ?_
    refine v_aload_n 6 0 dX7_at_5 rfl rfl rfl ?_
    refine vg_4_1 9 hk0 in_X7_at_4 (mem_at 1 rfl) dX7_at_6 rfl ?_
    refine v_icmp_ge 12 30 h dX7_at_9 rfl (by decide) (fun h => ?_) (fun h => ?_)
    · refine v_iconst 31 0 dX7_at_30 kc_i_0 rfl ?_
      exact v_iretP h rfl dX7_at_31
    · refine v_iload_n 13 1 dX7_at_12 rfl rfl rfl ?_
      refine v_aload_n 14 0 dX7_at_13 rfl rfl rfl ?_
      refine vg_4_0 17 (k0 + 1) hk0 in_X7_at_4 (mem_at 2 rfl) rfl dX7_at_14 rfl ?_
      refine v_alen 18 (kf_4_0 hk0) dX7_at_17 rfl ?_
      refine v_icmp_ge 21 30 h dX7_at_18 rfl (by decide) (fun h => ?_) (fun h => ?_)
      · refine v_iconst 31 0 dX7_at_30 kc_i_0 rfl ?_
        exact v_iretP h rfl dX7_at_31
      · refine v_aload_n 22 0 dX7_at_21 rfl rfl rfl ?_
        refine vg_4_0 25 (k0 + 1) hk0 in_X7_at_4 (mem_at 2 rfl) rfl dX7_at_22 rfl ?_
        refine v_iload_n 26 1 dX7_at_25 rfl rfl rfl ?_
        refine v_iald 27 h (kf_4_0 hk0) dX7_at_26 rfl (fun h => ?_)
        refine v_goto 31 dX7_at_27 (by decide) ?_
        exact v_iretP h rfl dX7_at_31
-- int sumOf(int);
abbrev rm_X7_sumOf : Room := { frames := 1, cells := 0, slots := 0, locals := 21 }
theorem cl_X7_sumOf : Cl yX7_sumOf wsX7_sumOf cX7_sumOf 4 (some .int) rm_X7_sumOf 1 := ⟨⟨_, rfl⟩, rfl, rfl, by decide +kernel, by decide +kernel, by decide +kernel⟩
theorem in_X7_sumOf_4 : ∀ w ∈ wsX70, w ∈ wsX7_sumOf := fun w h => List.mem_cons_of_mem _ (List.mem_append_right _ h)
def b_X7_sumOf_28 (σ : Sg) (k0 : Nat) (l1 : Int32) (c4 : Int32 → Int32 → Option Int32) (l2 : Int32) (l3 : Int32) : Option Int32 := nam (l3 + 1) fun x1 => c4 l2 x1
def b_X7_sumOf_4 (σ : Sg) (k0 : Nat) (l1 : Int32) : Nat → Int32 → Int32 → Option Int32
  | 0, _, _ => none
  | f + 1, l2, l3 => (if (rI σ k0 1) ≤ l3 then (some (l2)) else (if (f_X11_hasBit l1 l3) = 0 then b_X7_sumOf_28 σ k0 l1 (b_X7_sumOf_4 σ k0 l1 f) l2 l3 else (f_X7_at σ k0 l3).bind fun x2 => nam (l2 + x2) fun x3 => b_X7_sumOf_28 σ k0 l1 (b_X7_sumOf_4 σ k0 l1 f) x3 l3))
def f_X7_sumOf (σ : Sg) (k0 : Nat) (l1 : Int32) : Option Int32 := b_X7_sumOf_4 σ k0 l1 FU 0 0
set_option maxRecDepth 100000 in
set_option maxHeartbeats 4000000 in
theorem q_X7_sumOf_28 {g : Cx} (σ : Sg) (k0 : Nat) (l1 : Int32) (hk0 : kK k0 = 4) (r : Int32) (c4 : Int32 → Int32 → Option Int32) (hc4 : ∀ l2 : Int32, ∀ l3 : Int32, c4 l2 l3 = some r → V g cX7_sumOf RX7 wsX7_sumOf 4 (some .int) rm_X7_sumOf (some (.int r)) σ σ 4 [(0, .ref (g.1 k0)), (1, .int l1), (2, .int l2), (3, .int l3)] []) : ∀ l2 : Int32, ∀ l3 : Int32, b_X7_sumOf_28 σ k0 l1 c4 l2 l3 = some r → V g cX7_sumOf RX7 wsX7_sumOf 4 (some .int) rm_X7_sumOf (some (.int r)) σ σ 28 [(0, .ref (g.1 k0)), (1, .int l1), (2, .int l2), (3, .int l3)] [] := by
  intro l2 l3 h
  unfold b_X7_sumOf_28 at h
  refine v_iincN 31 3 h dX7_sumOf_28 rfl kc_i_1 (by decide) rfl (fun _ => rfl) (fun x1 h => ?_)
  refine v_goto 4 dX7_sumOf_31 (by decide) ?_
  refine v_sub [1, 2, 3, 0] rfl ?_
  exact hc4 l2 x1 h
set_option maxRecDepth 100000 in
set_option maxHeartbeats 4000000 in
theorem q_X7_sumOf_4 {g : Cx} (σ : Sg) (k0 : Nat) (l1 : Int32) (hk0 : kK k0 = 4) (r : Int32) : ∀ f : Nat, ∀ l2 : Int32, ∀ l3 : Int32, b_X7_sumOf_4 σ k0 l1 f l2 l3 = some r → V g cX7_sumOf RX7 wsX7_sumOf 4 (some .int) rm_X7_sumOf (some (.int r)) σ σ 4 [(0, .ref (g.1 k0)), (1, .int l1), (2, .int l2), (3, .int l3)] [] := by
  intro f
  induction f with
  | zero =>
    intro l2 l3 h
    cases h
  | succ f ih =>
    intro l2 l3 h
    rw [b_X7_sumOf_4] at h
    refine v_iload_n 5 3 dX7_sumOf_4 rfl rfl rfl ?_
    refine v_aload_n 6 0 dX7_sumOf_5 rfl rfl rfl ?_
    refine vg_4_1 9 hk0 in_X7_sumOf_4 (mem_at 1 rfl) dX7_sumOf_6 rfl ?_
    refine v_icmp_ge 12 34 h dX7_sumOf_9 rfl (by decide) (fun h => ?_) (fun h => ?_)
    · refine v_iload_n 35 2 dX7_sumOf_34 rfl rfl rfl ?_
      exact v_iretP h rfl dX7_sumOf_35
    · refine v_iload_n 13 1 dX7_sumOf_12 rfl rfl rfl ?_
      refine v_iload_n 14 3 dX7_sumOf_13 rfl rfl rfl ?_
      refine v_cN 17 [.int l1, .int l3] (c_X11_hasBit l1 l3) cl_X11_hasBit gX7_sumOf_X11_hasBit_n41 nw_X7_41 (mem_at 2 rfl) (mem_at 3 rfl) ⟨Nat.le_of_ble_eq_true rfl, Nat.le_of_ble_eq_true rfl⟩ rfl rfl (Nat.le_of_ble_eq_true rfl) dX7_sumOf_14 rfl ?_
      refine v_if_eq 20 28 h dX7_sumOf_17 rfl (by decide) (fun h => ?_) (fun h => ?_)
      · refine v_sub [0, 1, 2, 3] rfl ?_
        exact q_X7_sumOf_28 σ k0 l1 hk0 r (b_X7_sumOf_4 σ k0 l1 f) ih l2 l3 h
      · refine v_iload_n 21 2 dX7_sumOf_20 rfl rfl rfl ?_
        refine v_aload_n 22 0 dX7_sumOf_21 rfl rfl rfl ?_
        refine v_iload_n 23 3 dX7_sumOf_22 rfl rfl rfl ?_
        obtain ⟨x2, h0, h⟩ := ob h
        refine v_cV 26 4 [.int l3] hk0 rfl (c_X7_at k0 l3 hk0 _ h0) cl_X7_at gX7_sumOf_X7_at rfl ⟨Nat.le_of_ble_eq_true rfl, Nat.le_of_ble_eq_true rfl⟩ rfl rfl (Nat.le_of_ble_eq_true rfl) dX7_sumOf_23 rfl ?_
        refine v_iadd 27 dX7_sumOf_26 rfl ?_
        refine v_istoreN_n 28 h dX7_sumOf_27 rfl (by decide) rfl (fun _ => rfl) (fun x3 h => ?_)
        refine v_sub [1, 2, 0, 3] rfl ?_
        exact q_X7_sumOf_28 σ k0 l1 hk0 r (b_X7_sumOf_4 σ k0 l1 f) ih x3 l3 h
set_option maxRecDepth 100000 in
set_option maxHeartbeats 4000000 in
theorem c_X7_sumOf {g : Cx} {σ : Sg} (k0 : Nat) (l1 : Int32) (hk0 : kK k0 = 4) (r : Int32) (h : f_X7_sumOf σ k0 l1 = some r) : ∀ l, MetF l yX7_sumOf wsX7_sumOf rm_X7_sumOf g [.ref (g.1 k0), .int l1] σ (some (.int r)) σ := by
  refine MetF.of (own0 := RX7) (lv0 := [(0, .ref (g.1 k0)), (1, .int l1)]) rfl cl_X7_sumOf (by decide) (Nat.le_of_ble_eq_true rfl) rfl ?_
  unfold f_X7_sumOf at h
  refine v_iconst 1 0 dX7_sumOf_0 kc_i_0 rfl ?_
  refine v_istore_n 2 dX7_sumOf_1 rfl (by decide) rfl rfl ?_
  refine v_iconst 3 0 dX7_sumOf_2 kc_i_0 rfl ?_
  refine v_istore_n 4 dX7_sumOf_3 rfl (by decide) rfl rfl ?_
  refine v_sub [2, 3, 1, 0] rfl ?_
  exact q_X7_sumOf_4 σ k0 l1 hk0 r FU 0 0 h
-- void add(int);
abbrev rm_X7_add : Room := { frames := 0, cells := 0, slots := 0, locals := 0 }
theorem cl_X7_add : Cl yX7_add wsX7_add cX7_add 2 none rm_X7_add 1 := ⟨⟨_, rfl⟩, rfl, rfl, by decide +kernel, by decide +kernel, by decide +kernel⟩
theorem in_X7_add_4 : ∀ w ∈ wsX70, w ∈ wsX7_add := fun w h => List.mem_cons_of_mem _ (List.mem_append_right _ h)
def f_X7_add (σ : Sg) (k0 : Nat) (l1 : Int32) : Option Sg := (if (rI σ k0 1) < 0 then (some σ) else (if (nI (kLen (k0 + 1))) ≤ (rI σ k0 1) then (some σ) else (if inb (rI σ k0 1) (kLen (k0 + 1)) = true then nam (stI σ (k0 + 1) (ix (rI σ k0 1)) l1) (fun s1 => nam (stI s1 k0 1 ((rI s1 k0 1) + 1)) fun s2 => (some s2)) else none)))
set_option maxRecDepth 100000 in
set_option maxHeartbeats 4000000 in
theorem c_X7_add {g : Cx} {σ : Sg} (k0 : Nat) (l1 : Int32) (hk0 : kK k0 = 4) (τ : Sg) (h : f_X7_add σ k0 l1 = some τ) : ∀ l, MetF l yX7_add wsX7_add rm_X7_add g [.ref (g.1 k0), .int l1] σ none τ := by
  refine MetF.of (own0 := RX7) (lv0 := [(0, .ref (g.1 k0)), (1, .int l1)]) rfl cl_X7_add (by decide) (Nat.le_of_ble_eq_true rfl) rfl ?_
  unfold f_X7_add at h
  refine v_aload_n 1 0 dX7_add_0 rfl rfl rfl ?_
  refine vg_4_1 4 hk0 in_X7_add_4 (mem_at 1 rfl) dX7_add_1 rfl ?_
  refine v_if_lt 7 39 h dX7_add_4 rfl (by decide) (fun h => ?_) (fun h => ?_)
  · exact v_vretS h rfl dX7_add_39
  · refine v_aload_n 8 0 dX7_add_7 rfl rfl rfl ?_
    refine vg_4_1 11 hk0 in_X7_add_4 (mem_at 1 rfl) dX7_add_8 rfl ?_
    refine v_aload_n 12 0 dX7_add_11 rfl rfl rfl ?_
    refine vg_4_0 15 (k0 + 1) hk0 in_X7_add_4 (mem_at 2 rfl) rfl dX7_add_12 rfl ?_
    refine v_alen 16 (kf_4_0 hk0) dX7_add_15 rfl ?_
    refine v_icmp_ge 19 39 h dX7_add_16 rfl (by decide) (fun h => ?_) (fun h => ?_)
    · exact v_vretS h rfl dX7_add_39
    · refine v_aload_n 20 0 dX7_add_19 rfl rfl rfl ?_
      refine vg_4_0 23 (k0 + 1) hk0 in_X7_add_4 (mem_at 2 rfl) rfl dX7_add_20 rfl ?_
      refine v_aload_n 24 0 dX7_add_23 rfl rfl rfl ?_
      refine vg_4_1 27 hk0 in_X7_add_4 (mem_at 1 rfl) dX7_add_24 rfl ?_
      refine v_iload_n 28 1 dX7_add_27 rfl rfl rfl ?_
      refine v_iast 29 h (kf_4_0 hk0) dX7_add_28 rfl (fun s1 h => ?_)
      refine v_aload_n 30 0 dX7_add_29 rfl rfl rfl ?_
      refine v_dup 31 dX7_add_30 rfl rfl ?_
      refine vg_4_1 34 hk0 in_X7_add_4 (mem_at 1 rfl) dX7_add_31 rfl ?_
      refine v_iconst 35 1 dX7_add_34 kc_i_1 rfl ?_
      refine v_iadd 36 dX7_add_35 rfl ?_
      refine vp_4_1 39 h hk0 in_X7_add_4 (mem_at 1 rfl) dX7_add_36 rfl (fun s2 h => ?_)
      exact v_vretS h rfl dX7_add_39
-- void put(int, int);
abbrev rm_X7_put : Room := { frames := 0, cells := 0, slots := 0, locals := 0 }
theorem cl_X7_put : Cl yX7_put wsX7_put cX7_put 3 none rm_X7_put 2 := ⟨⟨_, rfl⟩, rfl, rfl, by decide +kernel, by decide +kernel, by decide +kernel⟩
theorem in_X7_put_4 : ∀ w ∈ wsX70, w ∈ wsX7_put := fun w h => List.mem_cons_of_mem _ (List.mem_append_right _ h)
def f_X7_put (σ : Sg) (k0 : Nat) (l1 : Int32) (l2 : Int32) : Option Sg := (if l1 < 0 then (some σ) else (if (rI σ k0 1) ≤ l1 then (some σ) else (if (nI (kLen (k0 + 1))) ≤ l1 then (some σ) else (if inb l1 (kLen (k0 + 1)) = true then nam (stI σ (k0 + 1) (ix l1) l2) (fun s1 => (some s1)) else none))))
set_option maxRecDepth 100000 in
set_option maxHeartbeats 4000000 in
theorem c_X7_put {g : Cx} {σ : Sg} (k0 : Nat) (l1 : Int32) (l2 : Int32) (hk0 : kK k0 = 4) (τ : Sg) (h : f_X7_put σ k0 l1 l2 = some τ) : ∀ l, MetF l yX7_put wsX7_put rm_X7_put g [.ref (g.1 k0), .int l1, .int l2] σ none τ := by
  refine MetF.of (own0 := RX7) (lv0 := [(0, .ref (g.1 k0)), (1, .int l1), (2, .int l2)]) rfl cl_X7_put (by decide) (Nat.le_of_ble_eq_true rfl) rfl ?_
  unfold f_X7_put at h
  refine v_iload_n 1 1 dX7_put_0 rfl rfl rfl ?_
  refine v_if_lt 4 28 h dX7_put_1 rfl (by decide) (fun h => ?_) (fun h => ?_)
  · exact v_vretS h rfl dX7_put_28
  · refine v_iload_n 5 1 dX7_put_4 rfl rfl rfl ?_
    refine v_aload_n 6 0 dX7_put_5 rfl rfl rfl ?_
    refine vg_4_1 9 hk0 in_X7_put_4 (mem_at 1 rfl) dX7_put_6 rfl ?_
    refine v_icmp_ge 12 28 h dX7_put_9 rfl (by decide) (fun h => ?_) (fun h => ?_)
    · exact v_vretS h rfl dX7_put_28
    · refine v_iload_n 13 1 dX7_put_12 rfl rfl rfl ?_
      refine v_aload_n 14 0 dX7_put_13 rfl rfl rfl ?_
      refine vg_4_0 17 (k0 + 1) hk0 in_X7_put_4 (mem_at 2 rfl) rfl dX7_put_14 rfl ?_
      refine v_alen 18 (kf_4_0 hk0) dX7_put_17 rfl ?_
      refine v_icmp_ge 21 28 h dX7_put_18 rfl (by decide) (fun h => ?_) (fun h => ?_)
      · exact v_vretS h rfl dX7_put_28
      · refine v_aload_n 22 0 dX7_put_21 rfl rfl rfl ?_
        refine vg_4_0 25 (k0 + 1) hk0 in_X7_put_4 (mem_at 2 rfl) rfl dX7_put_22 rfl ?_
        refine v_iload_n 26 1 dX7_put_25 rfl rfl rfl ?_
        refine v_iload_n 27 2 dX7_put_26 rfl rfl rfl ?_
        refine v_iast 28 h (kf_4_0 hk0) dX7_put_27 rfl (fun s1 h => ?_)
        exact v_vretS h rfl dX7_put_28
-- void restart();
abbrev rm_X7_restart : Room := { frames := 0, cells := 0, slots := 0, locals := 0 }
theorem cl_X7_restart : Cl yX7_restart wsX7_restart cX7_restart 1 none rm_X7_restart 0 := ⟨⟨_, rfl⟩, rfl, rfl, by decide +kernel, by decide +kernel, by decide +kernel⟩
theorem in_X7_restart_4 : ∀ w ∈ wsX70, w ∈ wsX7_restart := fun w h => List.mem_cons_of_mem _ (List.mem_append_right _ h)
def f_X7_restart (σ : Sg) (k0 : Nat) : Option Sg := nam (stI σ k0 1 0) fun s1 => (some s1)
set_option maxRecDepth 100000 in
set_option maxHeartbeats 4000000 in
theorem c_X7_restart {g : Cx} {σ : Sg} (k0 : Nat) (hk0 : kK k0 = 4) (τ : Sg) (h : f_X7_restart σ k0 = some τ) : ∀ l, MetF l yX7_restart wsX7_restart rm_X7_restart g [.ref (g.1 k0)] σ none τ := by
  refine MetF.of (own0 := RX7) (lv0 := [(0, .ref (g.1 k0))]) rfl cl_X7_restart (by decide) (Nat.le_of_ble_eq_true rfl) rfl ?_
  unfold f_X7_restart at h
  refine v_aload_n 1 0 dX7_restart_0 rfl rfl rfl ?_
  refine v_iconst 2 0 dX7_restart_1 kc_i_0 rfl ?_
  refine vp_4_1 5 h hk0 in_X7_restart_4 (mem_at 1 rfl) dX7_restart_2 rfl (fun s1 h => ?_)
  exact v_vretS h rfl dX7_restart_5
-- private static int fadingBehind(int, int);
abbrev rm_X2_fadingBehind : Room := { frames := 0, cells := 0, slots := 0, locals := 0 }
theorem cl_X2_fadingBehind : Cl yX2_fadingBehind wsX2_fadingBehind cX2_fadingBehind 2 (some .int) rm_X2_fadingBehind 2 := ⟨⟨_, rfl⟩, rfl, rfl, by decide +kernel, by decide +kernel, by decide +kernel⟩
def f_X2_fadingBehind (l0 : Int32) (l1 : Int32) : Int32 := (if (l1 - l1 / 2 * 2) = 0 then (if l0 ≤ 1 then l0 else l0 - 1) else l0)
set_option maxRecDepth 100000 in
set_option maxHeartbeats 4000000 in
theorem c_X2_fadingBehind {g : Cx} {σ : Sg} (l0 : Int32) (l1 : Int32) : ∀ l, MetF l yX2_fadingBehind wsX2_fadingBehind rm_X2_fadingBehind g [.int l0, .int l1] σ (some (.int (f_X2_fadingBehind l0 l1))) σ := by
  have main : ∀ r : Int32, f_X2_fadingBehind l0 l1 = r → ∀ l, MetF l yX2_fadingBehind wsX2_fadingBehind rm_X2_fadingBehind g [.int l0, .int l1] σ (some (.int r)) σ := by
    intro r h
    refine MetF.of (own0 := RX2) (lv0 := [(0, .int l0), (1, .int l1)]) rfl cl_X2_fadingBehind (by decide) (Nat.le_of_ble_eq_true rfl) rfl ?_
    unfold f_X2_fadingBehind at h
    refine v_iload_n 1 1 dX2_fadingBehind_0 rfl rfl rfl ?_
    refine v_iconst 2 2 dX2_fadingBehind_1 kc_i_2 rfl ?_
    refine v_irem 3 kc_ne_2 dX2_fadingBehind_2 rfl ?_
    refine v_if_ne 6 17 h dX2_fadingBehind_3 rfl (by decide) (fun h => ?_) (fun h => ?_)
    · refine v_iload_n 18 0 dX2_fadingBehind_17 rfl rfl rfl ?_
      exact v_iretT h rfl dX2_fadingBehind_18
    · refine v_iload_n 7 0 dX2_fadingBehind_6 rfl rfl rfl ?_
      refine v_iconst 8 1 dX2_fadingBehind_7 kc_i_1 rfl ?_
      refine v_icmp_le 11 17 h dX2_fadingBehind_8 rfl (by decide) (fun h => ?_) (fun h => ?_)
      · refine v_iload_n 18 0 dX2_fadingBehind_17 rfl rfl rfl ?_
        exact v_iretT h rfl dX2_fadingBehind_18
      · refine v_iload_n 12 0 dX2_fadingBehind_11 rfl rfl rfl ?_
        refine v_iconst 13 1 dX2_fadingBehind_12 kc_i_1 rfl ?_
        refine v_isub 14 dX2_fadingBehind_13 rfl ?_
        refine v_goto 18 dX2_fadingBehind_14 (by decide) ?_
        exact v_iretT h rfl dX2_fadingBehind_18
  exact main _ rfl
-- static int behind(int, int, int);
abbrev rm_X2_behind : Room := { frames := 1, cells := 0, slots := 0, locals := 21 }
theorem cl_X2_behind : Cl yX2_behind wsX2_behind cX2_behind 3 (some .int) rm_X2_behind 3 := ⟨⟨_, rfl⟩, rfl, rfl, by decide +kernel, by decide +kernel, by decide +kernel⟩
def f_X2_behind (l0 : Int32) (l1 : Int32) (l2 : Int32) : Int32 := (if l0 = 1 then f_X2_fadingBehind l1 l2 else (if l0 = 2 then l1 else (if l0 = 3 then l1 else (if l0 = 4 then f_X2_fadingBehind (f_X2_fadingBehind l1 l2) l2 else (if l0 = 5 then (if (l2 - l2 / 3 * 3) = 0 then if (l1 + 1) < 250 then (l1 + 1) else 250 else l1) else l1)))))
set_option maxRecDepth 100000 in
set_option maxHeartbeats 4000000 in
theorem c_X2_behind {g : Cx} {σ : Sg} (l0 : Int32) (l1 : Int32) (l2 : Int32) : ∀ l, MetF l yX2_behind wsX2_behind rm_X2_behind g [.int l0, .int l1, .int l2] σ (some (.int (f_X2_behind l0 l1 l2))) σ := by
  have main : ∀ r : Int32, f_X2_behind l0 l1 l2 = r → ∀ l, MetF l yX2_behind wsX2_behind rm_X2_behind g [.int l0, .int l1, .int l2] σ (some (.int r)) σ := by
    intro r h
    refine MetF.of (own0 := RX2) (lv0 := [(0, .int l0), (1, .int l1), (2, .int l2)]) rfl cl_X2_behind (by decide) (Nat.le_of_ble_eq_true rfl) rfl ?_
    unfold f_X2_behind at h
    refine v_iload_n 1 0 dX2_behind_0 rfl rfl rfl ?_
    refine v_ite h (fun q h => ?_) (fun q1 h => ?_)
    · refine v_tabInZ 36 1 dX2_behind_1 (ti_of q kc_ti_1) (by decide) (by decide) rfl (by decide) ?_
      refine v_iload_n 37 1 dX2_behind_36 rfl rfl rfl ?_
      refine v_iload_n 38 2 dX2_behind_37 rfl rfl rfl ?_
      refine v_cS 41 [.int l1, .int l2] (c_X2_fadingBehind l1 l2) cl_X2_fadingBehind gX2_behind_X2_fadingBehind ⟨Nat.le_of_ble_eq_true rfl, Nat.le_of_ble_eq_true rfl⟩ rfl rfl (Nat.le_of_ble_eq_true rfl) dX2_behind_38 rfl ?_
      exact v_iretT h rfl dX2_behind_41
    refine v_ite h (fun q h => ?_) (fun q2 h => ?_)
    · refine v_tabInZ 72 2 dX2_behind_1 (ti_of q kc_ti_2) (by decide) (by decide) rfl (by decide) ?_
      refine v_iload_n 73 1 dX2_behind_72 rfl rfl rfl ?_
      exact v_iretT h rfl dX2_behind_73
    refine v_ite h (fun q h => ?_) (fun q3 h => ?_)
    · refine v_tabInZ 72 3 dX2_behind_1 (ti_of q kc_ti_3) (by decide) (by decide) rfl (by decide) ?_
      refine v_iload_n 73 1 dX2_behind_72 rfl rfl rfl ?_
      exact v_iretT h rfl dX2_behind_73
    refine v_ite h (fun q h => ?_) (fun q4 h => ?_)
    · refine v_tabInZ 42 4 dX2_behind_1 (ti_of q kc_ti_4) (by decide) (by decide) rfl (by decide) ?_
      refine v_iload_n 43 1 dX2_behind_42 rfl rfl rfl ?_
      refine v_iload_n 44 2 dX2_behind_43 rfl rfl rfl ?_
      refine v_cS 47 [.int l1, .int l2] (c_X2_fadingBehind l1 l2) cl_X2_fadingBehind gX2_behind_X2_fadingBehind ⟨Nat.le_of_ble_eq_true rfl, Nat.le_of_ble_eq_true rfl⟩ rfl rfl (Nat.le_of_ble_eq_true rfl) dX2_behind_44 rfl ?_
      refine v_iload_n 48 2 dX2_behind_47 rfl rfl rfl ?_
      refine v_cS 51 [.int (f_X2_fadingBehind l1 l2), .int l2] (c_X2_fadingBehind (f_X2_fadingBehind l1 l2) l2) cl_X2_fadingBehind gX2_behind_X2_fadingBehind ⟨Nat.le_of_ble_eq_true rfl, Nat.le_of_ble_eq_true rfl⟩ rfl rfl (Nat.le_of_ble_eq_true rfl) dX2_behind_48 rfl ?_
      exact v_iretT h rfl dX2_behind_51
    refine v_ite h (fun q h => ?_) (fun q5 h => ?_)
    · refine v_tabInZ 52 5 dX2_behind_1 (ti_of q kc_ti_5) (by decide) (by decide) rfl (by decide) ?_
      refine v_iload_n 53 2 dX2_behind_52 rfl rfl rfl ?_
      refine v_iconst 54 3 dX2_behind_53 kc_i_3 rfl ?_
      refine v_irem 55 kc_ne_3 dX2_behind_54 rfl ?_
      refine v_if_ne 58 70 h dX2_behind_55 rfl (by decide) (fun h => ?_) (fun h => ?_)
      · refine v_iload_n 71 1 dX2_behind_70 rfl rfl rfl ?_
        exact v_iretT h rfl dX2_behind_71
      · refine v_sipush 61 250 dX2_behind_58 kc_s_250 rfl ?_
        refine v_iload_n 62 1 dX2_behind_61 rfl rfl rfl ?_
        refine v_iconst 63 1 dX2_behind_62 kc_i_1 rfl ?_
        refine v_iadd 64 dX2_behind_63 rfl ?_
        refine v_min 67 (mem_at 1 rfl) (mem_at 2 rfl) (mem_at 3 rfl) (mem_at 4 rfl) ⟨Nat.le_of_ble_eq_true rfl, Nat.le_of_ble_eq_true rfl⟩ (Nat.le_of_ble_eq_true rfl) dX2_behind_64 rfl ?_
        refine v_goto 71 dX2_behind_67 (by decide) ?_
        exact v_iretT h rfl dX2_behind_71
    have a1 := ne_lit q1 kc_ti_1
    have a2 := ne_lit q2 kc_ti_2
    have a3 := ne_lit q3 kc_ti_3
    have a4 := ne_lit q4 kc_ti_4
    have a5 := ne_lit q5 kc_ti_5
    refine v_tabOut 72 dX2_behind_1 (by omega) (by decide) ?_
    refine v_iload_n 73 1 dX2_behind_72 rfl rfl rfl ?_
    exact v_iretT h rfl dX2_behind_73
  exact main _ rfl
-- private static boolean plainLends(int, int);
abbrev rm_X2_plainLends : Room := { frames := 0, cells := 0, slots := 0, locals := 0 }
theorem cl_X2_plainLends : Cl yX2_plainLends wsX2_plainLends cX2_plainLends 2 (some .boolean) rm_X2_plainLends 2 := ⟨⟨_, rfl⟩, rfl, rfl, by decide +kernel, by decide +kernel, by decide +kernel⟩
def f_X2_plainLends (l0 : Int32) (l1 : Int32) : Int32 := (if (l0 + l1) < 5 then 0 else 1)
theorem zb_X2_plainLends {l0 : Int32} {l1 : Int32} : f_X2_plainLends l0 l1 = 0 ∨ f_X2_plainLends l0 l1 = 1 := by
  unfold f_X2_plainLends
  try simp only [nam]
  repeat' (first | exact Or.inl rfl | exact Or.inr rfl | split)
set_option maxRecDepth 100000 in
set_option maxHeartbeats 4000000 in
theorem c_X2_plainLends {g : Cx} {σ : Sg} (l0 : Int32) (l1 : Int32) : ∀ l, MetF l yX2_plainLends wsX2_plainLends rm_X2_plainLends g [.int l0, .int l1] σ (some (.int (f_X2_plainLends l0 l1))) σ := by
  have main : ∀ r : Int32, f_X2_plainLends l0 l1 = r → ∀ l, MetF l yX2_plainLends wsX2_plainLends rm_X2_plainLends g [.int l0, .int l1] σ (some (.int r)) σ := by
    intro r h
    refine MetF.of (own0 := RX2) (lv0 := [(0, .int l0), (1, .int l1)]) rfl cl_X2_plainLends (by decide) (Nat.le_of_ble_eq_true rfl) rfl ?_
    unfold f_X2_plainLends at h
    refine v_iload_n 1 0 dX2_plainLends_0 rfl rfl rfl ?_
    refine v_iload_n 2 1 dX2_plainLends_1 rfl rfl rfl ?_
    refine v_iadd 3 dX2_plainLends_2 rfl ?_
    refine v_iconst 4 5 dX2_plainLends_3 kc_i_5 rfl ?_
    refine v_icmp_lt 7 11 h dX2_plainLends_4 rfl (by decide) (fun h => ?_) (fun h => ?_)
    · refine v_iconst 12 0 dX2_plainLends_11 kc_i_0 rfl ?_
      exact v_zretT h rfl (Or.inl rfl) dX2_plainLends_12
    · refine v_iconst 8 1 dX2_plainLends_7 kc_i_1 rfl ?_
      refine v_goto 12 dX2_plainLends_8 (by decide) ?_
      exact v_zretT h rfl (Or.inr rfl) dX2_plainLends_12
  exact main _ rfl
-- static boolean lends(int, int, int, int);
abbrev rm_X2_lends : Room := { frames := 1, cells := 0, slots := 0, locals := 21 }
theorem cl_X2_lends : Cl yX2_lends wsX2_lends cX2_lends 4 (some .boolean) rm_X2_lends 4 := ⟨⟨_, rfl⟩, rfl, rfl, by decide +kernel, by decide +kernel, by decide +kernel⟩
def b_X2_lends_58 (l0 : Int32) (l1 : Int32) (l2 : Int32) (l3 : Int32) : Int32 := (if (f_X2_plainLends l2 l3) = 0 then 0 else 1)
def b_X2_lends_86 (l0 : Int32) (l1 : Int32) (l2 : Int32) (l3 : Int32) : Int32 := 1
def f_X2_lends (l0 : Int32) (l1 : Int32) (l2 : Int32) (l3 : Int32) : Int32 := (if l0 = 0 then f_X2_plainLends l2 l3 else (if l0 = 1 then f_X2_plainLends l2 l3 else (if l0 = 2 then 0 else (if l0 = 3 then (if (l1 - l1 / 7 * 7) = 0 then b_X2_lends_58 l0 l1 l2 l3 else (if l3 < 5 then 0 else b_X2_lends_58 l0 l1 l2 l3)) else (if l0 = 4 then (if (f_X2_plainLends l2 l3) = 0 then (if l2 < 8 then 0 else b_X2_lends_86 l0 l1 l2 l3) else b_X2_lends_86 l0 l1 l2 l3) else (if l0 = 5 then (if (l1 - l1 / 7 * 7) = 0 then b_X2_lends_58 l0 l1 l2 l3 else (if l3 < 5 then 0 else b_X2_lends_58 l0 l1 l2 l3)) else 0))))))
theorem zb_X2_lends {l0 : Int32} {l1 : Int32} {l2 : Int32} {l3 : Int32} : f_X2_lends l0 l1 l2 l3 = 0 ∨ f_X2_lends l0 l1 l2 l3 = 1 := by
  unfold f_X2_lends b_X2_lends_86 b_X2_lends_58
  try simp only [nam]
  repeat' (first | exact Or.inl rfl | exact Or.inr rfl | split | exact zb_X2_plainLends)
set_option maxRecDepth 100000 in
set_option maxHeartbeats 4000000 in
theorem q_X2_lends_58 {g : Cx} {σ : Sg} (l0 : Int32) (l1 : Int32) (l2 : Int32) (l3 : Int32) (r : Int32) : b_X2_lends_58 l0 l1 l2 l3 = r → V g cX2_lends RX2 wsX2_lends 4 (some .boolean) rm_X2_lends (some (.int r)) σ σ 58 [(2, .int l2), (3, .int l3)] [] := by
  intro h
  unfold b_X2_lends_58 at h
  refine v_iload_n 59 0 dX2_lends_58 rfl rfl rfl ?_
  refine v_iload_n 60 1 dX2_lends_59 rfl rfl rfl ?_
  refine v_cS 63 [.int l2, .int l3] (c_X2_plainLends l2 l3) cl_X2_plainLends gX2_lends_X2_plainLends ⟨Nat.le_of_ble_eq_true rfl, Nat.le_of_ble_eq_true rfl⟩ rfl rfl (Nat.le_of_ble_eq_true rfl) dX2_lends_60 rfl ?_
  refine v_if_eq 66 70 h dX2_lends_63 rfl (by decide) (fun h => ?_) (fun h => ?_)
  · refine v_iconst 71 0 dX2_lends_70 kc_i_0 rfl ?_
    exact v_zretT h rfl (Or.inl rfl) dX2_lends_71
  · refine v_iconst 67 1 dX2_lends_66 kc_i_1 rfl ?_
    refine v_goto 71 dX2_lends_67 (by decide) ?_
    exact v_zretT h rfl (Or.inr rfl) dX2_lends_71
set_option maxRecDepth 100000 in
set_option maxHeartbeats 4000000 in
theorem q_X2_lends_86 {g : Cx} {σ : Sg} (l0 : Int32) (l1 : Int32) (l2 : Int32) (l3 : Int32) (r : Int32) : b_X2_lends_86 l0 l1 l2 l3 = r → V g cX2_lends RX2 wsX2_lends 4 (some .boolean) rm_X2_lends (some (.int r)) σ σ 86 [] [] := by
  intro h
  unfold b_X2_lends_86 at h
  refine v_iconst 87 1 dX2_lends_86 kc_i_1 rfl ?_
  refine v_goto 91 dX2_lends_87 (by decide) ?_
  exact v_zretT h rfl (Or.inr rfl) dX2_lends_91
set_option maxRecDepth 100000 in
set_option maxHeartbeats 4000000 in
theorem c_X2_lends {g : Cx} {σ : Sg} (l0 : Int32) (l1 : Int32) (l2 : Int32) (l3 : Int32) : ∀ l, MetF l yX2_lends wsX2_lends rm_X2_lends g [.int l0, .int l1, .int l2, .int l3] σ (some (.int (f_X2_lends l0 l1 l2 l3))) σ := by
  have main : ∀ r : Int32, f_X2_lends l0 l1 l2 l3 = r → ∀ l, MetF l yX2_lends wsX2_lends rm_X2_lends g [.int l0, .int l1, .int l2, .int l3] σ (some (.int r)) σ := by
    intro r h
    refine MetF.of (own0 := RX2) (lv0 := [(0, .int l0), (1, .int l1), (2, .int l2), (3, .int l3)]) rfl cl_X2_lends (by decide) (Nat.le_of_ble_eq_true rfl) rfl ?_
    unfold f_X2_lends at h
    refine v_iload_n 1 0 dX2_lends_0 rfl rfl rfl ?_
    refine v_ite h (fun q h => ?_) (fun q0 h => ?_)
    · refine v_tabInZ 40 0 dX2_lends_1 (ti_of q kc_ti_0) (by decide) (by decide) rfl (by decide) ?_
      refine v_iload_n 41 2 dX2_lends_40 rfl rfl rfl ?_
      refine v_iload_n 42 3 dX2_lends_41 rfl rfl rfl ?_
      refine v_cS 45 [.int l2, .int l3] (c_X2_plainLends l2 l3) cl_X2_plainLends gX2_lends_X2_plainLends ⟨Nat.le_of_ble_eq_true rfl, Nat.le_of_ble_eq_true rfl⟩ rfl rfl (Nat.le_of_ble_eq_true rfl) dX2_lends_42 rfl ?_
      exact v_zretT h rfl zb_X2_plainLends dX2_lends_45
    refine v_ite h (fun q h => ?_) (fun q1 h => ?_)
    · refine v_tabInZ 40 1 dX2_lends_1 (ti_of q kc_ti_1) (by decide) (by decide) rfl (by decide) ?_
      refine v_iload_n 41 2 dX2_lends_40 rfl rfl rfl ?_
      refine v_iload_n 42 3 dX2_lends_41 rfl rfl rfl ?_
      refine v_cS 45 [.int l2, .int l3] (c_X2_plainLends l2 l3) cl_X2_plainLends gX2_lends_X2_plainLends ⟨Nat.le_of_ble_eq_true rfl, Nat.le_of_ble_eq_true rfl⟩ rfl rfl (Nat.le_of_ble_eq_true rfl) dX2_lends_42 rfl ?_
      exact v_zretT h rfl zb_X2_plainLends dX2_lends_45
    refine v_ite h (fun q h => ?_) (fun q2 h => ?_)
    · refine v_tabInZ 92 2 dX2_lends_1 (ti_of q kc_ti_2) (by decide) (by decide) rfl (by decide) ?_
      refine v_iconst 93 0 dX2_lends_92 kc_i_0 rfl ?_
      exact v_zretT h rfl (Or.inl rfl) dX2_lends_93
    refine v_ite h (fun q h => ?_) (fun q3 h => ?_)
    · refine v_tabInZ 46 3 dX2_lends_1 (ti_of q kc_ti_3) (by decide) (by decide) rfl (by decide) ?_
      refine v_iload_n 47 1 dX2_lends_46 rfl rfl rfl ?_
      refine v_bipush 49 7 dX2_lends_47 kc_b_7 rfl ?_
      refine v_irem 50 kc_ne_7 dX2_lends_49 rfl ?_
      refine v_if_eq 53 58 h dX2_lends_50 rfl (by decide) (fun h => ?_) (fun h => ?_)
      · refine v_sub [2, 3] rfl ?_
        exact q_X2_lends_58 l0 l1 l2 l3 r h
      · refine v_iload_n 54 3 dX2_lends_53 rfl rfl rfl ?_
        refine v_iconst 55 5 dX2_lends_54 kc_i_5 rfl ?_
        refine v_icmp_lt 58 70 h dX2_lends_55 rfl (by decide) (fun h => ?_) (fun h => ?_)
        · refine v_iconst 71 0 dX2_lends_70 kc_i_0 rfl ?_
          exact v_zretT h rfl (Or.inl rfl) dX2_lends_71
        · refine v_sub [2, 3] rfl ?_
          exact q_X2_lends_58 l0 l1 l2 l3 r h
    refine v_ite h (fun q h => ?_) (fun q4 h => ?_)
    · refine v_tabInZ 72 4 dX2_lends_1 (ti_of q kc_ti_4) (by decide) (by decide) rfl (by decide) ?_
      refine v_iload_n 73 2 dX2_lends_72 rfl rfl rfl ?_
      refine v_iload_n 74 3 dX2_lends_73 rfl rfl rfl ?_
      refine v_cS 77 [.int l2, .int l3] (c_X2_plainLends l2 l3) cl_X2_plainLends gX2_lends_X2_plainLends ⟨Nat.le_of_ble_eq_true rfl, Nat.le_of_ble_eq_true rfl⟩ rfl rfl (Nat.le_of_ble_eq_true rfl) dX2_lends_74 rfl ?_
      refine v_if_ne 80 86 h dX2_lends_77 rfl (by decide) (fun h => ?_) (fun h => ?_)
      · refine v_sub [] rfl ?_
        exact q_X2_lends_86 l0 l1 l2 l3 r h
      · refine v_iload_n 81 2 dX2_lends_80 rfl rfl rfl ?_
        refine v_bipush 83 8 dX2_lends_81 kc_b_8 rfl ?_
        refine v_icmp_lt 86 90 h dX2_lends_83 rfl (by decide) (fun h => ?_) (fun h => ?_)
        · refine v_iconst 91 0 dX2_lends_90 kc_i_0 rfl ?_
          exact v_zretT h rfl (Or.inl rfl) dX2_lends_91
        · refine v_sub [] rfl ?_
          exact q_X2_lends_86 l0 l1 l2 l3 r h
    refine v_ite h (fun q h => ?_) (fun q5 h => ?_)
    · refine v_tabInZ 46 5 dX2_lends_1 (ti_of q kc_ti_5) (by decide) (by decide) rfl (by decide) ?_
      refine v_iload_n 47 1 dX2_lends_46 rfl rfl rfl ?_
      refine v_bipush 49 7 dX2_lends_47 kc_b_7 rfl ?_
      refine v_irem 50 kc_ne_7 dX2_lends_49 rfl ?_
      refine v_if_eq 53 58 h dX2_lends_50 rfl (by decide) (fun h => ?_) (fun h => ?_)
      · refine v_sub [2, 3] rfl ?_
        exact q_X2_lends_58 l0 l1 l2 l3 r h
      · refine v_iload_n 54 3 dX2_lends_53 rfl rfl rfl ?_
        refine v_iconst 55 5 dX2_lends_54 kc_i_5 rfl ?_
        refine v_icmp_lt 58 70 h dX2_lends_55 rfl (by decide) (fun h => ?_) (fun h => ?_)
        · refine v_iconst 71 0 dX2_lends_70 kc_i_0 rfl ?_
          exact v_zretT h rfl (Or.inl rfl) dX2_lends_71
        · refine v_sub [2, 3] rfl ?_
          exact q_X2_lends_58 l0 l1 l2 l3 r h
    have a0 := ne_lit q0 kc_ti_0
    have a1 := ne_lit q1 kc_ti_1
    have a2 := ne_lit q2 kc_ti_2
    have a3 := ne_lit q3 kc_ti_3
    have a4 := ne_lit q4 kc_ti_4
    have a5 := ne_lit q5 kc_ti_5
    refine v_tabOut 92 dX2_lends_1 (by omega) (by decide) ?_
    refine v_iconst 93 0 dX2_lends_92 kc_i_0 rfl ?_
    exact v_zretT h rfl (Or.inl rfl) dX2_lends_93
  exact main _ rfl
-- static int giftsEnough(int, int, int);
abbrev rm_X2_giftsEnough : Room := { frames := 2, cells := 0, slots := 0, locals := 44 }
theorem cl_X2_giftsEnough : Cl yX2_giftsEnough wsX2_giftsEnough cX2_giftsEnough 5 (some .int) rm_X2_giftsEnough 3 := ⟨⟨_, rfl⟩, rfl, rfl, by decide +kernel, by decide +kernel, by decide +kernel⟩
def b_X2_giftsEnough_30 (l0 : Int32) (l1 : Int32) (l2 : Int32) (c5 : Int32 → Int32 → Option Int32) (l3 : Int32) (l4 : Int32) : Option Int32 := nam (l4 + 1) fun x1 => c5 l3 x1
def b_X2_giftsEnough_5 (l0 : Int32) (l1 : Int32) (l2 : Int32) : Nat → Int32 → Int32 → Option Int32
  | 0, _, _ => none
  | f + 1, l3, l4 => (if 9 < l4 then (some (l3)) else (if (f_X2_lends l0 l1 l2 l4) = 0 then b_X2_giftsEnough_30 l0 l1 l2 (b_X2_giftsEnough_5 l0 l1 l2 f) l3 l4 else nam (l3 ||| (1 <<< (l4 &&& 31))) fun x2 => b_X2_giftsEnough_30 l0 l1 l2 (b_X2_giftsEnough_5 l0 l1 l2 f) x2 l4))
def f_X2_giftsEnough (l0 : Int32) (l1 : Int32) (l2 : Int32) : Option Int32 := b_X2_giftsEnough_5 l0 l1 l2 FU 0 0
set_option maxRecDepth 100000 in
set_option maxHeartbeats 4000000 in
theorem q_X2_giftsEnough_30 {g : Cx} {σ : Sg} (l0 : Int32) (l1 : Int32) (l2 : Int32) (r : Int32) (c5 : Int32 → Int32 → Option Int32) (hc5 : ∀ l3 : Int32, ∀ l4 : Int32, c5 l3 l4 = some r → V g cX2_giftsEnough RX2 wsX2_giftsEnough 5 (some .int) rm_X2_giftsEnough (some (.int r)) σ σ 5 [(0, .int l0), (1, .int l1), (2, .int l2), (3, .int l3), (4, .int l4)] []) : ∀ l3 : Int32, ∀ l4 : Int32, b_X2_giftsEnough_30 l0 l1 l2 c5 l3 l4 = some r → V g cX2_giftsEnough RX2 wsX2_giftsEnough 5 (some .int) rm_X2_giftsEnough (some (.int r)) σ σ 30 [(0, .int l0), (1, .int l1), (2, .int l2), (3, .int l3), (4, .int l4)] [] := by
  intro l3 l4 h
  unfold b_X2_giftsEnough_30 at h
  refine v_iincN 33 4 h dX2_giftsEnough_30 rfl kc_i_1 (by decide) rfl (fun _ => rfl) (fun x1 h => ?_)
  refine v_goto 5 dX2_giftsEnough_33 (by decide) ?_
  refine v_sub [1, 2, 3, 4, 0] rfl ?_
  exact hc5 l3 x1 h
set_option maxRecDepth 100000 in
set_option maxHeartbeats 4000000 in
theorem q_X2_giftsEnough_5 {g : Cx} {σ : Sg} (l0 : Int32) (l1 : Int32) (l2 : Int32) (r : Int32) : ∀ f : Nat, ∀ l3 : Int32, ∀ l4 : Int32, b_X2_giftsEnough_5 l0 l1 l2 f l3 l4 = some r → V g cX2_giftsEnough RX2 wsX2_giftsEnough 5 (some .int) rm_X2_giftsEnough (some (.int r)) σ σ 5 [(0, .int l0), (1, .int l1), (2, .int l2), (3, .int l3), (4, .int l4)] [] := by
  intro f
  induction f with
  | zero =>
    intro l3 l4 h
    cases h
  | succ f ih =>
    intro l3 l4 h
    rw [b_X2_giftsEnough_5] at h
    refine v_iload 7 4 dX2_giftsEnough_5 rfl rfl ?_
    refine v_bipush 9 9 dX2_giftsEnough_7 kc_b_9 rfl ?_
    refine v_icmp_gt 12 36 h dX2_giftsEnough_9 rfl (by decide) (fun h => ?_) (fun h => ?_)
    · refine v_iload_n 37 3 dX2_giftsEnough_36 rfl rfl rfl ?_
      exact v_iretP h rfl dX2_giftsEnough_37
    · refine v_iload_n 13 0 dX2_giftsEnough_12 rfl rfl rfl ?_
      refine v_iload_n 14 1 dX2_giftsEnough_13 rfl rfl rfl ?_
      refine v_iload_n 15 2 dX2_giftsEnough_14 rfl rfl rfl ?_
      refine v_iload 17 4 dX2_giftsEnough_15 rfl rfl ?_
      refine v_cS 20 [.int l0, .int l1, .int l2, .int l4] (c_X2_lends l0 l1 l2 l4) cl_X2_lends gX2_giftsEnough_X2_lends ⟨Nat.le_of_ble_eq_true rfl, Nat.le_of_ble_eq_true rfl⟩ rfl rfl (Nat.le_of_ble_eq_true rfl) dX2_giftsEnough_17 rfl ?_
      refine v_if_eq 23 30 h dX2_giftsEnough_20 rfl (by decide) (fun h => ?_) (fun h => ?_)
      · refine v_sub [0, 1, 2, 3, 4] rfl ?_
        exact q_X2_giftsEnough_30 l0 l1 l2 r (b_X2_giftsEnough_5 l0 l1 l2 f) ih l3 l4 h
      · refine v_iload_n 24 3 dX2_giftsEnough_23 rfl rfl rfl ?_
        refine v_iconst 25 1 dX2_giftsEnough_24 kc_i_1 rfl ?_
        refine v_iload 27 4 dX2_giftsEnough_25 rfl rfl ?_
        refine v_ishl 28 dX2_giftsEnough_27 rfl ?_
        refine v_ior 29 dX2_giftsEnough_28 rfl ?_
        refine v_istoreN_n 30 h dX2_giftsEnough_29 rfl (by decide) rfl (fun _ => rfl) (fun x2 h => ?_)
        refine v_sub [1, 2, 3, 0, 4] rfl ?_
        exact q_X2_giftsEnough_30 l0 l1 l2 r (b_X2_giftsEnough_5 l0 l1 l2 f) ih x2 l4 h
set_option maxRecDepth 100000 in
set_option maxHeartbeats 4000000 in
theorem c_X2_giftsEnough {g : Cx} {σ : Sg} (l0 : Int32) (l1 : Int32) (l2 : Int32) (r : Int32) (h : f_X2_giftsEnough l0 l1 l2 = some r) : ∀ l, MetF l yX2_giftsEnough wsX2_giftsEnough rm_X2_giftsEnough g [.int l0, .int l1, .int l2] σ (some (.int r)) σ := by
  refine MetF.of (own0 := RX2) (lv0 := [(0, .int l0), (1, .int l1), (2, .int l2)]) rfl cl_X2_giftsEnough (by decide) (Nat.le_of_ble_eq_true rfl) rfl ?_
  unfold f_X2_giftsEnough at h
  refine v_iconst 1 0 dX2_giftsEnough_0 kc_i_0 rfl ?_
  refine v_istore_n 2 dX2_giftsEnough_1 rfl (by decide) rfl rfl ?_
  refine v_iconst 3 0 dX2_giftsEnough_2 kc_i_0 rfl ?_
  refine v_istore 5 dX2_giftsEnough_3 (by decide) rfl rfl ?_
  refine v_sub [2, 3, 4, 1, 0] rfl ?_
  exact q_X2_giftsEnough_5 l0 l1 l2 r FU 0 0 h
-- static int leastGift(int, int, int);
abbrev rm_X2_leastGift : Room := { frames := 2, cells := 0, slots := 0, locals := 44 }
theorem cl_X2_leastGift : Cl yX2_leastGift wsX2_leastGift cX2_leastGift 4 (some .int) rm_X2_leastGift 3 := ⟨⟨_, rfl⟩, rfl, rfl, by decide +kernel, by decide +kernel, by decide +kernel⟩
def b_X2_leastGift_2 (l0 : Int32) (l1 : Int32) (l2 : Int32) : Nat → Int32 → Option Int32
  | 0, _ => none
  | f + 1, l3 => (if 9 < l3 then (some ((-1))) else (if (f_X2_lends l0 l1 l2 l3) = 0 then nam (l3 + 1) fun x1 => b_X2_leastGift_2 l0 l1 l2 f x1 else (some (l3))))
def f_X2_leastGift (l0 : Int32) (l1 : Int32) (l2 : Int32) : Option Int32 := b_X2_leastGift_2 l0 l1 l2 FU 0
set_option maxRecDepth 100000 in
set_option maxHeartbeats 4000000 in
theorem q_X2_leastGift_2 {g : Cx} {σ : Sg} (l0 : Int32) (l1 : Int32) (l2 : Int32) (r : Int32) : ∀ f : Nat, ∀ l3 : Int32, b_X2_leastGift_2 l0 l1 l2 f l3 = some r → V g cX2_leastGift RX2 wsX2_leastGift 4 (some .int) rm_X2_leastGift (some (.int r)) σ σ 2 [(0, .int l0), (1, .int l1), (2, .int l2), (3, .int l3)] [] := by
  intro f
  induction f with
  | zero =>
    intro l3 h
    cases h
  | succ f ih =>
    intro l3 h
    rw [b_X2_leastGift_2] at h
    refine v_iload_n 3 3 dX2_leastGift_2 rfl rfl rfl ?_
    refine v_bipush 5 9 dX2_leastGift_3 kc_b_9 rfl ?_
    refine v_icmp_gt 8 26 h dX2_leastGift_5 rfl (by decide) (fun h => ?_) (fun h => ?_)
    · refine v_iconst 27 (-1) dX2_leastGift_26 kc_i_m1 rfl ?_
      exact v_iretP h rfl dX2_leastGift_27
    · refine v_iload_n 9 0 dX2_leastGift_8 rfl rfl rfl ?_
      refine v_iload_n 10 1 dX2_leastGift_9 rfl rfl rfl ?_
      refine v_iload_n 11 2 dX2_leastGift_10 rfl rfl rfl ?_
      refine v_iload_n 12 3 dX2_leastGift_11 rfl rfl rfl ?_
      refine v_cS 15 [.int l0, .int l1, .int l2, .int l3] (c_X2_lends l0 l1 l2 l3) cl_X2_lends gX2_leastGift_X2_lends ⟨Nat.le_of_ble_eq_true rfl, Nat.le_of_ble_eq_true rfl⟩ rfl rfl (Nat.le_of_ble_eq_true rfl) dX2_leastGift_12 rfl ?_
      refine v_if_eq 18 20 h dX2_leastGift_15 rfl (by decide) (fun h => ?_) (fun h => ?_)
      · refine v_iincN 23 3 h dX2_leastGift_20 rfl kc_i_1 (by decide) rfl (fun _ => rfl) (fun x1 h => ?_)
        refine v_goto 2 dX2_leastGift_23 (by decide) ?_
        refine v_sub [1, 2, 3, 0] rfl ?_
        exact ih x1 h
      · refine v_iload_n 19 3 dX2_leastGift_18 rfl rfl rfl ?_
        exact v_iretP h rfl dX2_leastGift_19
set_option maxRecDepth 100000 in
set_option maxHeartbeats 4000000 in
theorem c_X2_leastGift {g : Cx} {σ : Sg} (l0 : Int32) (l1 : Int32) (l2 : Int32) (r : Int32) (h : f_X2_leastGift l0 l1 l2 = some r) : ∀ l, MetF l yX2_leastGift wsX2_leastGift rm_X2_leastGift g [.int l0, .int l1, .int l2] σ (some (.int r)) σ := by
  refine MetF.of (own0 := RX2) (lv0 := [(0, .int l0), (1, .int l1), (2, .int l2)]) rfl cl_X2_leastGift (by decide) (Nat.le_of_ble_eq_true rfl) rfl ?_
  unfold f_X2_leastGift at h
  refine v_iconst 1 0 dX2_leastGift_0 kc_i_0 rfl ?_
  refine v_istore_n 2 dX2_leastGift_1 rfl (by decide) rfl rfl ?_
  refine v_sub [1, 2, 3, 0] rfl ?_
  exact q_X2_leastGift_2 l0 l1 l2 r FU 0 h
-- private static boolean between(int, int, int);
abbrev rm_X11_between : Room := { frames := 0, cells := 0, slots := 0, locals := 0 }
theorem cl_X11_between : Cl yX11_between wsX11_between cX11_between 3 (some .boolean) rm_X11_between 3 := ⟨⟨_, rfl⟩, rfl, rfl, by decide +kernel, by decide +kernel, by decide +kernel⟩
def f_X11_between (l0 : Int32) (l1 : Int32) (l2 : Int32) : Int32 := (if l0 < l1 then 0 else (if l2 < l0 then 0 else 1))
theorem zb_X11_between {l0 : Int32} {l1 : Int32} {l2 : Int32} : f_X11_between l0 l1 l2 = 0 ∨ f_X11_between l0 l1 l2 = 1 := by
  unfold f_X11_between
  try simp only [nam]
  repeat' (first | exact Or.inl rfl | exact Or.inr rfl | split)
set_option maxRecDepth 100000 in
set_option maxHeartbeats 4000000 in
theorem c_X11_between {g : Cx} {σ : Sg} (l0 : Int32) (l1 : Int32) (l2 : Int32) : ∀ l, MetF l yX11_between wsX11_between rm_X11_between g [.int l0, .int l1, .int l2] σ (some (.int (f_X11_between l0 l1 l2))) σ := by
  have main : ∀ r : Int32, f_X11_between l0 l1 l2 = r → ∀ l, MetF l yX11_between wsX11_between rm_X11_between g [.int l0, .int l1, .int l2] σ (some (.int r)) σ := by
    intro r h
    refine MetF.of (own0 := RX11) (lv0 := [(0, .int l0), (1, .int l1), (2, .int l2)]) rfl cl_X11_between (by decide) (Nat.le_of_ble_eq_true rfl) rfl ?_
    unfold f_X11_between at h
    refine v_iload_n 1 0 dX11_between_0 rfl rfl rfl ?_
    refine v_iload_n 2 1 dX11_between_1 rfl rfl rfl ?_
    refine v_icmp_lt 5 14 h dX11_between_2 rfl (by decide) (fun h => ?_) (fun h => ?_)
    · refine v_iconst 15 0 dX11_between_14 kc_i_0 rfl ?_
      exact v_zretT h rfl (Or.inl rfl) dX11_between_15
    · refine v_iload_n 6 0 dX11_between_5 rfl rfl rfl ?_
      refine v_iload_n 7 2 dX11_between_6 rfl rfl rfl ?_
      refine v_icmp_gt 10 14 h dX11_between_7 rfl (by decide) (fun h => ?_) (fun h => ?_)
      · refine v_iconst 15 0 dX11_between_14 kc_i_0 rfl ?_
        exact v_zretT h rfl (Or.inl rfl) dX11_between_15
      · refine v_iconst 11 1 dX11_between_10 kc_i_1 rfl ?_
        refine v_goto 15 dX11_between_11 (by decide) ?_
        exact v_zretT h rfl (Or.inr rfl) dX11_between_15
  exact main _ rfl
-- boolean isFull();
abbrev rm_X7_isFull : Room := { frames := 0, cells := 0, slots := 0, locals := 0 }
theorem cl_X7_isFull : Cl yX7_isFull wsX7_isFull cX7_isFull 1 (some .boolean) rm_X7_isFull 0 := ⟨⟨_, rfl⟩, rfl, rfl, by decide +kernel, by decide +kernel, by decide +kernel⟩
theorem in_X7_isFull_4 : ∀ w ∈ wsX70, w ∈ wsX7_isFull := fun w h => List.mem_cons_of_mem _ (List.mem_append_right _ h)
def f_X7_isFull (σ : Sg) (k0 : Nat) : Int32 := (if (rI σ k0 1) < (nI (kLen (k0 + 1))) then 0 else 1)
theorem zb_X7_isFull {σ : Sg} {k0 : Nat} : f_X7_isFull σ k0 = 0 ∨ f_X7_isFull σ k0 = 1 := by
  unfold f_X7_isFull
  try simp only [nam]
  repeat' (first | exact Or.inl rfl | exact Or.inr rfl | split)
set_option maxRecDepth 100000 in
set_option maxHeartbeats 4000000 in
theorem c_X7_isFull {g : Cx} {σ : Sg} (k0 : Nat) (hk0 : kK k0 = 4) : ∀ l, MetF l yX7_isFull wsX7_isFull rm_X7_isFull g [.ref (g.1 k0)] σ (some (.int (f_X7_isFull σ k0))) σ := by
  have main : ∀ r : Int32, f_X7_isFull σ k0 = r → ∀ l, MetF l yX7_isFull wsX7_isFull rm_X7_isFull g [.ref (g.1 k0)] σ (some (.int r)) σ := by
    intro r h
    refine MetF.of (own0 := RX7) (lv0 := [(0, .ref (g.1 k0))]) rfl cl_X7_isFull (by decide) (Nat.le_of_ble_eq_true rfl) rfl ?_
    unfold f_X7_isFull at h
    refine v_aload_n 1 0 dX7_isFull_0 rfl rfl rfl ?_
    refine vg_4_1 4 hk0 in_X7_isFull_4 (mem_at 1 rfl) dX7_isFull_1 rfl ?_
    refine v_aload_n 5 0 dX7_isFull_4 rfl rfl rfl ?_
    refine vg_4_0 8 (k0 + 1) hk0 in_X7_isFull_4 (mem_at 2 rfl) rfl dX7_isFull_5 rfl ?_
    refine v_alen 9 (kf_4_0 hk0) dX7_isFull_8 rfl ?_
    refine v_icmp_lt 12 16 h dX7_isFull_9 rfl (by decide) (fun h => ?_) (fun h => ?_)
    · refine v_iconst 17 0 dX7_isFull_16 kc_i_0 rfl ?_
      exact v_zretT h rfl (Or.inl rfl) dX7_isFull_17
    · refine v_iconst 13 1 dX7_isFull_12 kc_i_1 rfl ?_
      refine v_goto 17 dX7_isFull_13 (by decide) ?_
      exact v_zretT h rfl (Or.inr rfl) dX7_isFull_17
  exact main _ rfl
-- void dropLast(int);
abbrev rm_X7_dropLast : Room := { frames := 1, cells := 0, slots := 0, locals := 21 }
theorem cl_X7_dropLast : Cl yX7_dropLast wsX7_dropLast cX7_dropLast 2 none rm_X7_dropLast 1 := ⟨⟨_, rfl⟩, rfl, rfl, by decide +kernel, by decide +kernel, by decide +kernel⟩
theorem in_X7_dropLast_4 : ∀ w ∈ wsX70, w ∈ wsX7_dropLast := fun w h => List.mem_cons_of_mem _ (List.mem_append_right _ h)
def f_X7_dropLast (σ : Sg) (k0 : Nat) (l1 : Int32) : Option Sg := nam (stI σ k0 1 (if ((rI σ k0 1) - (if l1 < 0 then 0 else l1)) < 0 then 0 else ((rI σ k0 1) - (if l1 < 0 then 0 else l1)))) fun s1 => (some s1)
set_option maxRecDepth 100000 in
set_option maxHeartbeats 4000000 in
theorem c_X7_dropLast {g : Cx} {σ : Sg} (k0 : Nat) (l1 : Int32) (hk0 : kK k0 = 4) (τ : Sg) (h : f_X7_dropLast σ k0 l1 = some τ) : ∀ l, MetF l yX7_dropLast wsX7_dropLast rm_X7_dropLast g [.ref (g.1 k0), .int l1] σ none τ := by
  refine MetF.of (own0 := RX7) (lv0 := [(0, .ref (g.1 k0)), (1, .int l1)]) rfl cl_X7_dropLast (by decide) (Nat.le_of_ble_eq_true rfl) rfl ?_
  unfold f_X7_dropLast at h
  refine v_aload_n 1 0 dX7_dropLast_0 rfl rfl rfl ?_
  refine v_aload_n 2 0 dX7_dropLast_1 rfl rfl rfl ?_
  refine vg_4_1 5 hk0 in_X7_dropLast_4 (mem_at 1 rfl) dX7_dropLast_2 rfl ?_
  refine v_iload_n 6 1 dX7_dropLast_5 rfl rfl rfl ?_
  refine v_iconst 7 0 dX7_dropLast_6 kc_i_0 rfl ?_
  refine v_max 10 (mem_at 2 rfl) (mem_at 3 rfl) (mem_at 4 rfl) (mem_at 5 rfl) ⟨Nat.le_of_ble_eq_true rfl, Nat.le_of_ble_eq_true rfl⟩ (Nat.le_of_ble_eq_true rfl) dX7_dropLast_7 rfl ?_
  refine v_isub 11 dX7_dropLast_10 rfl ?_
  refine v_iconst 12 0 dX7_dropLast_11 kc_i_0 rfl ?_
  refine v_max 15 (mem_at 2 rfl) (mem_at 3 rfl) (mem_at 4 rfl) (mem_at 5 rfl) ⟨Nat.le_of_ble_eq_true rfl, Nat.le_of_ble_eq_true rfl⟩ (Nat.le_of_ble_eq_true rfl) dX7_dropLast_12 rfl ?_
  refine vp_4_1 18 h hk0 in_X7_dropLast_4 (mem_at 1 rfl) dX7_dropLast_15 rfl (fun s1 h => ?_)
  exact v_vretS h rfl dX7_dropLast_18
-- void dropFirst(int);
abbrev rm_X7_dropFirst : Room := { frames := 2, cells := 0, slots := 0, locals := 42 }
theorem cl_X7_dropFirst : Cl yX7_dropFirst wsX7_dropFirst cX7_dropFirst 4 none rm_X7_dropFirst 1 := ⟨⟨_, rfl⟩, rfl, rfl, by decide +kernel, by decide +kernel, by decide +kernel⟩
theorem in_X7_dropFirst_4 : ∀ w ∈ wsX70, w ∈ wsX7_dropFirst := fun w h => List.mem_cons_of_mem _ (List.mem_append_right _ h)
def b_X7_dropFirst_8 (k0 : Nat) (l1 : Int32) : Nat → Sg → Int32 → Int32 → Option Sg
  | 0, _, _, _ => none
  | f + 1, σ, l2, l3 => (if (rI σ k0 1) ≤ (l3 + l2) then (f_X7_dropLast σ k0 l2).bind fun s2 => (some s2) else (f_X7_at σ k0 (l3 + l2)).bind fun x3 => (f_X7_put σ k0 l3 x3).bind fun s4 => nam (l3 + 1) fun x5 => b_X7_dropFirst_8 k0 l1 f s4 l2 x5)
def f_X7_dropFirst (σ : Sg) (k0 : Nat) (l1 : Int32) : Option Sg := nam (if l1 < 0 then 0 else l1) fun x1 => b_X7_dropFirst_8 k0 l1 FU σ x1 0
set_option maxRecDepth 100000 in
set_option maxHeartbeats 4000000 in
theorem q_X7_dropFirst_8 {g : Cx} (k0 : Nat) (l1 : Int32) (hk0 : kK k0 = 4) (τ : Sg) : ∀ f : Nat, ∀ σ : Sg, ∀ l2 : Int32, ∀ l3 : Int32, b_X7_dropFirst_8 k0 l1 f σ l2 l3 = some τ → V g cX7_dropFirst RX7 wsX7_dropFirst 4 none rm_X7_dropFirst none τ σ 8 [(0, .ref (g.1 k0)), (2, .int l2), (3, .int l3)] [] := by
  intro f
  induction f with
  | zero =>
    intro σ l2 l3 h
    cases h
  | succ f ih =>
    intro σ l2 l3 h
    rw [b_X7_dropFirst_8] at h
    refine v_iload_n 9 2 dX7_dropFirst_8 rfl rfl rfl ?_
    refine v_iload_n 10 1 dX7_dropFirst_9 rfl rfl rfl ?_
    refine v_iadd 11 dX7_dropFirst_10 rfl ?_
    refine v_aload_n 12 0 dX7_dropFirst_11 rfl rfl rfl ?_
    refine vg_4_1 15 hk0 in_X7_dropFirst_4 (mem_at 5 rfl) dX7_dropFirst_12 rfl ?_
    refine v_icmp_ge 18 36 h dX7_dropFirst_15 rfl (by decide) (fun h => ?_) (fun h => ?_)
    · refine v_aload_n 37 0 dX7_dropFirst_36 rfl rfl rfl ?_
      refine v_iload_n 38 1 dX7_dropFirst_37 rfl rfl rfl ?_
      obtain ⟨s2, h0, h⟩ := ob h
      refine v_cV 41 4 [.int l2] hk0 rfl (c_X7_dropLast k0 l2 hk0 _ h0) cl_X7_dropLast gX7_dropFirst_X7_dropLast rfl ⟨Nat.le_of_ble_eq_true rfl, Nat.le_of_ble_eq_true rfl⟩ rfl rfl (Nat.le_of_ble_eq_true rfl) dX7_dropFirst_38 rfl ?_
      exact v_vretS h rfl dX7_dropFirst_41
    · refine v_aload_n 19 0 dX7_dropFirst_18 rfl rfl rfl ?_
      refine v_iload_n 20 2 dX7_dropFirst_19 rfl rfl rfl ?_
      refine v_aload_n 21 0 dX7_dropFirst_20 rfl rfl rfl ?_
      refine v_iload_n 22 2 dX7_dropFirst_21 rfl rfl rfl ?_
      refine v_iload_n 23 1 dX7_dropFirst_22 rfl rfl rfl ?_
      refine v_iadd 24 dX7_dropFirst_23 rfl ?_
      obtain ⟨x3, h0, h⟩ := ob h
      refine v_cV 27 4 [.int (l3 + l2)] hk0 rfl (c_X7_at k0 (l3 + l2) hk0 _ h0) cl_X7_at gX7_dropFirst_X7_at rfl ⟨Nat.le_of_ble_eq_true rfl, Nat.le_of_ble_eq_true rfl⟩ rfl rfl (Nat.le_of_ble_eq_true rfl) dX7_dropFirst_24 rfl ?_
      obtain ⟨s4, h0, h⟩ := ob h
      refine v_cV 30 4 [.int l3, .int x3] hk0 rfl (c_X7_put k0 l3 x3 hk0 _ h0) cl_X7_put gX7_dropFirst_X7_put rfl ⟨Nat.le_of_ble_eq_true rfl, Nat.le_of_ble_eq_true rfl⟩ rfl rfl (Nat.le_of_ble_eq_true rfl) dX7_dropFirst_27 rfl ?_
      refine v_iincN 33 2 h dX7_dropFirst_30 rfl kc_i_1 (by decide) rfl (fun _ => rfl) (fun x5 h => ?_)
      refine v_goto 8 dX7_dropFirst_33 (by decide) ?_
      refine v_sub [1, 2, 0] rfl ?_
      exact ih s4 l2 x5 h
set_option maxRecDepth 100000 in
set_option maxHeartbeats 4000000 in
theorem c_X7_dropFirst {g : Cx} {σ : Sg} (k0 : Nat) (l1 : Int32) (hk0 : kK k0 = 4) (τ : Sg) (h : f_X7_dropFirst σ k0 l1 = some τ) : ∀ l, MetF l yX7_dropFirst wsX7_dropFirst rm_X7_dropFirst g [.ref (g.1 k0), .int l1] σ none τ := by
  refine MetF.of (own0 := RX7) (lv0 := [(0, .ref (g.1 k0)), (1, .int l1)]) rfl cl_X7_dropFirst (by decide) (Nat.le_of_ble_eq_true rfl) rfl ?_
  unfold f_X7_dropFirst at h
  refine v_iload_n 1 1 dX7_dropFirst_0 rfl rfl rfl ?_
  refine v_iconst 2 0 dX7_dropFirst_1 kc_i_0 rfl ?_
  refine v_max 5 (mem_at 1 rfl) (mem_at 2 rfl) (mem_at 3 rfl) (mem_at 4 rfl) ⟨Nat.le_of_ble_eq_true rfl, Nat.le_of_ble_eq_true rfl⟩ (Nat.le_of_ble_eq_true rfl) dX7_dropFirst_2 rfl ?_
  refine v_istoreN_n 6 h dX7_dropFirst_5 rfl (by decide) rfl (fun _ => rfl) (fun x1 h => ?_)
  refine v_iconst 7 0 dX7_dropFirst_6 kc_i_0 rfl ?_
  refine v_istore_n 8 dX7_dropFirst_7 rfl (by decide) rfl rfl ?_
  refine v_sub [2, 1, 0] rfl ?_
  exact q_X7_dropFirst_8 k0 l1 hk0 τ FU σ x1 0 h
-- void take(WidowWeight$Row);
abbrev rm_X7_take : Room := { frames := 1, cells := 0, slots := 0, locals := 21 }
theorem cl_X7_take : Cl yX7_take wsX7_take cX7_take 3 none rm_X7_take 1 := ⟨⟨_, rfl⟩, rfl, rfl, by decide +kernel, by decide +kernel, by decide +kernel⟩
theorem in_X7_take_4 : ∀ w ∈ wsX70, w ∈ wsX7_take := fun w h => List.mem_cons_of_mem _ (List.mem_append_right _ h)
def b_X7_take_6 (k0 : Nat) (k1 : Nat) : Nat → Sg → Int32 → Option Sg
  | 0, _, _ => none
  | f + 1, σ, l2 => (if (rI σ k1 1) ≤ l2 then (some σ) else (f_X7_at σ k1 l2).bind fun x2 => (f_X7_add σ k0 x2).bind fun s3 => nam (l2 + 1) fun x4 => b_X7_take_6 k0 k1 f s3 x4)
def f_X7_take (σ : Sg) (k0 : Nat) (k1 : Nat) : Option Sg := (f_X7_restart σ k0).bind fun s1 => b_X7_take_6 k0 k1 FU s1 0
set_option maxRecDepth 100000 in
set_option maxHeartbeats 4000000 in
theorem q_X7_take_6 {g : Cx} (k0 : Nat) (k1 : Nat) (hk0 : kK k0 = 4) (hk1 : kK k1 = 4) (τ : Sg) : ∀ f : Nat, ∀ σ : Sg, ∀ l2 : Int32, b_X7_take_6 k0 k1 f σ l2 = some τ → V g cX7_take RX7 wsX7_take 3 none rm_X7_take none τ σ 6 [(0, .ref (g.1 k0)), (1, .ref (g.1 k1)), (2, .int l2)] [] := by
  intro f
  induction f with
  | zero =>
    intro σ l2 h
    cases h
  | succ f ih =>
    intro σ l2 h
    rw [b_X7_take_6] at h
    refine v_iload_n 7 2 dX7_take_6 rfl rfl rfl ?_
    refine v_aload_n 8 1 dX7_take_7 rfl rfl rfl ?_
    refine vg_4_1 11 hk1 in_X7_take_4 (mem_at 1 rfl) dX7_take_8 rfl ?_
    refine v_icmp_ge 14 29 h dX7_take_11 rfl (by decide) (fun h => ?_) (fun h => ?_)
    · exact v_vretS h rfl dX7_take_29
    · refine v_aload_n 15 0 dX7_take_14 rfl rfl rfl ?_
      refine v_aload_n 16 1 dX7_take_15 rfl rfl rfl ?_
      refine v_iload_n 17 2 dX7_take_16 rfl rfl rfl ?_
      obtain ⟨x2, h0, h⟩ := ob h
      refine v_cV 20 4 [.int l2] hk1 rfl (c_X7_at k1 l2 hk1 _ h0) cl_X7_at gX7_take_X7_at rfl ⟨Nat.le_of_ble_eq_true rfl, Nat.le_of_ble_eq_true rfl⟩ rfl rfl (Nat.le_of_ble_eq_true rfl) dX7_take_17 rfl ?_
      obtain ⟨s3, h0, h⟩ := ob h
      refine v_cV 23 4 [.int x2] hk0 rfl (c_X7_add k0 x2 hk0 _ h0) cl_X7_add gX7_take_X7_add rfl ⟨Nat.le_of_ble_eq_true rfl, Nat.le_of_ble_eq_true rfl⟩ rfl rfl (Nat.le_of_ble_eq_true rfl) dX7_take_20 rfl ?_
      refine v_iincN 26 2 h dX7_take_23 rfl kc_i_1 (by decide) rfl (fun _ => rfl) (fun x4 h => ?_)
      refine v_goto 6 dX7_take_26 (by decide) ?_
      refine v_sub [1, 2, 0] rfl ?_
      exact ih s3 x4 h
set_option maxRecDepth 100000 in
set_option maxHeartbeats 4000000 in
theorem c_X7_take {g : Cx} {σ : Sg} (k0 : Nat) (k1 : Nat) (hk0 : kK k0 = 4) (hk1 : kK k1 = 4) (τ : Sg) (h : f_X7_take σ k0 k1 = some τ) : ∀ l, MetF l yX7_take wsX7_take rm_X7_take g [.ref (g.1 k0), .ref (g.1 k1)] σ none τ := by
  refine MetF.of (own0 := RX7) (lv0 := [(0, .ref (g.1 k0)), (1, .ref (g.1 k1))]) rfl cl_X7_take (by decide) (Nat.le_of_ble_eq_true rfl) rfl ?_
  unfold f_X7_take at h
  refine v_aload_n 1 0 dX7_take_0 rfl rfl rfl ?_
  obtain ⟨s1, h0, h⟩ := ob h
  refine v_cV 4 4 [] hk0 rfl (c_X7_restart k0 hk0 _ h0) cl_X7_restart gX7_take_X7_restart rfl ⟨Nat.le_of_ble_eq_true rfl, Nat.le_of_ble_eq_true rfl⟩ rfl rfl (Nat.le_of_ble_eq_true rfl) dX7_take_1 rfl ?_
  refine v_iconst 5 0 dX7_take_4 kc_i_0 rfl ?_
  refine v_istore_n 6 dX7_take_5 rfl (by decide) rfl rfl ?_
  refine v_sub [1, 2, 0] rfl ?_
  exact q_X7_take_6 k0 k1 hk0 hk1 τ FU s1 0 h
-- long mixedInto(long);
abbrev rm_X7_mixedInto : Room := { frames := 1, cells := 0, slots := 0, locals := 21 }
theorem cl_X7_mixedInto : Cl yX7_mixedInto wsX7_mixedInto cX7_mixedInto 4 (some .long) rm_X7_mixedInto 1 := ⟨⟨_, rfl⟩, rfl, rfl, by decide +kernel, by decide +kernel, by decide +kernel⟩
theorem in_X7_mixedInto_4 : ∀ w ∈ wsX70, w ∈ wsX7_mixedInto := fun w h => List.mem_cons_of_mem _ (List.mem_append_right _ h)
def b_X7_mixedInto_2 (σ : Sg) (k0 : Nat) : Nat → Int64 → Int32 → Option Int64
  | 0, _, _ => none
  | f + 1, l1, l3 => (if (rI σ k0 1) ≤ l3 then (some (l1)) else (f_X7_at σ k0 l3).bind fun x1 => nam ((31 * l1) + (Int32.toInt64 x1)) fun x2 => nam (l3 + 1) fun x3 => b_X7_mixedInto_2 σ k0 f x2 x3)
def f_X7_mixedInto (σ : Sg) (k0 : Nat) (l1 : Int64) : Option Int64 := b_X7_mixedInto_2 σ k0 FU l1 0
set_option maxRecDepth 100000 in
set_option maxHeartbeats 4000000 in
theorem q_X7_mixedInto_2 {g : Cx} (σ : Sg) (k0 : Nat) (hk0 : kK k0 = 4) (r : Int64) : ∀ f : Nat, ∀ l1 : Int64, ∀ l3 : Int32, b_X7_mixedInto_2 σ k0 f l1 l3 = some r → V g cX7_mixedInto RX7 wsX7_mixedInto 4 (some .long) rm_X7_mixedInto (some (.long r)) σ σ 2 [(0, .ref (g.1 k0)), (1, .long l1), (3, .int l3)] [] := by
  intro f
  induction f with
  | zero =>
    intro l1 l3 h
    cases h
  | succ f ih =>
    intro l1 l3 h
    rw [b_X7_mixedInto_2] at h
    refine v_iload_n 3 2 dX7_mixedInto_2 rfl rfl rfl ?_
    refine v_aload_n 4 0 dX7_mixedInto_3 rfl rfl rfl ?_
    refine vg_4_1 7 hk0 in_X7_mixedInto_4 (mem_at 1 rfl) dX7_mixedInto_4 rfl ?_
    refine v_icmp_ge 10 29 h dX7_mixedInto_7 rfl (by decide) (fun h => ?_) (fun h => ?_)
    · refine v_lload_n 30 1 dX7_mixedInto_29 rfl rfl rfl ?_
      exact v_lretP h rfl dX7_mixedInto_30
    · refine v_ldc2 13 31 dX7_mixedInto_10 (mem_at 2 rfl) rfl ?_
      refine v_lload_n 14 1 dX7_mixedInto_13 rfl rfl rfl ?_
      refine v_lmul 15 dX7_mixedInto_14 rfl ?_
      refine v_aload_n 16 0 dX7_mixedInto_15 rfl rfl rfl ?_
      refine v_iload_n 17 2 dX7_mixedInto_16 rfl rfl rfl ?_
      obtain ⟨x1, h0, h⟩ := ob h
      refine v_cV 20 4 [.int l3] hk0 rfl (c_X7_at k0 l3 hk0 _ h0) cl_X7_at gX7_mixedInto_X7_at rfl ⟨Nat.le_of_ble_eq_true rfl, Nat.le_of_ble_eq_true rfl⟩ rfl rfl (Nat.le_of_ble_eq_true rfl) dX7_mixedInto_17 rfl ?_
      refine v_i2l 21 dX7_mixedInto_20 rfl ?_
      refine v_ladd 22 dX7_mixedInto_21 rfl ?_
      refine v_lstoreN_n 23 h dX7_mixedInto_22 rfl (by decide) rfl (fun _ => rfl) (fun x2 h => ?_)
      refine v_iincN 26 2 h dX7_mixedInto_23 rfl kc_i_1 (by decide) rfl (fun _ => rfl) (fun x3 h => ?_)
      refine v_goto 2 dX7_mixedInto_26 (by decide) ?_
      refine v_sub [2, 1, 0] rfl ?_
      exact ih x2 x3 h
set_option maxRecDepth 100000 in
set_option maxHeartbeats 4000000 in
theorem c_X7_mixedInto {g : Cx} {σ : Sg} (k0 : Nat) (l1 : Int64) (hk0 : kK k0 = 4) (r : Int64) (h : f_X7_mixedInto σ k0 l1 = some r) : ∀ l, MetF l yX7_mixedInto wsX7_mixedInto rm_X7_mixedInto g [.ref (g.1 k0), .long l1] σ (some (.long r)) σ := by
  refine MetF.of (own0 := RX7) (lv0 := [(0, .ref (g.1 k0)), (1, .long l1)]) rfl cl_X7_mixedInto (by decide) (Nat.le_of_ble_eq_true rfl) rfl ?_
  unfold f_X7_mixedInto at h
  refine v_iconst 1 0 dX7_mixedInto_0 kc_i_0 rfl ?_
  refine v_istore_n 2 dX7_mixedInto_1 rfl (by decide) rfl rfl ?_
  refine v_sub [1, 2, 0] rfl ?_
  exact q_X7_mixedInto_2 σ k0 hk0 r FU l1 0 h
-- void useAll();
abbrev rm_X7_useAll : Room := { frames := 0, cells := 0, slots := 0, locals := 0 }
theorem cl_X7_useAll : Cl yX7_useAll wsX7_useAll cX7_useAll 1 none rm_X7_useAll 0 := ⟨⟨_, rfl⟩, rfl, rfl, by decide +kernel, by decide +kernel, by decide +kernel⟩
theorem in_X7_useAll_4 : ∀ w ∈ wsX70, w ∈ wsX7_useAll := fun w h => List.mem_cons_of_mem _ (List.mem_append_right _ h)
def f_X7_useAll (σ : Sg) (k0 : Nat) : Option Sg := nam (stI σ k0 1 (nI (kLen (k0 + 1)))) fun s1 => (some s1)
set_option maxRecDepth 100000 in
set_option maxHeartbeats 4000000 in
theorem c_X7_useAll {g : Cx} {σ : Sg} (k0 : Nat) (hk0 : kK k0 = 4) (τ : Sg) (h : f_X7_useAll σ k0 = some τ) : ∀ l, MetF l yX7_useAll wsX7_useAll rm_X7_useAll g [.ref (g.1 k0)] σ none τ := by
  refine MetF.of (own0 := RX7) (lv0 := [(0, .ref (g.1 k0))]) rfl cl_X7_useAll (by decide) (Nat.le_of_ble_eq_true rfl) rfl ?_
  unfold f_X7_useAll at h
  refine v_aload_n 1 0 dX7_useAll_0 rfl rfl rfl ?_
  refine v_aload_n 2 0 dX7_useAll_1 rfl rfl rfl ?_
  refine vg_4_0 5 (k0 + 1) hk0 in_X7_useAll_4 (mem_at 1 rfl) rfl dX7_useAll_2 rfl ?_
  refine v_alen 6 (kf_4_0 hk0) dX7_useAll_5 rfl ?_
  refine vp_4_1 9 h hk0 in_X7_useAll_4 (mem_at 2 rfl) dX7_useAll_6 rfl (fun s1 h => ?_)
  exact v_vretS h rfl dX7_useAll_9
-- private static boolean isKind(int);
abbrev rm_X11_isKind : Room := { frames := 1, cells := 0, slots := 0, locals := 22 }
theorem cl_X11_isKind : Cl yX11_isKind wsX11_isKind cX11_isKind 1 (some .boolean) rm_X11_isKind 1 := ⟨⟨_, rfl⟩, rfl, rfl, by decide +kernel, by decide +kernel, by decide +kernel⟩
def f_X11_isKind (l0 : Int32) : Int32 := f_X11_between l0 0 5
theorem zb_X11_isKind {l0 : Int32} : f_X11_isKind l0 = 0 ∨ f_X11_isKind l0 = 1 := by
  unfold f_X11_isKind
  try simp only [nam]
  repeat' (first | exact Or.inl rfl | exact Or.inr rfl | split | exact zb_X11_between)
set_option maxRecDepth 100000 in
set_option maxHeartbeats 4000000 in
theorem c_X11_isKind {g : Cx} {σ : Sg} (l0 : Int32) : ∀ l, MetF l yX11_isKind wsX11_isKind rm_X11_isKind g [.int l0] σ (some (.int (f_X11_isKind l0))) σ := by
  have main : ∀ r : Int32, f_X11_isKind l0 = r → ∀ l, MetF l yX11_isKind wsX11_isKind rm_X11_isKind g [.int l0] σ (some (.int r)) σ := by
    intro r h
    refine MetF.of (own0 := RX11) (lv0 := [(0, .int l0)]) rfl cl_X11_isKind (by decide) (Nat.le_of_ble_eq_true rfl) rfl ?_
    unfold f_X11_isKind at h
    refine v_iload_n 1 0 dX11_isKind_0 rfl rfl rfl ?_
    refine v_iconst 2 0 dX11_isKind_1 kc_i_0 rfl ?_
    refine v_iconst 3 5 dX11_isKind_2 kc_i_5 rfl ?_
    refine v_cS 6 [.int l0, .int 0, .int 5] (c_X11_between l0 0 5) cl_X11_between gX11_isKind_X11_between ⟨Nat.le_of_ble_eq_true rfl, Nat.le_of_ble_eq_true rfl⟩ rfl rfl (Nat.le_of_ble_eq_true rfl) dX11_isKind_3 rfl ?_
    exact v_zretT h rfl zb_X11_between dX11_isKind_6
  exact main _ rfl
-- private static int gets(int, int);
abbrev rm_X9_gets : Room := { frames := 1, cells := 0, slots := 0, locals := 21 }
theorem cl_X9_gets : Cl yX9_gets wsX9_gets cX9_gets 2 (some .int) rm_X9_gets 2 := ⟨⟨_, rfl⟩, rfl, rfl, by decide +kernel, by decide +kernel, by decide +kernel⟩
def f_X9_gets (l0 : Int32) (l1 : Int32) : Int32 := (if (f_X11_hasBit l0 l1) = 0 then -(l1 / 2) else 8 - l1)
set_option maxRecDepth 100000 in
set_option maxHeartbeats 4000000 in
theorem c_X9_gets {g : Cx} {σ : Sg} (l0 : Int32) (l1 : Int32) : ∀ l, MetF l yX9_gets wsX9_gets rm_X9_gets g [.int l0, .int l1] σ (some (.int (f_X9_gets l0 l1))) σ := by
  have main : ∀ r : Int32, f_X9_gets l0 l1 = r → ∀ l, MetF l yX9_gets wsX9_gets rm_X9_gets g [.int l0, .int l1] σ (some (.int r)) σ := by
    intro r h
    refine MetF.of (own0 := RX9) (lv0 := [(0, .int l0), (1, .int l1)]) rfl cl_X9_gets (by decide) (Nat.le_of_ble_eq_true rfl) rfl ?_
    unfold f_X9_gets at h
    refine v_iload_n 1 0 dX9_gets_0 rfl rfl rfl ?_
    refine v_iload_n 2 1 dX9_gets_1 rfl rfl rfl ?_
    refine v_cN 5 [.int l0, .int l1] (c_X11_hasBit l0 l1) cl_X11_hasBit gX9_gets_X11_hasBit_n26 nw_X9_26 (mem_at 1 rfl) (mem_at 2 rfl) ⟨Nat.le_of_ble_eq_true rfl, Nat.le_of_ble_eq_true rfl⟩ rfl rfl (Nat.le_of_ble_eq_true rfl) dX9_gets_2 rfl ?_
    refine v_if_eq 8 15 h dX9_gets_5 rfl (by decide) (fun h => ?_) (fun h => ?_)
    · refine v_iload_n 16 1 dX9_gets_15 rfl rfl rfl ?_
      refine v_iconst 17 2 dX9_gets_16 kc_i_2 rfl ?_
      refine v_idiv 18 kc_ne_2 dX9_gets_17 rfl ?_
      refine v_ineg 19 dX9_gets_18 rfl ?_
      exact v_iretT h rfl dX9_gets_19
    · refine v_bipush 10 8 dX9_gets_8 kc_b_8 rfl ?_
      refine v_iload_n 11 1 dX9_gets_10 rfl rfl rfl ?_
      refine v_isub 12 dX9_gets_11 rfl ?_
      refine v_goto 19 dX9_gets_12 (by decide) ?_
      exact v_iretT h rfl dX9_gets_19
  exact main _ rfl
-- private static int firstGets(int, int, int);
abbrev rm_X9_firstGets : Room := { frames := 2, cells := 0, slots := 0, locals := 42 }
theorem cl_X9_firstGets : Cl yX9_firstGets wsX9_firstGets cX9_firstGets 3 (some .int) rm_X9_firstGets 3 := ⟨⟨_, rfl⟩, rfl, rfl, by decide +kernel, by decide +kernel, by decide +kernel⟩
def f_X9_firstGets (l0 : Int32) (l1 : Int32) (l2 : Int32) : Int32 := (if l1 < l2 then -(l1 / 2) else f_X9_gets l0 l1)
set_option maxRecDepth 100000 in
set_option maxHeartbeats 4000000 in
theorem c_X9_firstGets {g : Cx} {σ : Sg} (l0 : Int32) (l1 : Int32) (l2 : Int32) : ∀ l, MetF l yX9_firstGets wsX9_firstGets rm_X9_firstGets g [.int l0, .int l1, .int l2] σ (some (.int (f_X9_firstGets l0 l1 l2))) σ := by
  have main : ∀ r : Int32, f_X9_firstGets l0 l1 l2 = r → ∀ l, MetF l yX9_firstGets wsX9_firstGets rm_X9_firstGets g [.int l0, .int l1, .int l2] σ (some (.int r)) σ := by
    intro r h
    refine MetF.of (own0 := RX9) (lv0 := [(0, .int l0), (1, .int l1), (2, .int l2)]) rfl cl_X9_firstGets (by decide) (Nat.le_of_ble_eq_true rfl) rfl ?_
    unfold f_X9_firstGets at h
    refine v_iload_n 1 1 dX9_firstGets_0 rfl rfl rfl ?_
    refine v_iload_n 2 2 dX9_firstGets_1 rfl rfl rfl ?_
    refine v_icmp_lt 5 13 h dX9_firstGets_2 rfl (by decide) (fun h => ?_) (fun h => ?_)
    · refine v_iload_n 14 1 dX9_firstGets_13 rfl rfl rfl ?_
      refine v_iconst 15 2 dX9_firstGets_14 kc_i_2 rfl ?_
      refine v_idiv 16 kc_ne_2 dX9_firstGets_15 rfl ?_
      refine v_ineg 17 dX9_firstGets_16 rfl ?_
      exact v_iretT h rfl dX9_firstGets_17
    · refine v_iload_n 6 0 dX9_firstGets_5 rfl rfl rfl ?_
      refine v_iload_n 7 1 dX9_firstGets_6 rfl rfl rfl ?_
      refine v_cS 10 [.int l0, .int l1] (c_X9_gets l0 l1) cl_X9_gets gX9_firstGets_X9_gets ⟨Nat.le_of_ble_eq_true rfl, Nat.le_of_ble_eq_true rfl⟩ rfl rfl (Nat.le_of_ble_eq_true rfl) dX9_firstGets_7 rfl ?_
      refine v_goto 17 dX9_firstGets_10 (by decide) ?_
      exact v_iretT h rfl dX9_firstGets_17
  exact main _ rfl
-- private static int secondGets(int, int, int);
abbrev rm_X9_secondGets : Room := { frames := 2, cells := 0, slots := 0, locals := 42 }
theorem cl_X9_secondGets : Cl yX9_secondGets wsX9_secondGets cX9_secondGets 3 (some .int) rm_X9_secondGets 3 := ⟨⟨_, rfl⟩, rfl, rfl, by decide +kernel, by decide +kernel, by decide +kernel⟩
def f_X9_secondGets (l0 : Int32) (l1 : Int32) (l2 : Int32) : Int32 := (if l2 ≤ l1 then -(l2 / 2) else f_X9_gets l0 l2)
set_option maxRecDepth 100000 in
set_option maxHeartbeats 4000000 in
theorem c_X9_secondGets {g : Cx} {σ : Sg} (l0 : Int32) (l1 : Int32) (l2 : Int32) : ∀ l, MetF l yX9_secondGets wsX9_secondGets rm_X9_secondGets g [.int l0, .int l1, .int l2] σ (some (.int (f_X9_secondGets l0 l1 l2))) σ := by
  have main : ∀ r : Int32, f_X9_secondGets l0 l1 l2 = r → ∀ l, MetF l yX9_secondGets wsX9_secondGets rm_X9_secondGets g [.int l0, .int l1, .int l2] σ (some (.int r)) σ := by
    intro r h
    refine MetF.of (own0 := RX9) (lv0 := [(0, .int l0), (1, .int l1), (2, .int l2)]) rfl cl_X9_secondGets (by decide) (Nat.le_of_ble_eq_true rfl) rfl ?_
    unfold f_X9_secondGets at h
    refine v_iload_n 1 2 dX9_secondGets_0 rfl rfl rfl ?_
    refine v_iload_n 2 1 dX9_secondGets_1 rfl rfl rfl ?_
    refine v_icmp_le 5 13 h dX9_secondGets_2 rfl (by decide) (fun h => ?_) (fun h => ?_)
    · refine v_iload_n 14 2 dX9_secondGets_13 rfl rfl rfl ?_
      refine v_iconst 15 2 dX9_secondGets_14 kc_i_2 rfl ?_
      refine v_idiv 16 kc_ne_2 dX9_secondGets_15 rfl ?_
      refine v_ineg 17 dX9_secondGets_16 rfl ?_
      exact v_iretT h rfl dX9_secondGets_17
    · refine v_iload_n 6 0 dX9_secondGets_5 rfl rfl rfl ?_
      refine v_iload_n 7 2 dX9_secondGets_6 rfl rfl rfl ?_
      refine v_cS 10 [.int l0, .int l2] (c_X9_gets l0 l2) cl_X9_gets gX9_secondGets_X9_gets ⟨Nat.le_of_ble_eq_true rfl, Nat.le_of_ble_eq_true rfl⟩ rfl rfl (Nat.le_of_ble_eq_true rfl) dX9_secondGets_7 rfl ?_
      refine v_goto 17 dX9_secondGets_10 (by decide) ?_
      exact v_iretT h rfl dX9_secondGets_17
  exact main _ rfl
-- private static boolean rests(int, int, int);
abbrev rm_X9_rests : Room := { frames := 3, cells := 0, slots := 0, locals := 64 }
theorem cl_X9_rests : Cl yX9_rests wsX9_rests cX9_rests 6 (some .boolean) rm_X9_rests 3 := ⟨⟨_, rfl⟩, rfl, rfl, by decide +kernel, by decide +kernel, by decide +kernel⟩
def b_X9_rests_18 (l0 : Int32) (l1 : Int32) (l2 : Int32) : Nat → Int32 → Int32 → Int32 → Option Int32
  | 0, _, _, _ => none
  | f + 1, l3, l4, l5 => (if 9 < l5 then (some (1)) else (if l3 < (f_X9_firstGets l0 l5 l2) then (some (0)) else (if (f_X9_secondGets l0 l1 l5) ≤ l4 then nam (l5 + 1) fun x3 => b_X9_rests_18 l0 l1 l2 f l3 l4 x3 else (some (0)))))
def f_X9_rests (l0 : Int32) (l1 : Int32) (l2 : Int32) : Option Int32 := nam (f_X9_firstGets l0 l1 l2) fun x1 => nam (f_X9_secondGets l0 l1 l2) fun x2 => b_X9_rests_18 l0 l1 l2 FU x1 x2 0
set_option maxRecDepth 100000 in
set_option maxHeartbeats 4000000 in
theorem q_X9_rests_18 {g : Cx} {σ : Sg} (l0 : Int32) (l1 : Int32) (l2 : Int32) (r : Int32) : ∀ f : Nat, ∀ l3 : Int32, ∀ l4 : Int32, ∀ l5 : Int32, b_X9_rests_18 l0 l1 l2 f l3 l4 l5 = some r → V g cX9_rests RX9 wsX9_rests 6 (some .boolean) rm_X9_rests (some (.int r)) σ σ 18 [(0, .int l0), (1, .int l1), (2, .int l2), (3, .int l3), (4, .int l4), (5, .int l5)] [] := by
  intro f
  induction f with
  | zero =>
    intro l3 l4 l5 h
    cases h
  | succ f ih =>
    intro l3 l4 l5 h
    rw [b_X9_rests_18] at h
    refine v_iload 20 5 dX9_rests_18 rfl rfl ?_
    refine v_bipush 22 9 dX9_rests_20 kc_b_9 rfl ?_
    refine v_icmp_gt 25 56 h dX9_rests_22 rfl (by decide) (fun h => ?_) (fun h => ?_)
    · refine v_iconst 57 1 dX9_rests_56 kc_i_1 rfl ?_
      exact v_zretP h rfl (Or.inr rfl) dX9_rests_57
    · refine v_iload_n 26 0 dX9_rests_25 rfl rfl rfl ?_
      refine v_iload 28 5 dX9_rests_26 rfl rfl ?_
      refine v_iload_n 29 2 dX9_rests_28 rfl rfl rfl ?_
      refine v_cS 32 [.int l0, .int l5, .int l2] (c_X9_firstGets l0 l5 l2) cl_X9_firstGets gX9_rests_X9_firstGets ⟨Nat.le_of_ble_eq_true rfl, Nat.le_of_ble_eq_true rfl⟩ rfl rfl (Nat.le_of_ble_eq_true rfl) dX9_rests_29 rfl ?_
      refine v_iload_n 33 3 dX9_rests_32 rfl rfl rfl ?_
      refine v_icmp_gt 36 48 h dX9_rests_33 rfl (by decide) (fun h => ?_) (fun h => ?_)
      · refine v_iconst 49 0 dX9_rests_48 kc_i_0 rfl ?_
        exact v_zretP h rfl (Or.inl rfl) dX9_rests_49
      · refine v_iload_n 37 0 dX9_rests_36 rfl rfl rfl ?_
        refine v_iload_n 38 1 dX9_rests_37 rfl rfl rfl ?_
        refine v_iload 40 5 dX9_rests_38 rfl rfl ?_
        refine v_cS 43 [.int l0, .int l1, .int l5] (c_X9_secondGets l0 l1 l5) cl_X9_secondGets gX9_rests_X9_secondGets ⟨Nat.le_of_ble_eq_true rfl, Nat.le_of_ble_eq_true rfl⟩ rfl rfl (Nat.le_of_ble_eq_true rfl) dX9_rests_40 rfl ?_
        refine v_iload 45 4 dX9_rests_43 rfl rfl ?_
        refine v_icmp_le 48 50 h dX9_rests_45 rfl (by decide) (fun h => ?_) (fun h => ?_)
        · refine v_iincN 53 5 h dX9_rests_50 rfl kc_i_1 (by decide) rfl (fun _ => rfl) (fun x3 h => ?_)
          refine v_goto 18 dX9_rests_53 (by decide) ?_
          refine v_sub [1, 2, 3, 4, 5, 0] rfl ?_
          exact ih l3 l4 x3 h
        · refine v_iconst 49 0 dX9_rests_48 kc_i_0 rfl ?_
          exact v_zretP h rfl (Or.inl rfl) dX9_rests_49
set_option maxRecDepth 100000 in
set_option maxHeartbeats 4000000 in
theorem c_X9_rests {g : Cx} {σ : Sg} (l0 : Int32) (l1 : Int32) (l2 : Int32) (r : Int32) (h : f_X9_rests l0 l1 l2 = some r) : ∀ l, MetF l yX9_rests wsX9_rests rm_X9_rests g [.int l0, .int l1, .int l2] σ (some (.int r)) σ := by
  refine MetF.of (own0 := RX9) (lv0 := [(0, .int l0), (1, .int l1), (2, .int l2)]) rfl cl_X9_rests (by decide) (Nat.le_of_ble_eq_true rfl) rfl ?_
  unfold f_X9_rests at h
  refine v_iload_n 1 0 dX9_rests_0 rfl rfl rfl ?_
  refine v_iload_n 2 1 dX9_rests_1 rfl rfl rfl ?_
  refine v_iload_n 3 2 dX9_rests_2 rfl rfl rfl ?_
  refine v_cS 6 [.int l0, .int l1, .int l2] (c_X9_firstGets l0 l1 l2) cl_X9_firstGets gX9_rests_X9_firstGets ⟨Nat.le_of_ble_eq_true rfl, Nat.le_of_ble_eq_true rfl⟩ rfl rfl (Nat.le_of_ble_eq_true rfl) dX9_rests_3 rfl ?_
  refine v_istoreN_n 7 h dX9_rests_6 rfl (by decide) rfl (fun _ => rfl) (fun x1 h => ?_)
  refine v_iload_n 8 1 dX9_rests_7 rfl rfl rfl ?_
  refine v_iload_n 9 2 dX9_rests_8 rfl rfl rfl ?_
  refine v_iload_n 10 3 dX9_rests_9 rfl rfl rfl ?_
  refine v_cS 13 [.int l0, .int l1, .int l2] (c_X9_secondGets l0 l1 l2) cl_X9_secondGets gX9_rests_X9_secondGets ⟨Nat.le_of_ble_eq_true rfl, Nat.le_of_ble_eq_true rfl⟩ rfl rfl (Nat.le_of_ble_eq_true rfl) dX9_rests_10 rfl ?_
  refine v_istoreN 15 h dX9_rests_13 (by decide) rfl (fun _ => rfl) (fun x2 h => ?_)
  refine v_iconst 16 0 dX9_rests_15 kc_i_0 rfl ?_
  refine v_istore 18 dX9_rests_16 (by decide) rfl rfl ?_
  refine v_sub [3, 4, 5, 2, 1, 0] rfl ?_
  exact q_X9_rests_18 l0 l1 l2 r FU x1 x2 0 h
-- static int restCount(int);
abbrev rm_X9_restCount : Room := { frames := 4, cells := 0, slots := 0, locals := 89 }
theorem cl_X9_restCount : Cl yX9_restCount wsX9_restCount cX9_restCount 4 (some .int) rm_X9_restCount 1 := ⟨⟨_, rfl⟩, rfl, rfl, by decide +kernel, by decide +kernel, by decide +kernel⟩
def b_X9_restCount_30 (l0 : Int32) (c4 : Int32 → Int32 → Option Int32) (c12 : Int32 → Int32 → Int32 → Option Int32) (l1 : Int32) (l2 : Int32) (l3 : Int32) : Option Int32 := nam (l3 + 1) fun x3 => c12 l1 l2 x3
def b_X9_restCount_12 (l0 : Int32) (c4 : Int32 → Int32 → Option Int32) : Nat → Int32 → Int32 → Int32 → Option Int32
  | 0, _, _, _ => none
  | f + 1, l1, l2, l3 => (if 9 < l3 then nam (l2 + 1) fun x1 => c4 l1 x1 else (f_X9_rests l0 l2 l3).bind fun x2 => (if x2 = 0 then b_X9_restCount_30 l0 c4 (b_X9_restCount_12 l0 c4 f) l1 l2 l3 else nam (l1 + 1) fun x4 => b_X9_restCount_30 l0 c4 (b_X9_restCount_12 l0 c4 f) x4 l2 l3))
def b_X9_restCount_4 (l0 : Int32) : Nat → Int32 → Int32 → Option Int32
  | 0, _, _ => none
  | f + 1, l1, l2 => (if 9 < l2 then (some (l1)) else b_X9_restCount_12 l0 (b_X9_restCount_4 l0 f) FU l1 l2 0)
def f_X9_restCount (l0 : Int32) : Option Int32 := b_X9_restCount_4 l0 FU 0 0
set_option maxRecDepth 100000 in
set_option maxHeartbeats 4000000 in
theorem q_X9_restCount_30 {g : Cx} {σ : Sg} (l0 : Int32) (r : Int32) (c4 : Int32 → Int32 → Option Int32) (c12 : Int32 → Int32 → Int32 → Option Int32) (hc4 : ∀ l1 : Int32, ∀ l2 : Int32, c4 l1 l2 = some r → V g cX9_restCount RX9 wsX9_restCount 4 (some .int) rm_X9_restCount (some (.int r)) σ σ 4 [(0, .int l0), (1, .int l1), (2, .int l2)] []) (hc12 : ∀ l1 : Int32, ∀ l2 : Int32, ∀ l3 : Int32, c12 l1 l2 l3 = some r → V g cX9_restCount RX9 wsX9_restCount 4 (some .int) rm_X9_restCount (some (.int r)) σ σ 12 [(0, .int l0), (1, .int l1), (2, .int l2), (3, .int l3)] []) : ∀ l1 : Int32, ∀ l2 : Int32, ∀ l3 : Int32, b_X9_restCount_30 l0 c4 c12 l1 l2 l3 = some r → V g cX9_restCount RX9 wsX9_restCount 4 (some .int) rm_X9_restCount (some (.int r)) σ σ 30 [(0, .int l0), (1, .int l1), (2, .int l2), (3, .int l3)] [] := by
  intro l1 l2 l3 h
  unfold b_X9_restCount_30 at h
  refine v_iincN 33 3 h dX9_restCount_30 rfl kc_i_1 (by decide) rfl (fun _ => rfl) (fun x3 h => ?_)
  refine v_goto 12 dX9_restCount_33 (by decide) ?_
  refine v_sub [1, 2, 3, 0] rfl ?_
  exact hc12 l1 l2 x3 h
set_option maxRecDepth 100000 in
set_option maxHeartbeats 4000000 in
theorem q_X9_restCount_12 {g : Cx} {σ : Sg} (l0 : Int32) (r : Int32) (c4 : Int32 → Int32 → Option Int32) (hc4 : ∀ l1 : Int32, ∀ l2 : Int32, c4 l1 l2 = some r → V g cX9_restCount RX9 wsX9_restCount 4 (some .int) rm_X9_restCount (some (.int r)) σ σ 4 [(0, .int l0), (1, .int l1), (2, .int l2)] []) : ∀ f : Nat, ∀ l1 : Int32, ∀ l2 : Int32, ∀ l3 : Int32, b_X9_restCount_12 l0 c4 f l1 l2 l3 = some r → V g cX9_restCount RX9 wsX9_restCount 4 (some .int) rm_X9_restCount (some (.int r)) σ σ 12 [(0, .int l0), (1, .int l1), (2, .int l2), (3, .int l3)] [] := by
  intro f
  induction f with
  | zero =>
    intro l1 l2 l3 h
    cases h
  | succ f ih =>
    intro l1 l2 l3 h
    rw [b_X9_restCount_12] at h
    refine v_iload_n 13 3 dX9_restCount_12 rfl rfl rfl ?_
    refine v_bipush 15 9 dX9_restCount_13 kc_b_9 rfl ?_
    refine v_icmp_gt 18 36 h dX9_restCount_15 rfl (by decide) (fun h => ?_) (fun h => ?_)
    · refine v_iincN 39 2 h dX9_restCount_36 rfl kc_i_1 (by decide) rfl (fun _ => rfl) (fun x1 h => ?_)
      refine v_goto 4 dX9_restCount_39 (by decide) ?_
      refine v_sub [1, 2, 0] rfl ?_
      exact hc4 l1 x1 h
    · refine v_iload_n 19 0 dX9_restCount_18 rfl rfl rfl ?_
      refine v_iload_n 20 2 dX9_restCount_19 rfl rfl rfl ?_
      refine v_iload_n 21 3 dX9_restCount_20 rfl rfl rfl ?_
      obtain ⟨x2, h0, h⟩ := ob h
      refine v_cS 24 [.int l0, .int l2, .int l3] (c_X9_rests l0 l2 l3 _ h0) cl_X9_rests gX9_restCount_X9_rests ⟨Nat.le_of_ble_eq_true rfl, Nat.le_of_ble_eq_true rfl⟩ rfl rfl (Nat.le_of_ble_eq_true rfl) dX9_restCount_21 rfl ?_
      refine v_if_eq 27 30 h dX9_restCount_24 rfl (by decide) (fun h => ?_) (fun h => ?_)
      · refine v_sub [0, 1, 2, 3] rfl ?_
        exact q_X9_restCount_30 l0 r c4 (b_X9_restCount_12 l0 c4 f) hc4 ih l1 l2 l3 h
      · refine v_iincN 30 1 h dX9_restCount_27 rfl kc_i_1 (by decide) rfl (fun _ => rfl) (fun x4 h => ?_)
        refine v_sub [1, 0, 2, 3] rfl ?_
        exact q_X9_restCount_30 l0 r c4 (b_X9_restCount_12 l0 c4 f) hc4 ih x4 l2 l3 h
set_option maxRecDepth 100000 in
set_option maxHeartbeats 4000000 in
theorem q_X9_restCount_4 {g : Cx} {σ : Sg} (l0 : Int32) (r : Int32) : ∀ f : Nat, ∀ l1 : Int32, ∀ l2 : Int32, b_X9_restCount_4 l0 f l1 l2 = some r → V g cX9_restCount RX9 wsX9_restCount 4 (some .int) rm_X9_restCount (some (.int r)) σ σ 4 [(0, .int l0), (1, .int l1), (2, .int l2)] [] := by
  intro f
  induction f with
  | zero =>
    intro l1 l2 h
    cases h
  | succ f ih =>
    intro l1 l2 h
    rw [b_X9_restCount_4] at h
    refine v_iload_n 5 2 dX9_restCount_4 rfl rfl rfl ?_
    refine v_bipush 7 9 dX9_restCount_5 kc_b_9 rfl ?_
    refine v_icmp_gt 10 42 h dX9_restCount_7 rfl (by decide) (fun h => ?_) (fun h => ?_)
    · refine v_iload_n 43 1 dX9_restCount_42 rfl rfl rfl ?_
      exact v_iretP h rfl dX9_restCount_43
    · refine v_iconst 11 0 dX9_restCount_10 kc_i_0 rfl ?_
      refine v_istore_n 12 dX9_restCount_11 rfl (by decide) rfl rfl ?_
      refine v_sub [1, 2, 3, 0] rfl ?_
      exact q_X9_restCount_12 l0 r (b_X9_restCount_4 l0 f) ih FU l1 l2 0 h
set_option maxRecDepth 100000 in
set_option maxHeartbeats 4000000 in
theorem c_X9_restCount {g : Cx} {σ : Sg} (l0 : Int32) (r : Int32) (h : f_X9_restCount l0 = some r) : ∀ l, MetF l yX9_restCount wsX9_restCount rm_X9_restCount g [.int l0] σ (some (.int r)) σ := by
  refine MetF.of (own0 := RX9) (lv0 := [(0, .int l0)]) rfl cl_X9_restCount (by decide) (Nat.le_of_ble_eq_true rfl) rfl ?_
  unfold f_X9_restCount at h
  refine v_iconst 1 0 dX9_restCount_0 kc_i_0 rfl ?_
  refine v_istore_n 2 dX9_restCount_1 rfl (by decide) rfl rfl ?_
  refine v_iconst 3 0 dX9_restCount_2 kc_i_0 rfl ?_
  refine v_istore_n 4 dX9_restCount_3 rfl (by decide) rfl rfl ?_
  refine v_sub [2, 1, 0] rfl ?_
  exact q_X9_restCount_4 l0 r FU 0 0 h
-- static int restingPair(int, int);
abbrev rm_X9_restingPair : Room := { frames := 4, cells := 0, slots := 0, locals := 89 }
theorem cl_X9_restingPair : Cl yX9_restingPair wsX9_restingPair cX9_restingPair 5 (some .int) rm_X9_restingPair 2 := ⟨⟨_, rfl⟩, rfl, rfl, by decide +kernel, by decide +kernel, by decide +kernel⟩
def b_X9_restingPair_46 (l0 : Int32) (l1 : Int32) (c4 : Int32 → Int32 → Option Int32) (c13 : Int32 → Int32 → Int32 → Option Int32) (l2 : Int32) (l3 : Int32) (l4 : Int32) : Option Int32 := nam (l4 + 1) fun x3 => c13 l2 l3 x3
def b_X9_restingPair_13 (l0 : Int32) (l1 : Int32) (c4 : Int32 → Int32 → Option Int32) : Nat → Int32 → Int32 → Int32 → Option Int32
  | 0, _, _, _ => none
  | f + 1, l2, l3, l4 => (if 9 < l4 then nam (l3 + 1) fun x1 => c4 l2 x1 else (f_X9_rests l0 l3 l4).bind fun x2 => (if x2 = 0 then b_X9_restingPair_46 l0 l1 c4 (b_X9_restingPair_13 l0 l1 c4 f) l2 l3 l4 else (if l2 = l1 then (some ((10 * l3) + l4)) else nam (l2 + 1) fun x4 => b_X9_restingPair_46 l0 l1 c4 (b_X9_restingPair_13 l0 l1 c4 f) x4 l3 l4)))
def b_X9_restingPair_4 (l0 : Int32) (l1 : Int32) : Nat → Int32 → Int32 → Option Int32
  | 0, _, _ => none
  | f + 1, l2, l3 => (if 9 < l3 then (some ((-1))) else b_X9_restingPair_13 l0 l1 (b_X9_restingPair_4 l0 l1 f) FU l2 l3 0)
def f_X9_restingPair (l0 : Int32) (l1 : Int32) : Option Int32 := b_X9_restingPair_4 l0 l1 FU 0 0
set_option maxRecDepth 100000 in
set_option maxHeartbeats 4000000 in
theorem q_X9_restingPair_46 {g : Cx} {σ : Sg} (l0 : Int32) (l1 : Int32) (r : Int32) (c4 : Int32 → Int32 → Option Int32) (c13 : Int32 → Int32 → Int32 → Option Int32) (hc4 : ∀ l2 : Int32, ∀ l3 : Int32, c4 l2 l3 = some r → V g cX9_restingPair RX9 wsX9_restingPair 5 (some .int) rm_X9_restingPair (some (.int r)) σ σ 4 [(0, .int l0), (1, .int l1), (2, .int l2), (3, .int l3)] []) (hc13 : ∀ l2 : Int32, ∀ l3 : Int32, ∀ l4 : Int32, c13 l2 l3 l4 = some r → V g cX9_restingPair RX9 wsX9_restingPair 5 (some .int) rm_X9_restingPair (some (.int r)) σ σ 13 [(0, .int l0), (1, .int l1), (2, .int l2), (3, .int l3), (4, .int l4)] []) : ∀ l2 : Int32, ∀ l3 : Int32, ∀ l4 : Int32, b_X9_restingPair_46 l0 l1 c4 c13 l2 l3 l4 = some r → V g cX9_restingPair RX9 wsX9_restingPair 5 (some .int) rm_X9_restingPair (some (.int r)) σ σ 46 [(0, .int l0), (1, .int l1), (2, .int l2), (3, .int l3), (4, .int l4)] [] := by
  intro l2 l3 l4 h
  unfold b_X9_restingPair_46 at h
  refine v_iincN 49 4 h dX9_restingPair_46 rfl kc_i_1 (by decide) rfl (fun _ => rfl) (fun x3 h => ?_)
  refine v_goto 13 dX9_restingPair_49 (by decide) ?_
  refine v_sub [1, 2, 3, 4, 0] rfl ?_
  exact hc13 l2 l3 x3 h
set_option maxRecDepth 100000 in
set_option maxHeartbeats 4000000 in
theorem q_X9_restingPair_13 {g : Cx} {σ : Sg} (l0 : Int32) (l1 : Int32) (r : Int32) (c4 : Int32 → Int32 → Option Int32) (hc4 : ∀ l2 : Int32, ∀ l3 : Int32, c4 l2 l3 = some r → V g cX9_restingPair RX9 wsX9_restingPair 5 (some .int) rm_X9_restingPair (some (.int r)) σ σ 4 [(0, .int l0), (1, .int l1), (2, .int l2), (3, .int l3)] []) : ∀ f : Nat, ∀ l2 : Int32, ∀ l3 : Int32, ∀ l4 : Int32, b_X9_restingPair_13 l0 l1 c4 f l2 l3 l4 = some r → V g cX9_restingPair RX9 wsX9_restingPair 5 (some .int) rm_X9_restingPair (some (.int r)) σ σ 13 [(0, .int l0), (1, .int l1), (2, .int l2), (3, .int l3), (4, .int l4)] [] := by
  intro f
  induction f with
  | zero =>
    intro l2 l3 l4 h
    cases h
  | succ f ih =>
    intro l2 l3 l4 h
    rw [b_X9_restingPair_13] at h
    refine v_iload 15 4 dX9_restingPair_13 rfl rfl ?_
    refine v_bipush 17 9 dX9_restingPair_15 kc_b_9 rfl ?_
    refine v_icmp_gt 20 52 h dX9_restingPair_17 rfl (by decide) (fun h => ?_) (fun h => ?_)
    · refine v_iincN 55 3 h dX9_restingPair_52 rfl kc_i_1 (by decide) rfl (fun _ => rfl) (fun x1 h => ?_)
      refine v_goto 4 dX9_restingPair_55 (by decide) ?_
      refine v_sub [1, 2, 3, 0] rfl ?_
      exact hc4 l2 x1 h
    · refine v_iload_n 21 0 dX9_restingPair_20 rfl rfl rfl ?_
      refine v_iload_n 22 3 dX9_restingPair_21 rfl rfl rfl ?_
      refine v_iload 24 4 dX9_restingPair_22 rfl rfl ?_
      obtain ⟨x2, h0, h⟩ := ob h
      refine v_cS 27 [.int l0, .int l3, .int l4] (c_X9_rests l0 l3 l4 _ h0) cl_X9_rests gX9_restingPair_X9_rests ⟨Nat.le_of_ble_eq_true rfl, Nat.le_of_ble_eq_true rfl⟩ rfl rfl (Nat.le_of_ble_eq_true rfl) dX9_restingPair_24 rfl ?_
      refine v_if_eq 30 46 h dX9_restingPair_27 rfl (by decide) (fun h => ?_) (fun h => ?_)
      · refine v_sub [0, 1, 2, 3, 4] rfl ?_
        exact q_X9_restingPair_46 l0 l1 r c4 (b_X9_restingPair_13 l0 l1 c4 f) hc4 ih l2 l3 l4 h
      · refine v_iload_n 31 2 dX9_restingPair_30 rfl rfl rfl ?_
        refine v_iload_n 32 1 dX9_restingPair_31 rfl rfl rfl ?_
        refine v_icmp_ne 35 43 h dX9_restingPair_32 rfl (by decide) (fun h => ?_) (fun h => ?_)
        · refine v_iincN 46 2 h dX9_restingPair_43 rfl kc_i_1 (by decide) rfl (fun _ => rfl) (fun x4 h => ?_)
          refine v_sub [1, 2, 0, 3, 4] rfl ?_
          exact q_X9_restingPair_46 l0 l1 r c4 (b_X9_restingPair_13 l0 l1 c4 f) hc4 ih x4 l3 l4 h
        · refine v_bipush 37 10 dX9_restingPair_35 kc_b_10 rfl ?_
          refine v_iload_n 38 3 dX9_restingPair_37 rfl rfl rfl ?_
          refine v_imul 39 dX9_restingPair_38 rfl ?_
          refine v_iload 41 4 dX9_restingPair_39 rfl rfl ?_
          refine v_iadd 42 dX9_restingPair_41 rfl ?_
          exact v_iretP h rfl dX9_restingPair_42
set_option maxRecDepth 100000 in
set_option maxHeartbeats 4000000 in
theorem q_X9_restingPair_4 {g : Cx} {σ : Sg} (l0 : Int32) (l1 : Int32) (r : Int32) : ∀ f : Nat, ∀ l2 : Int32, ∀ l3 : Int32, b_X9_restingPair_4 l0 l1 f l2 l3 = some r → V g cX9_restingPair RX9 wsX9_restingPair 5 (some .int) rm_X9_restingPair (some (.int r)) σ σ 4 [(0, .int l0), (1, .int l1), (2, .int l2), (3, .int l3)] [] := by
  intro f
  induction f with
  | zero =>
    intro l2 l3 h
    cases h
  | succ f ih =>
    intro l2 l3 h
    rw [b_X9_restingPair_4] at h
    refine v_iload_n 5 3 dX9_restingPair_4 rfl rfl rfl ?_
    refine v_bipush 7 9 dX9_restingPair_5 kc_b_9 rfl ?_
    refine v_icmp_gt 10 58 h dX9_restingPair_7 rfl (by decide) (fun h => ?_) (fun h => ?_)
    · refine v_iconst 59 (-1) dX9_restingPair_58 kc_i_m1 rfl ?_
      exact v_iretP h rfl dX9_restingPair_59
    · refine v_iconst 11 0 dX9_restingPair_10 kc_i_0 rfl ?_
      refine v_istore 13 dX9_restingPair_11 (by decide) rfl rfl ?_
      refine v_sub [1, 2, 3, 4, 0] rfl ?_
      exact q_X9_restingPair_13 l0 l1 r (b_X9_restingPair_4 l0 l1 f) ih FU l2 l3 0 h
set_option maxRecDepth 100000 in
set_option maxHeartbeats 4000000 in
theorem c_X9_restingPair {g : Cx} {σ : Sg} (l0 : Int32) (l1 : Int32) (r : Int32) (h : f_X9_restingPair l0 l1 = some r) : ∀ l, MetF l yX9_restingPair wsX9_restingPair rm_X9_restingPair g [.int l0, .int l1] σ (some (.int r)) σ := by
  refine MetF.of (own0 := RX9) (lv0 := [(0, .int l0), (1, .int l1)]) rfl cl_X9_restingPair (by decide) (Nat.le_of_ble_eq_true rfl) rfl ?_
  unfold f_X9_restingPair at h
  refine v_iconst 1 0 dX9_restingPair_0 kc_i_0 rfl ?_
  refine v_istore_n 2 dX9_restingPair_1 rfl (by decide) rfl rfl ?_
  refine v_iconst 3 0 dX9_restingPair_2 kc_i_0 rfl ?_
  refine v_istore_n 4 dX9_restingPair_3 rfl (by decide) rfl rfl ?_
  refine v_sub [2, 3, 1, 0] rfl ?_
  exact q_X9_restingPair_4 l0 l1 r FU 0 0 h
-- public static int bitCount(int);
abbrev rm_J6_bitCount_0f7a4 : Room := { frames := 0, cells := 0, slots := 0, locals := 0 }
theorem cl_J6_bitCount_0f7a4 : Cl yJ6_bitCount_0f7a4 wsJ6_bitCount_0f7a4 cJ6_bitCount_0f7a4 1 (some .int) rm_J6_bitCount_0f7a4 1 := ⟨⟨_, rfl⟩, rfl, rfl, by decide +kernel, by decide +kernel, by decide +kernel⟩
def f_J6_bitCount_0f7a4 (l0 : Int32) : Int32 := nam (l0 - (((l0.toUInt32 >>> ((1 : Int32).toUInt32 &&& Int32.toUInt32 31)).toInt32) &&& 1431655765)) fun x1 => nam ((x1 &&& 858993459) + (((x1.toUInt32 >>> ((2 : Int32).toUInt32 &&& Int32.toUInt32 31)).toInt32) &&& 858993459)) fun x2 => nam ((x2 + ((x2.toUInt32 >>> ((4 : Int32).toUInt32 &&& Int32.toUInt32 31)).toInt32)) &&& 252645135) fun x3 => nam (x3 + ((x3.toUInt32 >>> ((8 : Int32).toUInt32 &&& Int32.toUInt32 31)).toInt32)) fun x4 => nam (x4 + ((x4.toUInt32 >>> ((16 : Int32).toUInt32 &&& Int32.toUInt32 31)).toInt32)) fun x5 => x5 &&& 63
set_option maxRecDepth 100000 in
set_option maxHeartbeats 4000000 in
theorem c_J6_bitCount_0f7a4 {g : Cx} {σ : Sg} (l0 : Int32) : ∀ l, MetF l yJ6_bitCount_0f7a4 wsJ6_bitCount_0f7a4 rm_J6_bitCount_0f7a4 g [.int l0] σ (some (.int (f_J6_bitCount_0f7a4 l0))) σ := by
  have main : ∀ r : Int32, f_J6_bitCount_0f7a4 l0 = r → ∀ l, MetF l yJ6_bitCount_0f7a4 wsJ6_bitCount_0f7a4 rm_J6_bitCount_0f7a4 g [.int l0] σ (some (.int r)) σ := by
    intro r h
    refine MetF.of (own0 := RJ6) (lv0 := [(0, .int l0)]) rfl cl_J6_bitCount_0f7a4 (by decide) (Nat.le_of_ble_eq_true rfl) rfl ?_
    unfold f_J6_bitCount_0f7a4 at h
    refine v_iload_n 1 0 dJ6_bitCount_0f7a4_0 rfl rfl rfl ?_
    refine v_iload_n 2 0 dJ6_bitCount_0f7a4_1 rfl rfl rfl ?_
    refine v_iconst 3 1 dJ6_bitCount_0f7a4_2 kc_i_1 rfl ?_
    refine v_iushr 4 dJ6_bitCount_0f7a4_3 rfl ?_
    refine v_ldc_w 7 1431655765 dJ6_bitCount_0f7a4_4 (mem_at 1 rfl) rfl ?_
    refine v_iand 8 dJ6_bitCount_0f7a4_7 rfl ?_
    refine v_isub 9 dJ6_bitCount_0f7a4_8 rfl ?_
    refine v_istoreN_n 10 h dJ6_bitCount_0f7a4_9 rfl (by decide) rfl (fun _ => rfl) (fun x1 h => ?_)
    refine v_iload_n 11 0 dJ6_bitCount_0f7a4_10 rfl rfl rfl ?_
    refine v_ldc_w 14 858993459 dJ6_bitCount_0f7a4_11 (mem_at 2 rfl) rfl ?_
    refine v_iand 15 dJ6_bitCount_0f7a4_14 rfl ?_
    refine v_iload_n 16 0 dJ6_bitCount_0f7a4_15 rfl rfl rfl ?_
    refine v_iconst 17 2 dJ6_bitCount_0f7a4_16 kc_i_2 rfl ?_
    refine v_iushr 18 dJ6_bitCount_0f7a4_17 rfl ?_
    refine v_ldc_w 21 858993459 dJ6_bitCount_0f7a4_18 (mem_at 2 rfl) rfl ?_
    refine v_iand 22 dJ6_bitCount_0f7a4_21 rfl ?_
    refine v_iadd 23 dJ6_bitCount_0f7a4_22 rfl ?_
    refine v_istoreN_n 24 h dJ6_bitCount_0f7a4_23 rfl (by decide) rfl (fun _ => rfl) (fun x2 h => ?_)
    refine v_iload_n 25 0 dJ6_bitCount_0f7a4_24 rfl rfl rfl ?_
    refine v_iload_n 26 0 dJ6_bitCount_0f7a4_25 rfl rfl rfl ?_
    refine v_iconst 27 4 dJ6_bitCount_0f7a4_26 kc_i_4 rfl ?_
    refine v_iushr 28 dJ6_bitCount_0f7a4_27 rfl ?_
    refine v_iadd 29 dJ6_bitCount_0f7a4_28 rfl ?_
    refine v_ldc_w 32 252645135 dJ6_bitCount_0f7a4_29 (mem_at 3 rfl) rfl ?_
    refine v_iand 33 dJ6_bitCount_0f7a4_32 rfl ?_
    refine v_istoreN_n 34 h dJ6_bitCount_0f7a4_33 rfl (by decide) rfl (fun _ => rfl) (fun x3 h => ?_)
    refine v_iload_n 35 0 dJ6_bitCount_0f7a4_34 rfl rfl rfl ?_
    refine v_iload_n 36 0 dJ6_bitCount_0f7a4_35 rfl rfl rfl ?_
    refine v_bipush 38 8 dJ6_bitCount_0f7a4_36 kc_b_8 rfl ?_
    refine v_iushr 39 dJ6_bitCount_0f7a4_38 rfl ?_
    refine v_iadd 40 dJ6_bitCount_0f7a4_39 rfl ?_
    refine v_istoreN_n 41 h dJ6_bitCount_0f7a4_40 rfl (by decide) rfl (fun _ => rfl) (fun x4 h => ?_)
    refine v_iload_n 42 0 dJ6_bitCount_0f7a4_41 rfl rfl rfl ?_
    refine v_iload_n 43 0 dJ6_bitCount_0f7a4_42 rfl rfl rfl ?_
    refine v_bipush 45 16 dJ6_bitCount_0f7a4_43 kc_b_16 rfl ?_
    refine v_iushr 46 dJ6_bitCount_0f7a4_45 rfl ?_
    refine v_iadd 47 dJ6_bitCount_0f7a4_46 rfl ?_
    refine v_istoreN_n 48 h dJ6_bitCount_0f7a4_47 rfl (by decide) rfl (fun _ => rfl) (fun x5 h => ?_)
    refine v_iload_n 49 0 dJ6_bitCount_0f7a4_48 rfl rfl rfl ?_
    refine v_bipush 51 63 dJ6_bitCount_0f7a4_49 kc_b_63 rfl ?_
    refine v_iand 52 dJ6_bitCount_0f7a4_51 rfl ?_
    exact v_iretT h rfl dJ6_bitCount_0f7a4_52
  exact main _ rfl
