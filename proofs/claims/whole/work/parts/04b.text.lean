/-! ===== the five texts: String.length(), String.charAt(int), over the JDK's own code ===== -/
def f_charAt (i : Nat) (k : Int32) : Int32 := (tByt.getD i []).getD (ix k) 0 &&& 255
section VSTRG
variable {g : Cx} {cc : ByteArray} {own : String} {Ts : List Cond} {nL : Nat} {ret : Option FieldType} {R : Room} {ro : Option Value} {σo σ : Sg} {pc : Nat} {lv : List (Nat × Value)} {rest : List Value}
theorem v_getsC (n : Nat) {idx : Nat} (hm : Cond.fieldLink own idx "java/lang/String" "COMPACT_STRINGS" "Z" ∈ Ts) (d : decode cc pc = .ok (.getstatic idx, 3)) (hn : pc + 3 = n) (kk : V g cc own Ts nL ret R ro σo σ n lv (.int 1 :: rest)) : V g cc own Ts nL ret R ro σo σ pc lv rest := by
  subst hn
  exact fun p l e s m args below meth c C H locs ls hP hS hl => va_gets C.1 C.2.1 C.2.2.2.2.2.2.2.2.1.2.1 hS C.2.2.2.2.2.1 (C.2.2.2.2.2.2.1 _ hm) (fun _ h9 => h9) d (kk p l e s m args below meth c C H locs ls hP hS hl)
theorem v_getsQ (n : Nat) {idx : Nat} (hm : Cond.fieldLink own idx "jdk/internal/util/Preconditions" "SIOOBE_FORMATTER" "Ljava/util/function/BiFunction;" ∈ Ts) (d : decode cc pc = .ok (.getstatic idx, 3)) (hn : pc + 3 = n) (kk : ∀ v : Value, v = .null ∨ (∃ t : Nat, v = .ref t) → V g cc own Ts nL ret R ro σo σ n lv (v :: rest)) : V g cc own Ts nL ret R ro σo σ pc lv rest := by
  subst hn
  intro p l e s m args below meth c C H locs ls hP hS hl
  rcases C.2.2.2.2.2.2.2.2.1.2.2 with hZ | ⟨t, hZ⟩
  · exact va_gets C.1 C.2.1 hZ hS C.2.2.2.2.2.1 (C.2.2.2.2.2.2.1 _ hm) (fun _ h9 => h9) d (kk _ (Or.inl rfl) p l e s m args below meth c C H locs ls hP hS hl)
  · exact va_gets C.1 C.2.1 hZ hS C.2.2.2.2.2.1 (C.2.2.2.2.2.2.1 _ hm) (fun _ h9 => h9) d (kk _ (Or.inr ⟨t, rfl⟩) p l e s m args below meth c C H locs ls hP hS hl)
theorem v_sCoder (n : Nat) {i idx : Nat} (hi : i < 5) (hm : Cond.fieldLink own idx "java/lang/String" "coder" "B" ∈ Ts) (d : decode cc pc = .ok (.getfield idx, 3)) (hn : pc + 3 = n) (kk : V g cc own Ts nL ret R ro σo σ n lv (.int 0 :: rest)) : V g cc own Ts nL ret R ro σo σ pc lv (.ref (g.2.2.2.2.1 i) :: rest) := by
  subst hn
  exact fun p l e s m args below meth c C H locs ls hP hS hl => vk_getf C.1 C.2.1 (C.2.2.2.2.2.2.2.2.1.1.1 i hi).2.1 hS C.2.2.2.2.2.1 (C.2.2.2.2.2.2.1 _ hm) (fun _ h9 => h9) d (kk p l e s m args below meth c C H locs ls hP hS hl)
theorem v_sValue (n : Nat) {i idx : Nat} (hi : i < 5) (hm : Cond.fieldLink own idx "java/lang/String" "value" "[B" ∈ Ts) (d : decode cc pc = .ok (.getfield idx, 3)) (hn : pc + 3 = n) (kk : V g cc own Ts nL ret R ro σo σ n lv (.ref (g.2.2.2.2.2 i) :: rest)) : V g cc own Ts nL ret R ro σo σ pc lv (.ref (g.2.2.2.2.1 i) :: rest) := by
  subst hn
  exact fun p l e s m args below meth c C H locs ls hP hS hl => vk_getf C.1 C.2.1 (C.2.2.2.2.2.2.2.2.1.1.1 i hi).2.2.1 hS C.2.2.2.2.2.1 (C.2.2.2.2.2.2.1 _ hm) (fun _ h9 => h9) d (kk p l e s m args below meth c C H locs ls hP hS hl)
theorem v_sBytes (n : Nat) {i : Nat} (hi : i < 5) (d : decode cc pc = .ok (.arraylength, 1)) (hn : pc + 1 = n) (kk : V g cc own Ts nL ret R ro σo σ n lv (.int (nI (tLen.getD i 0)) :: rest)) : V g cc own Ts nL ret R ro σo σ pc lv (.ref (g.2.2.2.2.2 i) :: rest) := by
  subst hn
  exact fun p l e s m args below meth c C H locs ls hP hS hl => va_tlen C.1 C.2.1 (C.2.2.2.2.2.2.2.2.1.1.1 i hi).2.2.2 hS rfl d (kk p l e s m args below meth c C H locs ls hP hS hl)
theorem v_sByte (n : Nat) {i : Nat} {k : Int32} (hi : i < 5) (hk : inb k (tLen.getD i 0) = true) (d : decode cc pc = .ok (.baload, 1)) (hn : pc + 1 = n) (kk : V g cc own Ts nL ret R ro σo σ n lv (.int ((tByt.getD i []).getD (ix k) 0) :: rest)) : V g cc own Ts nL ret R ro σo σ pc lv (.int k :: .ref (g.2.2.2.2.2 i) :: rest) := by
  subst hn
  exact fun p l e s m args below meth c C H locs ls hP hS hl => va_tb C.1 C.2.1 (C.2.2.2.2.2.2.2.2.1.1.1 i hi).2.2.2 hS (inb_in hk) rfl d (kk p l e s m args below meth c C H locs ls hP hS hl)
theorem v_i2c (n : Nat) {x : Int32} (d : decode cc pc = .ok (.i2c, 1)) (hn : pc + 1 = n) (kk : V g cc own Ts nL ret R ro σo σ n lv (.int ((x.toUInt32 % 65536).toInt32) :: rest)) : V g cc own Ts nL ret R ro σo σ pc lv (.int x :: rest) := by
  subst hn
  exact fun p l e s m args below meth c C H locs ls hP hS hl => lv_i2c C.1 C.2.1 d rfl (kk p l e s m args below meth c C H locs ls hP hS hl)
theorem v_ldcS0 (n : Nat) (d : decode cc pc = .ok (.ldc 123, 2)) (hn : pc + 2 = n) (kk : V g cc RX8 Ts nL ret R ro σo σ n lv (.ref (g.2.2.2.2.1 0) :: rest)) : V g cc RX8 Ts nL ret R ro σo σ pc lv rest := by
  subst hn
  exact fun p l e s m args below meth c C H locs ls hP hS hl => va_ldcS C.1 C.2.1 C.2.2.2.2.2.1 C.2.2.2.2.2.2.2.1.2.2.1 d (kk p l e s m args below meth c C H locs ls hP hS hl)
theorem v_ldcS1 (n : Nat) (d : decode cc pc = .ok (.ldc 129, 2)) (hn : pc + 2 = n) (kk : V g cc RX8 Ts nL ret R ro σo σ n lv (.ref (g.2.2.2.2.1 1) :: rest)) : V g cc RX8 Ts nL ret R ro σo σ pc lv rest := by
  subst hn
  exact fun p l e s m args below meth c C H locs ls hP hS hl => va_ldcS C.1 C.2.1 C.2.2.2.2.2.1 C.2.2.2.2.2.2.2.1.2.2.2.1 d (kk p l e s m args below meth c C H locs ls hP hS hl)
theorem v_ldcS2 (n : Nat) (d : decode cc pc = .ok (.ldc 131, 2)) (hn : pc + 2 = n) (kk : V g cc RX8 Ts nL ret R ro σo σ n lv (.ref (g.2.2.2.2.1 2) :: rest)) : V g cc RX8 Ts nL ret R ro σo σ pc lv rest := by
  subst hn
  exact fun p l e s m args below meth c C H locs ls hP hS hl => va_ldcS C.1 C.2.1 C.2.2.2.2.2.1 C.2.2.2.2.2.2.2.1.2.2.2.2.1 d (kk p l e s m args below meth c C H locs ls hP hS hl)
theorem v_ldcS3 (n : Nat) (d : decode cc pc = .ok (.ldc 133, 2)) (hn : pc + 2 = n) (kk : V g cc RX8 Ts nL ret R ro σo σ n lv (.ref (g.2.2.2.2.1 3) :: rest)) : V g cc RX8 Ts nL ret R ro σo σ pc lv rest := by
  subst hn
  exact fun p l e s m args below meth c C H locs ls hP hS hl => va_ldcS C.1 C.2.1 C.2.2.2.2.2.1 C.2.2.2.2.2.2.2.1.2.2.2.2.2.1 d (kk p l e s m args below meth c C H locs ls hP hS hl)
theorem v_ldcS4 (n : Nat) (d : decode cc pc = .ok (.ldc 135, 2)) (hn : pc + 2 = n) (kk : V g cc RX8 Ts nL ret R ro σo σ n lv (.ref (g.2.2.2.2.1 4) :: rest)) : V g cc RX8 Ts nL ret R ro σo σ pc lv rest := by
  subst hn
  exact fun p l e s m args below meth c C H locs ls hP hS hl => va_ldcS C.1 C.2.1 C.2.2.2.2.2.1 C.2.2.2.2.2.2.2.1.2.2.2.2.2.2 d (kk p l e s m args below meth c C H locs ls hP hS hl)
theorem v_cVs (n : Nat) {i idx na maxL : Nat} {y : MethodName} {ws : List Cond} {bytes : ByteArray} {rt : Option FieldType} {rm : Room} (As : List Value) {st : List Value} {r : Option Value} {τ : Sg} (hi : i < 5) (hM : ∀ l, MetF l y ws rm g (.ref (g.2.2.2.2.1 i) :: As) σ r τ) (hc : Cl y ws bytes maxL rt rm na) (hT : GoodIn Ts (wsV own idx RJ0 y ws)) (hy : y.cls = RJ0) (hR : rm.frames + 1 ≤ R.frames ∧ 8 + (maxL + 11) + rm.locals ≤ R.locals) (hna : As.length = na) (hst : st = As.reverse ++ .ref (g.2.2.2.2.1 i) :: rest) (hro : (rest.map fun v => v.category).sum ≤ 8) (d : decode cc pc = .ok (.invokevirtual idx, 3)) (hn : pc + 3 = n) (kk : V g cc own Ts nL ret R ro σo τ n lv (r.toList ++ rest)) : V g cc own Ts nL ret R ro σo σ pc lv st := by
  subst hn
  subst hst
  obtain ⟨⟨ws', hw⟩, h1, h2, h3, h4, h5⟩ := hc
  exact fun p l e s m args below meth c C H locs ls hP hS hl => q_call (va_runV (As := As) (rest := rest) ⟨C.1, C.2.1, C.2.2.1, C.2.2.2.2.2.1, C.2.2.2.2.2.2.1⟩ (hM l) (cwV na C.2.2.2.2.2.2.1 hT hw h1 h2 ⟨hy, h3, h4, h5⟩ hR) ⟨GW.blind, vk_recv C.2.2.2.2.2.2.2.2.1.1 hi hS, v_pre C.2.2.2.2.2.2.2.1 C.2.2.2.2.2.2.2.2.1 C.2.2.2.2.2.2.2.2.2 hP hS⟩ rfl hna hl.1 rfl (lv_room hro) d ⟨Nat.zero_le _, Nat.zero_le _⟩) hS (fun H1 locs1 hP1 hS1 => kk p l e s m args below meth c C H1 locs1 ls hP1 hS1 hl)
end VSTRG
abbrev rm_s0 : Room := { frames := 0, cells := 0, slots := 0, locals := 0 }
abbrev rm_s1 : Room := { frames := 1, cells := 0, slots := 0, locals := 30 }
abbrev rm_s2 : Room := { frames := 2, cells := 0, slots := 0, locals := 60 }
abbrev rm_s3 : Room := { frames := 3, cells := 0, slots := 0, locals := 90 }
abbrev rm_s4 : Room := { frames := 4, cells := 0, slots := 0, locals := 120 }
theorem cl_s_coder : Cl yJ0_coder_7d493 wsJ0_coder_7d493 cJ0_coder_7d493 1 (some .byte) rm_s0 0 := ⟨⟨_, rfl⟩, rfl, rfl, by decide +kernel, by decide +kernel, by decide +kernel⟩
theorem cl_s_length : Cl yJ0_length_8abf5 wsJ0_length_8abf5 cJ0_length_8abf5 1 (some .int) rm_s1 0 := ⟨⟨_, rfl⟩, rfl, rfl, by decide +kernel, by decide +kernel, by decide +kernel⟩
theorem cl_s_latin : Cl yJ0_isLatin1_aae02 wsJ0_isLatin1_aae02 cJ0_isLatin1_aae02 1 (some .boolean) rm_s0 0 := ⟨⟨_, rfl⟩, rfl, rfl, by decide +kernel, by decide +kernel, by decide +kernel⟩
theorem cl_s_pre : Cl yJ3_checkIndex_8e157 wsJ3_checkIndex_8e157 cJ3_checkIndex_8e157 3 (some .int) rm_s0 3 := ⟨⟨_, rfl⟩, rfl, rfl, by decide +kernel, by decide +kernel, by decide +kernel⟩
theorem cl_s_chk : Cl yJ0_checkIndex_df160 wsJ0_checkIndex_df160 cJ0_checkIndex_df160 2 none rm_s1 2 := ⟨⟨_, rfl⟩, rfl, rfl, by decide +kernel, by decide +kernel, by decide +kernel⟩
theorem cl_s_lat : Cl yJ1_charAt_3b067 wsJ1_charAt_3b067 cJ1_charAt_3b067 2 (some .char) rm_s2 2 := ⟨⟨_, rfl⟩, rfl, rfl, by decide +kernel, by decide +kernel, by decide +kernel⟩
theorem cl_s_charAt : Cl yJ0_charAt_5068e wsJ0_charAt_5068e cJ0_charAt_5068e 2 (some .char) rm_s3 1 := ⟨⟨_, rfl⟩, rfl, rfl, by decide +kernel, by decide +kernel, by decide +kernel⟩
set_option maxRecDepth 100000 in
theorem c_s_coder {g : Cx} {σ : Sg} (i : Nat) (hi : i < 5) : ∀ l, MetF l yJ0_coder_7d493 wsJ0_coder_7d493 rm_s0 g [.ref (g.2.2.2.2.1 i)] σ (some (.int 0)) σ := by
  refine MetF.of (own0 := RJ0) (lv0 := [(0, .ref (g.2.2.2.2.1 i))]) rfl cl_s_coder (by decide) (Nat.le_of_ble_eq_true rfl) rfl ?_
  refine v_getsC 3 (by decide +kernel) dJ0_coder_7d493_0 rfl ?_
  refine v_if_eq 6 13 (A := false) (B := true) (oo := true) (by decide) dJ0_coder_7d493_3 rfl (by decide) (fun h => nomatch h) (fun _ => ?_)
  refine v_aload_n 7 0 dJ0_coder_7d493_6 rfl rfl rfl ?_
  refine v_sCoder 10 hi (by decide +kernel) dJ0_coder_7d493_7 rfl ?_
  refine v_goto 14 dJ0_coder_7d493_10 (by decide) ?_
  exact v_nret rfl rfl dJ0_coder_7d493_14
set_option maxRecDepth 100000 in
theorem c_s_latin {g : Cx} {σ : Sg} (i : Nat) (hi : i < 5) : ∀ l, MetF l yJ0_isLatin1_aae02 wsJ0_isLatin1_aae02 rm_s0 g [.ref (g.2.2.2.2.1 i)] σ (some (.int 1)) σ := by
  refine MetF.of (own0 := RJ0) (lv0 := [(0, .ref (g.2.2.2.2.1 i))]) rfl cl_s_latin (by decide) (Nat.le_of_ble_eq_true rfl) rfl ?_
  refine v_getsC 3 (by decide +kernel) dJ0_isLatin1_aae02_0 rfl ?_
  refine v_if_eq 6 17 (A := false) (B := true) (oo := true) (by decide) dJ0_isLatin1_aae02_3 rfl (by decide) (fun h => nomatch h) (fun _ => ?_)
  refine v_aload_n 7 0 dJ0_isLatin1_aae02_6 rfl rfl rfl ?_
  refine v_sCoder 10 hi (by decide +kernel) dJ0_isLatin1_aae02_7 rfl ?_
  refine v_if_ne 13 17 (A := false) (B := true) (oo := true) (by decide) dJ0_isLatin1_aae02_10 rfl (by decide) (fun h => nomatch h) (fun _ => ?_)
  refine v_iconst 14 1 dJ0_isLatin1_aae02_13 kc_i_1 rfl ?_
  refine v_goto 18 dJ0_isLatin1_aae02_14 (by decide) ?_
  exact v_zret rfl (Or.inr rfl) dJ0_isLatin1_aae02_18
set_option maxRecDepth 100000 in
theorem c_s_length {g : Cx} {σ : Sg} (i : Nat) (hi : i < 5) : ∀ l, MetF l yJ0_length_8abf5 wsJ0_length_8abf5 rm_s1 g [.ref (g.2.2.2.2.1 i)] σ (some (.int (nI (tLen.getD i 0)))) σ := by
  refine MetF.of (own0 := RJ0) (lv0 := [(0, .ref (g.2.2.2.2.1 i))]) rfl cl_s_length (by decide) (Nat.le_of_ble_eq_true rfl) rfl ?_
  refine v_aload_n 1 0 dJ0_length_8abf5_0 rfl rfl rfl ?_
  refine v_sValue 4 hi (by decide +kernel) dJ0_length_8abf5_1 rfl ?_
  refine v_sBytes 5 hi dJ0_length_8abf5_4 rfl ?_
  refine v_aload_n 6 0 dJ0_length_8abf5_5 rfl rfl rfl ?_
  refine v_cVs 9 [] hi (c_s_coder i hi) cl_s_coder gJ0_length_8abf5_J0_coder_7d493 rfl ⟨Nat.le_of_ble_eq_true rfl, Nat.le_of_ble_eq_true rfl⟩ rfl rfl (Nat.le_of_ble_eq_true rfl) dJ0_length_8abf5_6 rfl ?_
  refine v_ishr 10 dJ0_length_8abf5_9 rfl ?_
  exact v_iretT (sb_shr0 _) rfl dJ0_length_8abf5_10
set_option maxRecDepth 100000 in
theorem c_s_pre {g : Cx} {σ : Sg} (k n : Int32) (v : Value) (hv : v = .null ∨ ∃ t : Nat, v = .ref t) (h0 : ¬ k < 0) (h1 : k < n) : ∀ l, MetF l yJ3_checkIndex_8e157 wsJ3_checkIndex_8e157 rm_s0 g [.int k, .int n, v] σ (some (.int k)) σ := by
  refine MetF.of (own0 := RJ3) (lv0 := [(0, .int k), (1, .int n), (2, v)]) rfl cl_s_pre (by decide) (by rcases hv with rfl | ⟨t, rfl⟩ <;> exact Nat.le_of_ble_eq_true rfl) rfl ?_
  refine v_iload_n 1 0 dJ3_checkIndex_8e157_0 rfl rfl rfl ?_
  refine v_if_lt 4 9 (A := false) (B := true) (oo := true) (by rw [if_neg h0]) dJ3_checkIndex_8e157_1 rfl (by decide) (fun h => nomatch h) (fun _ => ?_)
  refine v_iload_n 5 0 dJ3_checkIndex_8e157_4 rfl rfl rfl ?_
  refine v_iload_n 6 1 dJ3_checkIndex_8e157_5 rfl rfl rfl ?_
  refine v_icmp_lt 9 16 (A := true) (B := false) (oo := true) (by rw [if_pos h1]) dJ3_checkIndex_8e157_6 rfl (by decide) (fun _ => ?_) (fun h => nomatch h)
  refine v_iload_n 17 0 dJ3_checkIndex_8e157_16 rfl rfl rfl ?_
  exact v_iret rfl dJ3_checkIndex_8e157_17
set_option maxRecDepth 100000 in
theorem c_s_chk {g : Cx} {σ : Sg} (k n : Int32) (h0 : ¬ k < 0) (h1 : k < n) : ∀ l, MetF l yJ0_checkIndex_df160 wsJ0_checkIndex_df160 rm_s1 g [.int k, .int n] σ none σ := by
  refine MetF.of (own0 := RJ0) (lv0 := [(0, .int k), (1, .int n)]) rfl cl_s_chk (by decide) (Nat.le_of_ble_eq_true rfl) rfl ?_
  refine v_iload_n 1 0 dJ0_checkIndex_df160_0 rfl rfl rfl ?_
  refine v_iload_n 2 1 dJ0_checkIndex_df160_1 rfl rfl rfl ?_
  refine v_getsQ 5 (by decide +kernel) dJ0_checkIndex_df160_2 rfl (fun v hv => ?_)
  refine v_cS (rest := []) 8 [.int k, .int n, v] (c_s_pre k n v hv h0 h1) cl_s_pre gJ0_checkIndex_df160_J3_checkIndex_8e157 ⟨Nat.le_of_ble_eq_true rfl, Nat.le_of_ble_eq_true rfl⟩ rfl rfl (Nat.le_of_ble_eq_true rfl) dJ0_checkIndex_df160_5 rfl ?_
  refine v_pop 9 dJ0_checkIndex_df160_8 rfl rfl ?_
  exact v_vret rfl dJ0_checkIndex_df160_9
theorem s_in {k : Int32} {n : Nat} (hn : n < 2 ^ 31) (h : inb k n = true) : ¬ k < 0 ∧ k < nI n := by
  obtain ⟨j, hj, rfl⟩ := vp_in_of (inb_in h) hn
  exact ⟨nI_pos (by omega), nI_lt hj hn⟩
theorem s_len : ∀ i : Nat, i < 5 → tLen.getD i 0 < 2 ^ 31 := by decide
set_option maxRecDepth 100000 in
theorem c_s_lat {g : Cx} {σ : Sg} (i : Nat) (hi : i < 5) (k : Int32) (h : inb k (tLen.getD i 0) = true) : ∀ l, MetF l yJ1_charAt_3b067 wsJ1_charAt_3b067 rm_s2 g [.ref (g.2.2.2.2.2 i), .int k] σ (some (.int (f_charAt i k))) σ := by
  have h2 := s_in (s_len i hi) h
  refine MetF.of (own0 := RJ1) (lv0 := [(0, .ref (g.2.2.2.2.2 i)), (1, .int k)]) rfl cl_s_lat (by decide) (Nat.le_of_ble_eq_true rfl) rfl ?_
  refine v_iload_n 1 1 dJ1_charAt_3b067_0 rfl rfl rfl ?_
  refine v_aload_n 2 0 dJ1_charAt_3b067_1 rfl rfl rfl ?_
  refine v_sBytes 3 hi dJ1_charAt_3b067_2 rfl ?_
  refine v_cS (rest := []) 6 [.int k, .int (nI (tLen.getD i 0))] (c_s_chk k _ h2.1 h2.2) cl_s_chk gJ1_charAt_3b067_J0_checkIndex_df160 ⟨Nat.le_of_ble_eq_true rfl, Nat.le_of_ble_eq_true rfl⟩ rfl rfl (Nat.le_of_ble_eq_true rfl) dJ1_charAt_3b067_3 rfl ?_
  refine v_aload_n 7 0 dJ1_charAt_3b067_6 rfl rfl rfl ?_
  refine v_iload_n 8 1 dJ1_charAt_3b067_7 rfl rfl rfl ?_
  refine v_sByte 9 hi h dJ1_charAt_3b067_8 rfl ?_
  refine v_sipush 12 255 dJ1_charAt_3b067_9 (by decide) rfl ?_
  refine v_iand 13 dJ1_charAt_3b067_12 rfl ?_
  refine v_i2c 14 dJ1_charAt_3b067_13 rfl ?_
  rw [sc_c2]
  exact v_nret rfl (sc_nar _) dJ1_charAt_3b067_14
set_option maxRecDepth 100000 in
theorem c_s_charAt {g : Cx} {σ : Sg} (i : Nat) (hi : i < 5) (k : Int32) (h : inb k (tLen.getD i 0) = true) : ∀ l, MetF l yJ0_charAt_5068e wsJ0_charAt_5068e rm_s3 g [.ref (g.2.2.2.2.1 i), .int k] σ (some (.int (f_charAt i k))) σ := by
  refine MetF.of (own0 := RJ0) (lv0 := [(0, .ref (g.2.2.2.2.1 i)), (1, .int k)]) rfl cl_s_charAt (by decide) (Nat.le_of_ble_eq_true rfl) rfl ?_
  refine v_aload_n 1 0 dJ0_charAt_5068e_0 rfl rfl rfl ?_
  refine v_cVs 4 [] hi (c_s_latin i hi) cl_s_latin gJ0_charAt_5068e_J0_isLatin1_aae02 rfl ⟨Nat.le_of_ble_eq_true rfl, Nat.le_of_ble_eq_true rfl⟩ rfl rfl (Nat.le_of_ble_eq_true rfl) dJ0_charAt_5068e_1 rfl ?_
  refine v_if_eq 7 16 (A := false) (B := true) (oo := true) (by decide) dJ0_charAt_5068e_4 rfl (by decide) (fun h => nomatch h) (fun _ => ?_)
  refine v_aload_n 8 0 dJ0_charAt_5068e_7 rfl rfl rfl ?_
  refine v_sValue 11 hi (by decide +kernel) dJ0_charAt_5068e_8 rfl ?_
  refine v_iload_n 12 1 dJ0_charAt_5068e_11 rfl rfl rfl ?_
  refine v_cS (rest := []) 15 [.ref (g.2.2.2.2.2 i), .int k] (c_s_lat i hi k h) cl_s_lat gJ0_charAt_5068e_J1_charAt_3b067 ⟨Nat.le_of_ble_eq_true rfl, Nat.le_of_ble_eq_true rfl⟩ rfl rfl (Nat.le_of_ble_eq_true rfl) dJ0_charAt_5068e_12 rfl ?_
  exact v_nret rfl (sc_nar _) dJ0_charAt_5068e_15
section VSTRG2
variable {g : Cx} {cc : ByteArray} {own : String} {Ts : List Cond} {nL : Nat} {ret : Option FieldType} {R : Room} {ro : Option Value} {σo σ : Sg} {pc : Nat} {lv : List (Nat × Value)} {rest : List Value}
theorem v_strLen (n : Nat) {i idx : Nat} (hi : i < 5) (hT : GoodIn Ts (wsV own idx RJ0 yJ0_length_8abf5 wsJ0_length_8abf5)) (hR : rm_s1.frames + 1 ≤ R.frames ∧ 8 + (1 + 11) + rm_s1.locals ≤ R.locals) (hro : (rest.map fun v => v.category).sum ≤ 8) (d : decode cc pc = .ok (.invokevirtual idx, 3)) (hn : pc + 3 = n) (kk : V g cc own Ts nL ret R ro σo σ n lv (.int (nI (tLen.getD i 0)) :: rest)) : V g cc own Ts nL ret R ro σo σ pc lv (.ref (g.2.2.2.2.1 i) :: rest) :=
  v_cVs n [] hi (c_s_length i hi) cl_s_length hT rfl hR rfl rfl hro d hn kk
theorem v_strAt (n : Nat) {i idx : Nat} {k : Int32} {γ : Type} {A : Option γ} {oo : γ} (h : (if inb k (tLen.getD i 0) = true then A else none) = some oo) (hi : i < 5) (hT : GoodIn Ts (wsV own idx RJ0 yJ0_charAt_5068e wsJ0_charAt_5068e)) (hR : rm_s3.frames + 1 ≤ R.frames ∧ 8 + (2 + 11) + rm_s3.locals ≤ R.locals) (hro : (rest.map fun v => v.category).sum ≤ 8) (d : decode cc pc = .ok (.invokevirtual idx, 3)) (hn : pc + 3 = n) (kk : A = some oo → V g cc own Ts nL ret R ro σo σ n lv (.int (f_charAt i k) :: rest)) : V g cc own Ts nL ret R ro σo σ pc lv (.int k :: .ref (g.2.2.2.2.1 i) :: rest) :=
  v_ite h (fun q h => v_cVs n [.int k] hi (c_s_charAt i hi k q) cl_s_charAt hT rfl hR rfl rfl hro d hn (kk h)) (fun _ h => by cases h)
end VSTRG2
