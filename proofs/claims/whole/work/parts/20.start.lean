/-! ===== the world at the start of the law's loop, flat ===== -/
set_option maxRecDepth 100000 in
set_option maxHeartbeats 8000000 in
theorem flat0 {g : Cx} {x0 x1 : Nat} {w1 w2 : va_W} (h1 : Sh_Widow g x0 w1) (h2 : Sh_Model g x1 w2) : ∃ ad : Nat → Nat, ad 0 = x0 ∧ ad 112 = x1 ∧ w1 ++ w2 = WL (ad, g.2) sg0 := by
  obtain ⟨a1, v1, a2, v2, a3, v3, a4, v4, a5, v5, a6, v6, a7, v7, a8, v8, a9, v9, h1, h2, h3, h4, h5, h6, h7, h8, h9, rfl⟩ := h1
  obtain ⟨a10, v10, a11, v11, a12, v12, a13, v13, a14, v14, a15, v15, a16, v16, a17, v17, a18, v18, h10, h11, h12, h13, h14, h15, h16, h17, h18, rfl⟩ := h1
  obtain ⟨a19, rfl⟩ := h10
  obtain ⟨a20, rfl⟩ := h11
  obtain ⟨a21, rfl⟩ := h12
  obtain ⟨a22, rfl⟩ := h13
  obtain ⟨a23, rfl⟩ := h14
  obtain ⟨a24, rfl⟩ := h15
  obtain ⟨a25, rfl⟩ := h16
  obtain ⟨a26, rfl⟩ := h17
  obtain ⟨a27, v27, a28, v28, h27, h28, rfl⟩ := h18
  obtain ⟨a29, rfl⟩ := h27
  obtain ⟨a30, rfl⟩ := h28
  obtain ⟨a31, v31, a32, v32, a33, v33, a34, v34, a35, v35, a36, v36, a37, v37, a38, v38, a39, v39, h31, h32, h33, h34, h35, h36, h37, h38, h39, rfl⟩ := h2
  obtain ⟨a40, rfl⟩ := h31
  obtain ⟨a41, rfl⟩ := h32
  obtain ⟨a42, rfl⟩ := h33
  obtain ⟨a43, rfl⟩ := h34
  obtain ⟨a44, rfl⟩ := h35
  obtain ⟨a45, rfl⟩ := h36
  obtain ⟨a46, rfl⟩ := h37
  obtain ⟨a47, rfl⟩ := h38
  obtain ⟨a48, v48, a49, v49, h48, h49, rfl⟩ := h39
  obtain ⟨a50, rfl⟩ := h48
  obtain ⟨a51, rfl⟩ := h49
  obtain ⟨a52, v52, a53, v53, a54, v54, a55, v55, a56, v56, a57, v57, a58, v58, a59, v59, a60, v60, h52, h53, h54, h55, h56, h57, h58, h59, h60, rfl⟩ := h3
  obtain ⟨a61, rfl⟩ := h52
  obtain ⟨a62, rfl⟩ := h53
  obtain ⟨a63, rfl⟩ := h54
  obtain ⟨a64, rfl⟩ := h55
  obtain ⟨a65, rfl⟩ := h56
  obtain ⟨a66, rfl⟩ := h57
  obtain ⟨a67, rfl⟩ := h58
  obtain ⟨a68, rfl⟩ := h59
  obtain ⟨a69, v69, a70, v70, h69, h70, rfl⟩ := h60
  obtain ⟨a71, rfl⟩ := h69
  obtain ⟨a72, rfl⟩ := h70
  obtain ⟨a73, rfl⟩ := h4
  obtain ⟨a74, v74, a75, v75, h74, h75, rfl⟩ := h5
  obtain ⟨a76, v76, a77, v77, a78, v78, a79, v79, a80, v80, a81, v81, a82, v82, a83, v83, a84, v84, h76, h77, h78, h79, h80, h81, h82, h83, h84, rfl⟩ := h74
  obtain ⟨a85, rfl⟩ := h76
  obtain ⟨a86, rfl⟩ := h77
  obtain ⟨a87, rfl⟩ := h78
  obtain ⟨a88, rfl⟩ := h79
  obtain ⟨a89, rfl⟩ := h80
  obtain ⟨a90, rfl⟩ := h81
  obtain ⟨a91, rfl⟩ := h82
  obtain ⟨a92, rfl⟩ := h83
  obtain ⟨a93, v93, a94, v94, h93, h94, rfl⟩ := h84
  obtain ⟨a95, rfl⟩ := h93
  obtain ⟨a96, rfl⟩ := h94
  obtain ⟨a97, rfl⟩ := h75
  obtain ⟨a98, v98, a99, v99, h98, h99, rfl⟩ := h6
  obtain ⟨a100, rfl⟩ := h98
  obtain ⟨a101, rfl⟩ := h99
  obtain ⟨a102, v102, h102, rfl⟩ := h7
  obtain ⟨a103, rfl⟩ := h102
  obtain ⟨a104, v104, a105, v105, h104, h105, rfl⟩ := h8
  obtain ⟨a106, rfl⟩ := h104
  obtain ⟨a107, rfl⟩ := h105
  obtain ⟨a108, v108, a109, v109, h108, h109, rfl⟩ := h9
  obtain ⟨a110, rfl⟩ := h108
  obtain ⟨a111, rfl⟩ := h109
  obtain ⟨a112, a113, a114, a115, a116, a117, a118, a119, a120, rfl⟩ := h2
  exact ⟨fun k => [x0, a1, a10, a19, a11, a20, a12, a21, a13, a22, a14, a23, a15, a24, a16, a25, a17, a26, a18, a27, a29, a28, a30, a2, a31, a40, a32, a41, a33, a42, a34, a43, a35, a44, a36, a45, a37, a46, a38, a47, a39, a48, a50, a49, a51, a3, a52, a61, a53, a62, a54, a63, a55, a64, a56, a65, a57, a66, a58, a67, a59, a68, a60, a69, a71, a70, a72, a4, a73, a5, a74, a76, a85, a77, a86, a78, a87, a79, a88, a80, a89, a81, a90, a82, a91, a83, a92, a84, a93, a95, a94, a96, a75, a97, a6, a98, a100, a99, a101, a7, a102, a103, a8, a104, a106, a105, a107, a9, a108, a110, a109, a111, x1, a112, a113, a114, a115, a116, a117, a118, a119, a120].getD k 0, rfl, rfl, rfl⟩
theorem P_of {D : va_G} {cl : List vw_C} {g : Cx} {σ : Sg} {ws : va_W} {A : Nat → Prop} (e : ws = WL g σ) (hD : va_D A ws) : Inj g ∧ ∀ q, Aw g q → A q := by
  subst e
  refine ⟨fun i j hi hj hij => hD.1 i j _ _ (WL_get hi) (WL_get hj) hij, fun q hq => ?_⟩
  obtain ⟨k, hk, rfl⟩ := hq
  exact hD.2 k _ (WL_get hk)
theorem nest_in : ∀ w ∈ nestW, w ∈ lw_tbl := pl_in [102, 125, 208, 241, 244, 288, 306, 433, 564, 565, 622, 673, 728, 781, 875, 991] (by decide +kernel)
def sTm (i : Nat) : Term := match i with
  | 0 => .string "WidowWeight$TextReader" 123
  | 1 => .string "WidowWeight$TextReader" 129
  | 2 => .string "WidowWeight$TextReader" 131
  | 3 => .string "WidowWeight$TextReader" 133
  | 4 => .string "WidowWeight$TextReader" 135
  | _ => .string "WidowWeight$TextReader" 0
def flatW : List Cond := flatC (Jvm.Cond.and given_1 narrow_1)
theorem s_ex {args : Array Value} {s : State} (hs : ∀ w ∈ flatW, w.before args s = true) : ∀ i : Nat, i < 5 → (Cond.exactly (sTm i) "java/lang/String").before args s = true := by
  intro i hi
  match i, hi with
  | 0, _ => exact hs _ (by decide +kernel)
  | 1, _ => exact hs _ (by decide +kernel)
  | 2, _ => exact hs _ (by decide +kernel)
  | 3, _ => exact hs _ (by decide +kernel)
  | 4, _ => exact hs _ (by decide +kernel)
theorem s_co {args : Array Value} {s : State} (hs : ∀ w ∈ flatW, w.before args s = true) : ∀ i : Nat, i < 5 → (Cond.eq (.field (sTm i) "java/lang/String" "coder" "B") (.int 0)).before args s = true := by
  intro i hi
  match i, hi with
  | 0, _ => exact hs _ (by decide +kernel)
  | 1, _ => exact hs _ (by decide +kernel)
  | 2, _ => exact hs _ (by decide +kernel)
  | 3, _ => exact hs _ (by decide +kernel)
  | 4, _ => exact hs _ (by decide +kernel)
theorem s_ar {args : Array Value} {s : State} (hs : ∀ w ∈ flatW, w.before args s = true) : ∀ i : Nat, i < 5 → (Cond.arrayOf (.field (sTm i) "java/lang/String" "value" "[B") .byte).before args s = true := by
  intro i hi
  match i, hi with
  | 0, _ => exact hs _ (by decide +kernel)
  | 1, _ => exact hs _ (by decide +kernel)
  | 2, _ => exact hs _ (by decide +kernel)
  | 3, _ => exact hs _ (by decide +kernel)
  | 4, _ => exact hs _ (by decide +kernel)
theorem s_le {args : Array Value} {s : State} (hs : ∀ w ∈ flatW, w.before args s = true) : ∀ i : Nat, i < 5 → (Cond.eq (.length (.field (sTm i) "java/lang/String" "value" "[B")) (.int (Int32.ofNat (tLen.getD i 0)))).before args s = true := by
  intro i hi
  match i, hi with
  | 0, _ => exact hs _ (by decide +kernel)
  | 1, _ => exact hs _ (by decide +kernel)
  | 2, _ => exact hs _ (by decide +kernel)
  | 3, _ => exact hs _ (by decide +kernel)
  | 4, _ => exact hs _ (by decide +kernel)
theorem s_el {args : Array Value} {s : State} (hs : ∀ w ∈ flatW, w.before args s = true) : ∀ i : Nat, i < 5 → ∀ j : Nat, j < tLen.getD i 0 → (Cond.eq (.elem (.field (sTm i) "java/lang/String" "value" "[B") (.int (Int32.ofNat j))) (.int ((tByt.getD i []).getD j 0))).before args s = true := by
  intro i hi j hj
  match i, hi with
  | 0, _ =>
    match j, hj with
    | 0, _ => exact hs _ (by decide +kernel)
    | 1, _ => exact hs _ (by decide +kernel)
    | 2, _ => exact hs _ (by decide +kernel)
    | 3, _ => exact hs _ (by decide +kernel)
    | 4, _ => exact hs _ (by decide +kernel)
    | 5, _ => exact hs _ (by decide +kernel)
    | j + 6, h => exact absurd h (by show ¬ j + 6 < 6; omega)
  | 1, _ =>
    match j, hj with
    | 0, _ => exact hs _ (by decide +kernel)
    | 1, _ => exact hs _ (by decide +kernel)
    | 2, _ => exact hs _ (by decide +kernel)
    | 3, _ => exact hs _ (by decide +kernel)
    | 4, _ => exact hs _ (by decide +kernel)
    | 5, _ => exact hs _ (by decide +kernel)
    | j + 6, h => exact absurd h (by show ¬ j + 6 < 6; omega)
  | 2, _ =>
    match j, hj with
    | 0, _ => exact hs _ (by decide +kernel)
    | 1, _ => exact hs _ (by decide +kernel)
    | 2, _ => exact hs _ (by decide +kernel)
    | 3, _ => exact hs _ (by decide +kernel)
    | j + 4, h => exact absurd h (by show ¬ j + 4 < 4; omega)
  | 3, _ =>
    match j, hj with
    | 0, _ => exact hs _ (by decide +kernel)
    | 1, _ => exact hs _ (by decide +kernel)
    | 2, _ => exact hs _ (by decide +kernel)
    | 3, _ => exact hs _ (by decide +kernel)
    | 4, _ => exact hs _ (by decide +kernel)
    | 5, _ => exact hs _ (by decide +kernel)
    | 6, _ => exact hs _ (by decide +kernel)
    | j + 7, h => exact absurd h (by show ¬ j + 7 < 7; omega)
  | 4, _ =>
    match j, hj with
    | 0, _ => exact hs _ (by decide +kernel)
    | 1, _ => exact hs _ (by decide +kernel)
    | 2, _ => exact hs _ (by decide +kernel)
    | 3, _ => exact hs _ (by decide +kernel)
    | j + 4, h => exact absurd h (by show ¬ j + 4 < 4; omega)
theorem s_ne {args : Array Value} {s : State} (hs : ∀ w ∈ flatW, w.before args s = true) : ∀ i j : Nat, i < 5 → j < 5 → i ≠ j → (Cond.not (Cond.eq (sTm i) (sTm j))).before args s = true ∨ (Cond.not (Cond.eq (sTm j) (sTm i))).before args s = true := by
  intro i j hi hj hij
  match i, j, hi, hj with
  | 0, 0, _, _ => exact absurd rfl hij
  | 0, 1, _, _ => exact Or.inl (hs _ (by decide +kernel))
  | 0, 2, _, _ => exact Or.inl (hs _ (by decide +kernel))
  | 0, 3, _, _ => exact Or.inl (hs _ (by decide +kernel))
  | 0, 4, _, _ => exact Or.inl (hs _ (by decide +kernel))
  | 1, 0, _, _ => exact Or.inr (hs _ (by decide +kernel))
  | 1, 1, _, _ => exact absurd rfl hij
  | 1, 2, _, _ => exact Or.inl (hs _ (by decide +kernel))
  | 1, 3, _, _ => exact Or.inl (hs _ (by decide +kernel))
  | 1, 4, _, _ => exact Or.inl (hs _ (by decide +kernel))
  | 2, 0, _, _ => exact Or.inr (hs _ (by decide +kernel))
  | 2, 1, _, _ => exact Or.inr (hs _ (by decide +kernel))
  | 2, 2, _, _ => exact absurd rfl hij
  | 2, 3, _, _ => exact Or.inl (hs _ (by decide +kernel))
  | 2, 4, _, _ => exact Or.inl (hs _ (by decide +kernel))
  | 3, 0, _, _ => exact Or.inr (hs _ (by decide +kernel))
  | 3, 1, _, _ => exact Or.inr (hs _ (by decide +kernel))
  | 3, 2, _, _ => exact Or.inr (hs _ (by decide +kernel))
  | 3, 3, _, _ => exact absurd rfl hij
  | 3, 4, _, _ => exact Or.inl (hs _ (by decide +kernel))
  | 4, 0, _, _ => exact Or.inr (hs _ (by decide +kernel))
  | 4, 1, _, _ => exact Or.inr (hs _ (by decide +kernel))
  | 4, 2, _, _ => exact Or.inr (hs _ (by decide +kernel))
  | 4, 3, _, _ => exact Or.inr (hs _ (by decide +kernel))
  | 4, 4, _, _ => exact absurd rfl hij
theorem law_ctx {s : State} {b : Nat} (hts : ∀ w ∈ lw_tbl, w.before #[Value.ref b] s = true) (hs : ∀ w ∈ flatW, w.before #[Value.ref b] s = true) : ∃ g : va_G × ClassId × ClassId × (Nat → Nat) × (Nat → Nat), ∀ ad : Nat → Nat, GK (ad, g) s ∧ ((∀ q, Aw (ad, g) q → s.heap.size ≤ q) → XF (ad, g) s s.heap) := by
  obtain ⟨c0, iS0, hKn0⟩ := u_known (C := RX3) (T := TX3) (N := 9) (n := 9) hts inX3 (hts _ (List.mem_of_getElem? (i := 101) (by decide +kernel)))
  obtain ⟨c1, iS1, hKn1⟩ := u_known (C := RX4) (T := TX4) (N := 4) (n := 4) hts inX4 (hts _ (List.mem_of_getElem? (i := 124) (by decide +kernel)))
  obtain ⟨c2, iS2, hKn2⟩ := u_known (C := RX5) (T := TX5) (N := 10) (n := 10) hts inX5 (hts _ (List.mem_of_getElem? (i := 243) (by decide +kernel)))
  obtain ⟨c3, iS3, hKn3⟩ := u_known (C := RX6) (T := TX6) (N := 3) (n := 3) hts inX6 (hts _ (List.mem_of_getElem? (i := 305) (by decide +kernel)))
  obtain ⟨c4, iS4, hKn4⟩ := u_known (C := RX7) (T := TX7) (N := 2) (n := 2) hts inX7 (hts _ (List.mem_of_getElem? (i := 107) (by decide +kernel)))
  obtain ⟨c5, iS5, hKn5⟩ := u_known (C := RX8) (T := TX8) (N := 9) (n := 9) hts inX8 (hts _ (List.mem_of_getElem? (i := 202) (by decide +kernel)))
  obtain ⟨c6, iS6, hKn6⟩ := u_known (C := RX10) (T := TX10) (N := 3) (n := 3) hts inX10 (hts _ (List.mem_of_getElem? (i := 287) (by decide +kernel)))
  obtain ⟨c7, iS7, hKn7⟩ := u_known (C := RX11) (T := TX11) (N := 15) (n := 15) hts inX11 (hts _ (List.mem_of_getElem? (i := 93) (by decide +kernel)))
  obtain ⟨c8, iS8, hKn8⟩ := u_known (C := RX12) (T := TX12) (N := 20) (n := 20) hts inX12 (hts _ (List.mem_of_getElem? (i := 1064) (by decide +kernel)))
  obtain ⟨dC, dI, hKc⟩ : ∃ (dC : Nat → ClassId) (dI : Nat → Nat → Nat), ∀ (k : Nat) (q : vw_C), vwCl[k]? = some q → u_Kn s q.1 q.2.1 q.2.2 (dC k) (dI k) := by
    refine ⟨fun k => if k = 0 then c0 else if k = 1 then c1 else if k = 2 then c2 else if k = 3 then c3 else if k = 4 then c4 else if k = 5 then c5 else if k = 6 then c6 else if k = 7 then c7 else c8, fun k => if k = 0 then iS0 else if k = 1 then iS1 else if k = 2 then iS2 else if k = 3 then iS3 else if k = 4 then iS4 else if k = 5 then iS5 else if k = 6 then iS6 else if k = 7 then iS7 else iS8, ?_⟩
    intro k q hq
    match k, hq with
    | 0, hq => cases hq; exact hKn0
    | 1, hq => cases hq; exact hKn1
    | 2, hq => cases hq; exact hKn2
    | 3, hq => cases hq; exact hKn3
    | 4, hq => cases hq; exact hKn4
    | 5, hq => cases hq; exact hKn5
    | 6, hq => cases hq; exact hKn6
    | 7, hq => cases hq; exact hKn7
    | 8, hq => cases hq; exact hKn8
    | k + 9, hq => simp [vwCl] at hq
  obtain ⟨cI, kI, compI, hfI, hkI, hkindI⟩ := Cond.arrayClass_spec (show (Cond.arrayClass .int).before #[Value.ref b] s = true from hts _ (List.mem_of_getElem? (i := 122) (by decide +kernel)))
  obtain ⟨cZ, kZ, compZ, hfZ, hkZ, hkindZ⟩ := Cond.arrayClass_spec (show (Cond.arrayClass .boolean).before #[Value.ref b] s = true from hts _ (List.mem_of_getElem? (i := 1130) (by decide +kernel)))
  obtain ⟨adK, adV, hStr, hTm⟩ := vk_Sof (A := fun q : Nat => s.heap.size ≤ q) (tm := sTm) (N := 5) (len := tLen) (byt := tByt) s_len (s_ex hs) (s_co hs) (s_ar hs) (s_le hs) (s_el hs) (s_ne hs) (fun a h => Nat.not_le.mpr h)
  have hZ1 : va_Z "java/lang/String" "COMPACT_STRINGS" "Z" (.int 1) (fun q : Nat => s.heap.size ≤ q) s s.heap := va_Zof (hts _ (List.mem_of_getElem? (i := 507) (by decide +kernel))) (hts _ (List.mem_of_getElem? (i := 83) (by decide +kernel))) (va_eqi (hs _ (by decide +kernel))) (fun a h => Nat.not_le.mpr h)
  have hZ2 : va_Zq "jdk/internal/util/Preconditions" "SIOOBE_FORMATTER" "Ljava/util/function/BiFunction;" (fun q : Nat => s.heap.size ≤ q) s s.heap := va_Zqof (hts _ (List.mem_of_getElem? (i := 523) (by decide +kernel))) (hts _ (List.mem_of_getElem? (i := 85) (by decide +kernel))) (hs _ (by decide +kernel)) (fun a h => Nat.not_le.mpr h)
  refine ⟨((dC, dI), cI, cZ, adK, adV), fun ad => ⟨⟨⟨hKc, fun k q h => ?_⟩, fun w hw => ?_, ?_⟩, fun hA => ⟨hStr.narrow hA, hZ1.narrow hA, hZ2.narrow hA⟩⟩⟩
  · match k, h with
    | 0, h => cases h; exact ⟨fun n z => ⟨fun k h => (by cases h), kI, hkI, compI, hkindI⟩, hfI⟩
    | 1, h => cases h; exact ⟨fun n z => ⟨fun k h => (by cases h), kZ, hkZ, compZ, hkindZ⟩, hfZ⟩
    | k + 2, h => simp at h
  · have h1 := hts w (nest_in w hw)
    simp only [nestW, List.mem_cons, List.not_mem_nil, or_false] at hw
    rcases hw with rfl | rfl | rfl | rfl | rfl | rfl | rfl | rfl | rfl | rfl | rfl | rfl | rfl | rfl | rfl | rfl <;> exact va_Nw.of rfl h1
  · exact ⟨vk_R.of (hts _ (List.mem_of_getElem? (i := 493) (by decide +kernel))) (hTm 0 (by decide)), vk_R.of (hts _ (List.mem_of_getElem? (i := 546) (by decide +kernel))) (hTm 1 (by decide)), vk_R.of (hts _ (List.mem_of_getElem? (i := 547) (by decide +kernel))) (hTm 2 (by decide)), vk_R.of (hts _ (List.mem_of_getElem? (i := 548) (by decide +kernel))) (hTm 3 (by decide)), vk_R.of (hts _ (List.mem_of_getElem? (i := 549) (by decide +kernel))) (hTm 4 (by decide))⟩
theorem KN_of {ad : Nat → Nat} {g : va_G × ClassId × ClassId × (Nat → Nat) × (Nat → Nat)} {s : State} (h : GK (ad, g) s) : KN (ad, g) s := ⟨h.1, h.2.1⟩
set_option maxRecDepth 100000 in
set_option maxHeartbeats 8000000 in
/-- YOUR PART: from the entry, for every script of at most 320 ints, the law comes to its end with true -/
theorem whole_start {p : Program} {e : Env} {s : State} {m : MethodId} {below : List Frame} {meth : Method} {c : Code} (l : Launch) (hflags : l.flags = flags0) {b L : Nat} {xs : Nat → Int32} (hL : L ≤ 320) (C0 : lw_At p s m meth c b L xs) : W p l e room_1 s m #[Value.ref b] below meth c s.heap [] 0 0 (lw_Z below #[Value.ref b] s) (entryFrame m ([Value.ref b] : List Value).toArray 4) := by
  obtain ⟨hx, hb, hr, hml, hown, hts0, hX, hbl, hlocks, hgv⟩ := id C0
  have hts : ∀ w ∈ wsL_law, w.before #[Value.ref b] s = true := fun w h => hts0 w (wsL_law_in w h)
  obtain ⟨g, hg⟩ := law_ctx hts0 (flat_of_before _ hgv)
  have hA : ∀ q : Nat, s.heap.size ≤ q → (fun q : Nat => s.heap.size ≤ q) q := fun _ h => h
  have hK := KN_of (hg (fun _ => 0)).1
  have hS : va_S (fun q : Nat => s.heap.size ≤ q) s.heap s.heap [] := va_S.rf
  have hP : va_P g.1 vwCl [] s.heap := fun k q h => by simp at h
  have hD : va_D (fun q : Nat => s.heap.size ≤ q) [] := ⟨fun i j p q h => by simp at h, fun k q h => by simp at h⟩
  have hl := lv_entry ([.ref b]) (n := 4) (Nat.le_of_ble_eq_true rfl)
  rw [lg_entry_eq]
  generalize (lg_sl ([.ref b]) ++ List.replicate (4 - (lg_sl ([.ref b])).length) Slot.unset).toArray = ls at hl ⊢
  have hl : lv_has ls 4 [(0, .ref b)] := hl
  refine va_new (ci := 7) (fs := [.null, .null, .null, .int 0, .null, .null, .null, .null, .null, .null, .long 0, .long 0, .int 0, .int 0, .int 0]) (C := RX11) (T := TX11) (N := 15) hx hb hts inlX11 tyX11 tyX11_ok hown (hts _ (mem_at 0 (by decide +kernel))) (hts _ (mem_at 1 (by decide +kernel))) (hts _ (mem_at 2 (by decide +kernel))) hK.1 hP hD hS hA rfl (fun j hj => by exact (match j, hj with | 0, _ => rfl | 1, _ => rfl | 2, _ => rfl | 3, _ => rfl | 4, _ => rfl | 5, _ => rfl | 6, _ => rfl | 7, _ => rfl | 8, _ => rfl | 9, _ => rfl | 10, _ => rfl | 11, _ => rfl | 12, _ => rfl | 13, _ => rfl | 14, _ => rfl | j + 15, h => absurd h (by omega))) (Nat.le_of_ble_eq_true rfl) (Nat.le_of_ble_eq_true rfl) dL_law_0 (fun x0 H hP hD hS => ?_)
  refine lv_dup hx hb dL_law_3 rfl ?_
  refine vc_back (g := (fun _ => 0, g)) (X := []) (va_runI (As := []) (rest := [.ref x0]) ⟨hx, hb, hml, hown, hts⟩ (c_X11_init (g := (fun _ => 0, g)) x0 l H.size) (cwI 0 hts gL_law_X11_init rfl rfl rfl (hts _ (mem_at 2 (by decide +kernel))) (hts _ (mem_at 6 (by decide +kernel))) (hts _ (mem_at 7 (by decide +kernel))) rfl ⟨by decide +kernel, by decide +kernel, by decide +kernel⟩ ⟨Nat.le_of_ble_eq_true rfl, Nat.le_of_ble_eq_true rfl⟩) ⟨PC.blind, vc_pre (X := []) hK hP⟩ rfl rfl hl.1 rfl (lv_room (Nat.le_of_ble_eq_true rfl)) dL_law_4 ⟨Nat.le_of_ble_eq_true rfl, Nat.le_of_ble_eq_true rfl⟩) hP hD hS hA (fun H locs w1 hw1 hP hD hS => ?_)
  refine lv_astore_n (lv' := [(1, .ref x0), (0, .ref b)]) hx hb dL_law_7 rfl hl (by decide) rfl (fun ls hl => ?_)
  refine va_new (ci := 8) (fs := [.null, .null, .null, .int 0, .long 0, .long 0, .null, .int 0, .int 0, .int 0, .int 0, .int 0, .int 0, .int 0, .null, .null, .null, .null, .null, .long 0]) (C := RX12) (T := TX12) (N := 20) hx hb hts inlX12 tyX12 tyX12_ok hown (hts _ (mem_at 3 (by decide +kernel))) (hts _ (mem_at 4 (by decide +kernel))) (hts _ (mem_at 5 (by decide +kernel))) hK.1 hP hD hS hA rfl (fun j hj => by exact (match j, hj with | 0, _ => rfl | 1, _ => rfl | 2, _ => rfl | 3, _ => rfl | 4, _ => rfl | 5, _ => rfl | 6, _ => rfl | 7, _ => rfl | 8, _ => rfl | 9, _ => rfl | 10, _ => rfl | 11, _ => rfl | 12, _ => rfl | 13, _ => rfl | 14, _ => rfl | 15, _ => rfl | 16, _ => rfl | 17, _ => rfl | 18, _ => rfl | 19, _ => rfl | j + 20, h => absurd h (by omega))) (Nat.le_of_ble_eq_true rfl) (Nat.le_of_ble_eq_true rfl) dL_law_8 (fun x1 H hP hD hS => ?_)
  refine lv_dup hx hb dL_law_11 rfl ?_
  refine vc_back (g := (fun _ => 0, g)) (X := [] ++ w1) (va_runI (As := []) (rest := [.ref x1]) ⟨hx, hb, hml, hown, hts⟩ (c_X12_init (g := (fun _ => 0, g)) x1 l H.size) (cwI 0 hts gL_law_X12_init rfl rfl rfl (hts _ (mem_at 5 (by decide +kernel))) (hts _ (mem_at 105 (by decide +kernel))) (hts _ (mem_at 106 (by decide +kernel))) rfl ⟨by decide +kernel, by decide +kernel, by decide +kernel⟩ ⟨Nat.le_of_ble_eq_true rfl, Nat.le_of_ble_eq_true rfl⟩) ⟨PC.blind, vc_pre (X := [] ++ w1) hK hP⟩ rfl rfl hl.1 rfl (lv_room (Nat.le_of_ble_eq_true rfl)) dL_law_12 ⟨Nat.le_of_ble_eq_true rfl, Nat.le_of_ble_eq_true rfl⟩) hP hD hS hA (fun H locs w2 hw2 hP hD hS => ?_)
  refine lv_astore_n (lv' := [(2, .ref x1), (1, .ref x0), (0, .ref b)]) hx hb dL_law_15 rfl hl (by decide) rfl (fun ls hl => ?_)
  refine lv_iconst (v := 0) hx hb dL_law_16 (by decide) ?_
  refine lv_istore_n (lv' := [(3, .int 0), (2, .ref x1), (1, .ref x0), (0, .ref b)]) hx hb dL_law_17 rfl hl (by decide) rfl (fun ls hl => ?_)
  obtain ⟨ad, e0, e1, ew⟩ := flat0 hw1 hw2
  rw [List.nil_append] at hP hD
  obtain ⟨hj, hAw⟩ := P_of (D := g.1) (cl := vwCl) ew hD
  rw [ew] at hP
  refine W.widen (k := 600000) (n := 7302250) (Nat.le_of_ble_eq_true rfl) (Nat.le_of_ble_eq_true rfl) ?_
  refine law_loop (g := (ad, g)) ⟨C0, (hg ad).1, (hg ad).2 hAw, hj, hAw⟩ FU sg0 0 (law_pure xs L hL) H locs ls hP hS ?_
  have h9 := lv_sub hl [3, 2, 1, 0] rfl
  rw [← e0, ← e1] at h9
  exact h9
