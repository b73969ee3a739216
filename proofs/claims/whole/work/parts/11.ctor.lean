/-! ===== constructors: the judgement VC over a world that grows ===== -/
def KN (g : Cx) (U : State) : Prop := va_K g.2.1 vwCl [(g.2.2.1, .int), (g.2.2.2.1, .boolean)] U ∧ ∀ w ∈ nestW, va_Nw w U
theorem KN.warm {g : Cx} {s U : State} (hW : s.WarmedH U.vm) (h : KN g s) : KN g U := ⟨va_K.moved hW.alike h.1, nest_warm hW h.2⟩
theorem KN.same {g : Cx} {u U : State} (hv : u.vm = U.vm) (h : KN g u) : KN g U := ⟨va_K.moved (hv ▸ Vm.Alike.refl u.vm) h.1, nest_same hv h.2⟩
def PC (g : Cx) (c0 : Nat × va_E) (sz : Nat) (U : State) : Prop := U.heap.size = sz ∧ KN g U ∧ va_P g.2.1 vwCl [c0] U.heap ∧ va_D (fun _ => True) [c0]
def QC (g : Cx) (c0 : Nat × va_E) (sz : Nat) (Sh : va_W → Prop) : Array Value → State → Outcome → State → Prop := fun _ st oc t => oc = .returned none ∧ (∃ ws : va_W, Sh ws ∧ va_P g.2.1 vwCl ws t.heap ∧ va_D (va_A [c0] sz) ws) ∧ va_F (va_A [c0] sz) st t
def MetC (l : Launch) (y : MethodName) (ws : List Cond) (rm : Room) (g : Cx) (av : List Value) (c0 : Nat × va_E) (sz : Nat) (Sh : va_W → Prop) (mc ms : Nat) : Prop := Met l y ws rm (va_Pc av (PC g c0 sz)) (QC g c0 sz Sh) mc ms (va_A [c0] sz)
theorem PC.blind {g : Cx} {c0 : Nat × va_E} {sz : Nat} {av : List Value} : FrameBlind (va_Pc av (PC g c0 sz)) := fun a U gg mk q => ⟨q.1, q.2.1, KN.same (u := U) rfl q.2.2.1, q.2.2.2.1, q.2.2.2.2⟩
def CC (g : Cx) (cc : ByteArray) (own : String) (Ts : List Cond) (nL : Nat) (p : Program) (s : State) (m : MethodId) (args : Array Value) (meth : Method) (c : Code) : Prop :=
  p.tables.exec = Jvm.exec ∧ c.code = cc ∧ c.maxLocals = nL ∧ meth.sig.returnType = none ∧ meth.locks = false ∧ s.vm.findClass own = some m.cls ∧ (∀ w ∈ Ts, w.before args s = true) ∧ KN g s ∧ meth.name = "<init>"
def VC (g : Cx) (cc : ByteArray) (own : String) (Ts : List Cond) (nL : Nat) (R : Room) (c0 : Nat × va_E) (Sh : va_W → Prop) (mc ms cells slots : Nat) (ws : va_W) (pc : Nat) (lv : List (Nat × Value)) (st : List Value) : Prop :=
  ∀ (p : Program) (l : Launch) (e : Env) (s : State) (m : MethodId) (args : Array Value) (below : List Frame) (meth : Method) (c : Code), CC g cc own Ts nL p s m args meth c → ∀ (H : Heap) (locs : List Loc) (ls : Array Slot), va_P g.2.1 vwCl ws H → va_D (va_A [c0] s.heap.size) ws → va_S (va_A [c0] s.heap.size) s.heap H locs → lv_has ls nL lv → W p l e R s m args below meth c H locs cells slots (MQ below (QC g c0 s.heap.size Sh) args s mc ms (va_A [c0] s.heap.size)) (F0 m pc ls st)
/-- behind a constructor's call: the rest, and what it made -/
theorem va_joinL {A0 : Nat → Prop} {D : va_G} {cl : List vw_C} {X w1 : va_W} {c : Nat × va_E} {H H1 : Heap} (hP : va_P D cl (X ++ [c]) H) (hD : va_D A0 (X ++ [c])) (hk : ∀ q : Nat, q < H.size → ¬ va_A [c] H.size q → H1[q]? = H[q]?) (hF : ∀ q, va_A [c] H.size q → A0 q) (hP1 : va_P D cl w1 H1) (hD1 : va_D (va_A [c] H.size) w1) : va_P D cl (X ++ w1) H1 ∧ va_D A0 (X ++ w1) := by
  have hR : (List.range X.length).map (fun i => (X ++ [c])[i]?) = X.map some := by
    apply List.ext_getElem?
    intro i
    by_cases hi : i < X.length
    · rw [List.getElem?_map, List.getElem?_range hi, List.getElem?_map]
      show some ((X ++ [c])[i]?) = _
      rw [List.getElem?_append_left hi, List.getElem?_eq_getElem hi]
      rfl
    · rw [List.getElem?_eq_none (by simp; omega), List.getElem?_eq_none (by simp; omega)]
  have hnd : ∀ n : Nat, ∀ l : List Nat, va_nd l = true → (∀ x ∈ l, n ≤ x) → True := fun _ _ _ _ => trivial
  refine va_join (wc := [c]) (wr := X) hP hD [X.length] (List.range X.length) (by simp) hR ?_ ?_ hk hF hP1 hD1
  · have key : ∀ (l : List Nat), l.Nodup → va_nd l = true := by
      intro l
      induction l with
      | nil => intro _; rfl
      | cons a l ih =>
        intro h
        rw [List.nodup_cons] at h
        simp [va_nd, h.1, ih h.2]
    exact key _ List.nodup_range
  · intro i hi hc
    rw [List.mem_range] at hi
    rw [List.mem_singleton] at hc
    omega
section VCROWS
variable {g : Cx} {cc : ByteArray} {own : String} {Ts : List Cond} {nL : Nat} {R : Room} {c0 : Nat × va_E} {Sh : va_W → Prop} {mc ms cells slots : Nat} {ws : va_W} {pc : Nat} {lv : List (Nat × Value)} {rest : List Value}
theorem vc_iconst (n : Nat) {i : Int} (v : Int32) (d : decode cc pc = .ok (.iconst i, 1)) (hv : Int32.ofInt i = v) (hn : pc + 1 = n) (kk : VC g cc own Ts nL R c0 Sh mc ms cells slots ws n lv (.int v :: rest)) : VC g cc own Ts nL R c0 Sh mc ms cells slots ws pc lv (rest) := by
  subst hn
  exact fun p l e s m args below meth c C H locs ls hP hD hS hl => lv_iconst C.1 C.2.1 d hv (kk p l e s m args below meth c C H locs ls hP hD hS hl)
theorem vc_bipush (n : Nat) {i : Int} (v : Int32) (d : decode cc pc = .ok (.bipush i, 2)) (hv : (Int8.ofInt i).toInt32 = v) (hn : pc + 2 = n) (kk : VC g cc own Ts nL R c0 Sh mc ms cells slots ws n lv (.int v :: rest)) : VC g cc own Ts nL R c0 Sh mc ms cells slots ws pc lv (rest) := by
  subst hn
  exact fun p l e s m args below meth c C H locs ls hP hD hS hl => lv_bipush C.1 C.2.1 d hv (kk p l e s m args below meth c C H locs ls hP hD hS hl)
theorem vc_sipush (n : Nat) {i : Int} (v : Int32) (d : decode cc pc = .ok (.sipush i, 3)) (hv : (Int16.ofInt i).toInt32 = v) (hn : pc + 3 = n) (kk : VC g cc own Ts nL R c0 Sh mc ms cells slots ws n lv (.int v :: rest)) : VC g cc own Ts nL R c0 Sh mc ms cells slots ws pc lv (rest) := by
  subst hn
  exact fun p l e s m args below meth c C H locs ls hP hD hS hl => lv_sipush C.1 C.2.1 d hv (kk p l e s m args below meth c C H locs ls hP hD hS hl)
theorem vc_lconst (n : Nat) {i : Fin 2} (v : Int64) (d : decode cc pc = .ok (.lconst i, 1)) (hv : Int64.ofNat (i : Nat) = v) (hn : pc + 1 = n) (kk : VC g cc own Ts nL R c0 Sh mc ms cells slots ws n lv (.long v :: rest)) : VC g cc own Ts nL R c0 Sh mc ms cells slots ws pc lv (rest) := by
  subst hn
  exact fun p l e s m args below meth c C H locs ls hP hD hS hl => lv_lconst C.1 C.2.1 d hv (kk p l e s m args below meth c C H locs ls hP hD hS hl)
theorem vc_aload_n (n : Nat) (j : Nat) {k : Fin 4} {i : Nat} {x : Nat} (d : decode cc pc = .ok (.aload_n k, 1)) (hi : (k : Nat) = i) (hk : lv[j]? = some (i, .ref x)) (hn : pc + 1 = n) (kk : VC g cc own Ts nL R c0 Sh mc ms cells slots ws n lv (.ref x :: rest)) : VC g cc own Ts nL R c0 Sh mc ms cells slots ws pc lv (rest) := by
  subst hn
  exact fun p l e s m args below meth c C H locs ls hP hD hS hl => lv_aload_n C.1 C.2.1 d hi (lv_at hl j hk) (kk p l e s m args below meth c C H locs ls hP hD hS hl)
theorem vc_iload_n (n : Nat) (j : Nat) {k : Fin 4} {i : Nat} {x : Int32} (d : decode cc pc = .ok (.iload_n k, 1)) (hi : (k : Nat) = i) (hk : lv[j]? = some (i, .int x)) (hn : pc + 1 = n) (kk : VC g cc own Ts nL R c0 Sh mc ms cells slots ws n lv (.int x :: rest)) : VC g cc own Ts nL R c0 Sh mc ms cells slots ws pc lv (rest) := by
  subst hn
  exact fun p l e s m args below meth c C H locs ls hP hD hS hl => lv_iload_n C.1 C.2.1 d hi (lv_at hl j hk) (kk p l e s m args below meth c C H locs ls hP hD hS hl)
theorem vc_dup (n : Nat) {va : Value} (d : decode cc pc = .ok (.dup, 1)) (hva : va.category = 1) (hn : pc + 1 = n) (kk : VC g cc own Ts nL R c0 Sh mc ms cells slots ws n lv (va :: va :: rest)) : VC g cc own Ts nL R c0 Sh mc ms cells slots ws pc lv (va :: rest) := by
  subst hn
  exact fun p l e s m args below meth c C H locs ls hP hD hS hl => lv_dup C.1 C.2.1 d hva (kk p l e s m args below meth c C H locs ls hP hD hS hl)
theorem vc_getT (n : Nat) {q idx : Nat} {ci j : Nat} {C0 : String} {T : u_T} {N : Nat} {nm ds : String} {fs : List Value} {v : Value} {ref : String} (hws : ws[0]? = some (q, .inr (ci, fs))) (hc : vwCl[ci]? = some (C0, T, N)) (hin : ∀ w ∈ u_ws C0 T N, w ∈ Ts) (hj : j < N) (hT : (T j).1 = ref ∧ (T j).2.1 = nm ∧ (T j).2.2.1 = ds) (hm : Cond.fieldLink own idx ref nm ds ∈ Ts) (hv : fs[j]? = some v) (d : decode cc pc = .ok (.getfield idx, 3)) (hn : pc + 3 = n) (kk : VC g cc own Ts nL R c0 Sh mc ms cells slots ws n lv (v :: rest)) : VC g cc own Ts nL R c0 Sh mc ms cells slots ws pc lv (.ref q :: rest) := by
  subst hn
  obtain ⟨t1, t2, t3⟩ := hT
  exact fun p l e s m args below meth c C H locs ls hP hD hS hl => va_get (C := C0) (T := T) (N := N) (ref := ref) C.1 C.2.1 C.2.2.2.2.2.2.1 hin C.2.2.2.2.2.1 C.2.2.2.2.2.2.2.1.1 hP 0 hws hc j hj (by rw [t2, t3]; exact C.2.2.2.2.2.2.1 _ hm) (fun _ h9 => by rw [t1] at h9; exact h9) hv d (kk p l e s m args below meth c C H locs ls hP hD hS hl)
theorem vc_obj (n : Nat) {idx q : Nat} (h1 : Cond.methodLink own idx objectInit ∈ Ts) (h2 : Cond.instanceMethod objectInit ∈ Ts) (h3 : Cond.code objectInit ⟨#[0xb1]⟩ 1 none ∈ Ts) (hR : 1 ≤ R.frames ∧ 20 ≤ R.locals) (hro : (rest.map fun v => v.category).sum ≤ 8) (d : decode cc pc = .ok (.invokespecial idx, 3)) (hn : pc + 3 = n) (kk : VC g cc own Ts nL R c0 Sh mc ms cells slots ws n lv rest) : VC g cc own Ts nL R c0 Sh mc ms cells slots ws pc lv (.ref q :: rest) := by
  subst hn
  exact fun p l e s m args below meth c C H locs ls hP hD hS hl => W.objInit C.1 C.2.1 C.2.2.2.2.2.1 (C.2.2.2.2.2.2.1 _ h1) (C.2.2.2.2.2.2.1 _ h2) (C.2.2.2.2.2.2.1 _ h3) rfl (by rw [C.2.2.1]; exact hl.1) rfl d hR.1 (by have := lv_room (m := m) (pc := pc) (ls := ls) (rest := .ref q :: rest) hro; have h9 := hR.2; omega) (W.eq (g2 := F0 m (pc + 3) ls rest) rfl (kk p l e s m args below meth c C H locs ls hP hD hS hl))
theorem vc_max (n : Nat) {idx : Nat} {x y : Int32} (hw0 : .methodLink own idx Lib.Math.max.name ∈ Ts) (hw1 : .static Lib.Math.max.name ∈ Ts) (hw2 : .initialized "java/lang/Math" ∈ Ts) (hw3 : .code Lib.Math.max.name Lib.Math.max.code 2 (some .int) ∈ Ts) (hR : 1 ≤ R.frames ∧ 21 ≤ R.locals) (hcs : cells ≤ R.cells ∧ slots ≤ R.slots) (hro : (rest.map fun v => v.category).sum ≤ 8) (d : decode cc pc = .ok (.invokestatic idx, 3)) (hn : pc + 3 = n) (kk : VC g cc own Ts nL R c0 Sh mc ms cells slots ws n lv (.int (if x < y then y else x) :: rest)) : VC g cc own Ts nL R c0 Sh mc ms cells slots ws pc lv (.int y :: .int x :: rest) := by
  subst hn
  exact fun p l e s m args below meth c C H locs ls hP hD hS hl => va_mmax C.1 C.2.1 (C.2.2.1.trans hl.1.symm) C.2.2.2.2.2.1 (C.2.2.2.2.2.2.1 _ hw0) (C.2.2.2.2.2.2.1 _ hw1) (C.2.2.2.2.2.2.1 _ hw2) (C.2.2.2.2.2.2.1 _ hw3) hR.1 (by omega) hcs.1 hcs.2 d (kk p l e s m args below meth c C H locs ls hP hD hS hl)
theorem vc_new (n : Nat) {idx ci N : Nat} {C0 : String} {T : u_T} {fs : List Value} (ty : Nat → FieldType) (hty : ∀ k, k < N → parseFieldDescriptor (T k).2.2.1 = some (ty k)) (hc : vwCl[ci]? = some (C0, T, N)) (hin : ∀ w ∈ u_ws C0 T N, w ∈ Ts) (h1 : Cond.classLink own idx C0 ∈ Ts) (h2 : Cond.instantiable C0 N ∈ Ts) (h3 : Cond.initialized C0 ∈ Ts) (hfs : ∀ j, j < N → defaultValue (ty j) = vp_V fs j) (hR : cells + 1 ≤ R.cells ∧ slots + N ≤ R.slots) (d : decode cc pc = .ok (.new idx, 3)) (hn : pc + 3 = n) (kk : ∀ q : Nat, VC g cc own Ts nL R c0 Sh mc ms (cells + 1) (slots + N) (ws ++ [(q, .inr (ci, fs))]) n lv (.ref q :: rest)) : VC g cc own Ts nL R c0 Sh mc ms cells slots ws pc lv rest := by
  subst hn
  exact fun p l e s m args below meth c C H locs ls hP hD hS hl => va_new C.1 C.2.1 C.2.2.2.2.2.2.1 hin ty hty C.2.2.2.2.2.1 (C.2.2.2.2.2.2.1 _ h1) (C.2.2.2.2.2.2.1 _ h2) (C.2.2.2.2.2.2.1 _ h3) C.2.2.2.2.2.2.2.1.1 hP hD hS (fun q h => Or.inr h) hc hfs hR.1 hR.2 d (fun q H1 hP1 hD1 hS1 => kk q p l e s m args below meth c C H1 locs ls hP1 hD1 hS1 hl)
theorem vc_newI (n N : Nat) {x : Int32} (h1 : Cond.arrayClass .int ∈ Ts) (hx : ¬ x < 0) (hN : x.toNatClampNeg = N) (hb : N * 4 ≤ 536870912) (hR : cells + 1 ≤ R.cells ∧ slots + N ≤ R.slots) (d : decode cc pc = .ok (.newarray .int, 2)) (hn : pc + 2 = n) (kk : ∀ q : Nat, VC g cc own Ts nL R c0 Sh mc ms (cells + 1) (slots + N) (ws ++ [(q, .inl (g.2.2.1, N, .inl (fun _ => 0)))]) n lv (.ref q :: rest)) : VC g cc own Ts nL R c0 Sh mc ms cells slots ws pc lv (.int x :: rest) := by
  subst hn
  refine fun p l e s m args below meth c C H locs ls hP hD hS hl => va_newa (atype := .int) (ty := .int) (a0 := (N, .inl (fun _ => 0))) C.1 C.2.1 (C.2.2.2.2.2.2.1 _ h1) rfl C.2.2.2.2.2.2.2.1.1 hP hD hS (fun q h => Or.inr h) (fun cA => rfl) hx hN hb hR.1 hR.2 d (fun q cA H1 hK1 hP1 hD1 hS1 => ?_)
  have e1 : cA = g.2.2.1 := by
    have a1 : s.vm.findClass ("[" ++ FieldType.int.toString) = some cA := (hK1.2 2 (cA, .int) rfl).2
    have a2 : s.vm.findClass ("[" ++ FieldType.int.toString) = some g.2.2.1 := (hK1.2 0 (g.2.2.1, .int) rfl).2
    exact Option.some.inj (a1.symm.trans a2)
  subst e1
  exact kk q p l e s m args below meth c C H1 locs ls hP1 hD1 hS1 hl
theorem vc_newZ (n N : Nat) {x : Int32} (h1 : Cond.arrayClass .boolean ∈ Ts) (hx : ¬ x < 0) (hN : x.toNatClampNeg = N) (hb : N * 1 ≤ 536870912) (hR : cells + 1 ≤ R.cells ∧ slots + N ≤ R.slots) (d : decode cc pc = .ok (.newarray .boolean, 2)) (hn : pc + 2 = n) (kk : ∀ q : Nat, VC g cc own Ts nL R c0 Sh mc ms (cells + 1) (slots + N) (ws ++ [(q, .inl (g.2.2.2.1, N, .inl (fun _ => 0)))]) n lv (.ref q :: rest)) : VC g cc own Ts nL R c0 Sh mc ms cells slots ws pc lv (.int x :: rest) := by
  subst hn
  refine fun p l e s m args below meth c C H locs ls hP hD hS hl => va_newa (atype := .boolean) (ty := .boolean) (a0 := (N, .inl (fun _ => 0))) C.1 C.2.1 (C.2.2.2.2.2.2.1 _ h1) rfl C.2.2.2.2.2.2.2.1.1 hP hD hS (fun q h => Or.inr h) (fun cA => rfl) hx hN hb hR.1 hR.2 d (fun q cA H1 hK1 hP1 hD1 hS1 => ?_)
  have e1 : cA = g.2.2.2.1 := by
    have a1 : s.vm.findClass ("[" ++ FieldType.boolean.toString) = some cA := (hK1.2 2 (cA, .boolean) rfl).2
    have a2 : s.vm.findClass ("[" ++ FieldType.boolean.toString) = some g.2.2.2.1 := (hK1.2 1 (g.2.2.2.1, .boolean) rfl).2
    exact Option.some.inj (a1.symm.trans a2)
  subst e1
  exact kk q p l e s m args below meth c C H1 locs ls hP1 hD1 hS1 hl
theorem vc_put (n : Nat) {q idx : Nat} {ci j : Nat} {C0 : String} {T : u_T} {N : Nat} {nm ds : String} {fs : List Value} {v : Value} {ref : String} {ws1 : va_W} {tv : FieldType} (fin : Bool) (ty : Nat → FieldType) (hty : ∀ k, k < N → parseFieldDescriptor (T k).2.2.1 = some (ty k)) (hnm : ∀ a, a < N → ∀ b, b < N → a ≠ b → (T a).2.1 ≠ (T b).2.1) (hws : ws[0]? = some (q, .inr (ci, fs))) (hc : vwCl[ci]? = some (C0, T, N)) (hin : ∀ w ∈ u_ws C0 T N, w ∈ Ts) (hj : j < N) (hT : T j = (ref, nm, ds, fin)) (hd : parseFieldDescriptor ds = some tv) (ho : ref = own) (hm : Cond.fieldLink own idx ref nm ds ∈ Ts) (hn1 : narrow tv v = v) (hfit : fits tv v = true) (hl0 : j < fs.length) (d : decode cc pc = .ok (.putfield idx, 3)) (hn : pc + 3 = n) (hw1 : ws.set 0 (q, .inr (ci, fs.set j v)) = ws1) (kk : VC g cc own Ts nL R c0 Sh mc ms cells slots ws1 n lv rest) : VC g cc own Ts nL R c0 Sh mc ms cells slots ws pc lv (v :: .ref q :: rest) := by
  subst hn
  subst hw1
  have t1 : (T j).1 = ref := by rw [hT]
  have t2 : (T j).2.1 = nm := by rw [hT]
  have t3 : (T j).2.2.1 = ds := by rw [hT]
  have t4 : (T j).2.2.2 = fin := by rw [hT]
  cases fin with
  | false => exact fun p l e s m args below meth c C H locs ls hP hD hS hl => va_put (C := C0) (T := T) (N := N) (ref := ref) (ty := tv) C.1 C.2.1 C.2.2.2.2.2.2.1 hin ty hty hnm C.2.2.2.2.2.1 C.2.2.2.2.2.2.2.1.1 hP hD hS 0 hws hc j hj (by rw [t2, t3]; exact C.2.2.2.2.2.2.1 _ hm) (fun _ h9 => by rw [t1] at h9; exact h9) t4 (by rw [t3]; exact hd) hn1 hfit hl0 d (fun H1 locs1 hP1 hD1 hS1 => kk p l e s m args below meth c C H1 locs1 ls hP1 hD1 hS1 hl)
  | true => exact fun p l e s m args below meth c C H locs ls hP hD hS hl => va_putF (C := C0) (T := T) (N := N) (ref := ref) (ty := tv) C.1 C.2.1 C.2.2.2.2.2.2.1 hin ty hty hnm C.2.2.2.2.2.1 C.2.2.2.2.2.2.2.1.1 hP hD hS 0 hws hc j hj (by rw [t2, t3]; exact C.2.2.2.2.2.2.1 _ hm) (fun _ h9 => by rw [t1] at h9; exact h9) t4 C.2.2.2.2.2.2.2.2 (t1.trans ho) (by rw [t3]; exact hd) hn1 hfit hl0 d (fun H1 locs1 hP1 hD1 hS1 => kk p l e s m args below meth c C H1 locs1 ls hP1 hD1 hS1 hl)
theorem vc_back {p : Program} {l : Launch} {e : Env} {s : State} {m : MethodId} {args : Array Value} {below : List Frame} {meth : Method} {c : Code} {H : Heap} {locs : List Loc} {Q : State → Prop} {ls : Array Slot} {st0 : List Value} {a : Array Value} {X : va_W} {q : Nat} {e0 : va_E} {Sh1 : va_W → Prop} {k1 k2 : Nat} {A0 : Nat → Prop} (hr : va_Run p l e R s m args below meth c H locs cells slots k1 k2 (F0 m pc ls st0) rest (QC g (q, e0) H.size Sh1 a) (va_A [(q, e0)] H.size)) (hP : va_P g.2.1 vwCl (X ++ [(q, e0)]) H) (hD : va_D A0 (X ++ [(q, e0)])) (hS : va_S A0 s.heap H locs) (hA : ∀ x, s.heap.size ≤ x → A0 x) (kk : ∀ (H1 : Heap) (locs1 : List Loc) (w1 : va_W), Sh1 w1 → va_P g.2.1 vwCl (X ++ w1) H1 → va_D A0 (X ++ w1) → va_S A0 s.heap H1 locs1 → W p l e R s m args below meth c H1 locs1 (cells + k1) (slots + k2) Q (F0 m (pc + 3) ls rest)) : W p l e R s m args below meth c H locs cells slots Q (F0 m pc ls st0) := by
  have hF : ∀ x, va_A [(q, e0)] H.size x → A0 x := by
    intro x h
    rcases h with ⟨k, e9, h⟩ | h
    · have hk0 : k = 0 := by
        have := (List.getElem?_eq_some_iff.mp h).1
        simp at this
        exact this
      subst hk0
      cases h
      have h2 := hD.2 X.length (q, e0) (by simp)
      exact h2
    · exact hA x (Nat.le_trans hS.1 h)
  intro T hT X0
  obtain ⟨v, st₀, t, T', L, h0, X', hL, e1, e2, ⟨hv, ⟨w1, hSh, hP1, hD1⟩, hz, hk⟩, st⟩ := hr T hT X0
  cases hv
  rw [h0] at hz hk
  obtain ⟨hP2, hD2⟩ := va_joinL hP hD (H1 := T'.heap) (fun x h1 h2 => by rw [e1]; exact hk x h1 h2) hF (by rw [e1]; exact hP1) hD1
  obtain ⟨t2, a1, b1⟩ := kk T'.heap (locs ++ L) w1 hSh hP2 hD2 ⟨Nat.le_trans hS.1 (by rw [e1]; exact hz), fun x h1 h2 => by rw [e1, hk x (Nat.lt_of_lt_of_le h1 hS.1) (fun z => h2 (hF x z))]; exact hS.2.1 x h1 h2, fun x hx => by
      rcases List.mem_append.mp hx with h | h
      · exact hS.2.2 x h
      · exact hF _ (hL x h)⟩ T' rfl X'
  exact ⟨t2, st t2 a1, b1⟩
theorem vc_pre {s : State} {H : Heap} {X : va_W} {q : Nat} {e0 : va_E} {As : List Value} (hK : KN g s) (hP : va_P g.2.1 vwCl (X ++ [(q, e0)]) H) : ∀ U : State, U.heap = H → s.WarmedH U.vm → (va_Pc As (PC g (q, e0) H.size)) As.toArray U := by
  intro U hU hW
  refine ⟨rfl, by rw [hU], KN.warm hW hK, ?_, ⟨fun i j x y hx hy _ => ?_, fun _ _ _ => trivial⟩⟩
  · rw [hU]
    intro k x hx
    have hk0 : k = 0 := by
      have := (List.getElem?_eq_some_iff.mp hx).1
      simp at this
      exact this
    subst hk0
    exact hP X.length x (by rw [List.getElem?_append_right (Nat.le_refl _), Nat.sub_self]; exact hx)
  · have h1 := (List.getElem?_eq_some_iff.mp hx).1
    have h2 := (List.getElem?_eq_some_iff.mp hy).1
    simp at h1 h2
    omega
theorem vc_cI (n : Nat) {idx na maxL q k1 k2 : Nat} {y : MethodName} {ws0 : List Cond} {bytes : ByteArray} {rm : Room} {e0 : va_E} {Sh1 : va_W → Prop} (X : va_W) (As : List Value) {st : List Value} (hM : ∀ l sz, MetC l y ws0 rm g (.ref q :: As) (q, e0) sz Sh1 k1 k2) (hcw : ∃ ws' : List Cond, ws0 = Cond.code y bytes maxL none :: ws') (hrm : rm.cells = k1 ∧ rm.slots = k2) (hd : y.cls ≠ "java/lang/invoke/MethodHandle" ∧ y.cls ≠ "java/lang/invoke/VarHandle" ∧ (parseMethodDescriptor y.desc).map (fun d => d.parameters.length) = some na) (hT : GoodIn Ts ws0) (h1 : Cond.initialized y.cls ∈ Ts) (h2 : Cond.methodLink own idx y ∈ Ts) (h3 : Cond.instanceMethod y ∈ Ts) (hy : y.name = "<init>") (hR : rm.frames + 1 ≤ R.frames ∧ 8 + (maxL + 11) + rm.locals ≤ R.locals) (hcs : cells + k1 ≤ R.cells ∧ slots + k2 ≤ R.slots) (hna : As.length = na) (hst : st = As.reverse ++ .ref q :: rest) (hro : (rest.map fun v => v.category).sum ≤ 8) (hws : ws = X ++ [(q, e0)]) (d : decode cc pc = .ok (.invokespecial idx, 3)) (hn : pc + 3 = n) (kk : ∀ w1 : va_W, Sh1 w1 → VC g cc own Ts nL R c0 Sh mc ms (cells + k1) (slots + k2) (X ++ w1) n lv rest) : VC g cc own Ts nL R c0 Sh mc ms cells slots ws pc lv st := by
  subst hn
  subst hst
  subst hws
  obtain ⟨ws', hw⟩ := hcw
  exact fun p l e s m args below meth c C H locs ls hP hD hS hl => vc_back (va_runI (As := As) (rest := rest) ⟨C.1, C.2.1, C.2.2.1, C.2.2.2.2.2.1, C.2.2.2.2.2.2.1⟩ (hM l H.size) (cwI na C.2.2.2.2.2.2.1 hT hw hrm.1 hrm.2 (C.2.2.2.2.2.2.1 _ h1) (C.2.2.2.2.2.2.1 _ h2) (C.2.2.2.2.2.2.1 _ h3) hy hd hR) ⟨PC.blind, vc_pre C.2.2.2.2.2.2.2.1 hP⟩ rfl hna hl.1 rfl (lv_room hro) d hcs) hP hD hS (fun q h => Or.inr h) (fun H1 locs1 w1 hSh hP1 hD1 hS1 => kk w1 hSh p l e s m args below meth c C H1 locs1 ls hP1 hD1 hS1 hl)
theorem vc_cN (n : Nat) {idx na maxL q k1 k2 : Nat} {y : MethodName} {ws0 : List Cond} {bytes : ByteArray} {rm : Room} {e0 : va_E} {Sh1 : va_W → Prop} {host : String} (X : va_W) (As : List Value) {st : List Value} (hM : ∀ l sz, MetC l y ws0 rm g (.ref q :: As) (q, e0) sz Sh1 k1 k2) (hcw : ∃ ws' : List Cond, ws0 = Cond.code y bytes maxL none :: ws') (hrm : rm.cells = k1 ∧ rm.slots = k2) (hd : y.cls ≠ "java/lang/invoke/MethodHandle" ∧ y.cls ≠ "java/lang/invoke/VarHandle" ∧ (parseMethodDescriptor y.desc).map (fun d => d.parameters.length) = some na) (hT : GoodIn Ts ws0) (h1 : Cond.initialized y.cls ∈ Ts) (h2 : Cond.methodLinkNest own idx y host ∈ nestW) (h3 : Cond.instanceMethod y ∈ Ts) (hy : y.name = "<init>") (hR : rm.frames + 1 ≤ R.frames ∧ 8 + (maxL + 11) + rm.locals ≤ R.locals) (hcs : cells + k1 ≤ R.cells ∧ slots + k2 ≤ R.slots) (hna : As.length = na) (hst : st = As.reverse ++ .ref q :: rest) (hro : (rest.map fun v => v.category).sum ≤ 8) (hws : ws = X ++ [(q, e0)]) (d : decode cc pc = .ok (.invokespecial idx, 3)) (hn : pc + 3 = n) (kk : ∀ w1 : va_W, Sh1 w1 → VC g cc own Ts nL R c0 Sh mc ms (cells + k1) (slots + k2) (X ++ w1) n lv rest) : VC g cc own Ts nL R c0 Sh mc ms cells slots ws pc lv st := by
  subst hn
  subst hst
  subst hws
  obtain ⟨ws', hw⟩ := hcw
  exact fun p l e s m args below meth c C H locs ls hP hD hS hl => vc_back (va_runIN (As := As) (rest := rest) ⟨C.1, C.2.1, C.2.2.1, C.2.2.2.2.2.1, C.2.2.2.2.2.2.1⟩ (hM l H.size) ⟨va_cnB na C.2.2.2.2.2.2.1 hT hw hrm.1 hrm.2 (C.2.2.2.2.2.2.2.1.2 _ h2) (C.2.2.2.2.2.2.1 _ h1) hd hR, hy, C.2.2.2.2.2.2.1 _ h3⟩ ⟨PC.blind, vc_pre C.2.2.2.2.2.2.2.1 hP⟩ rfl hna hl.1 rfl (lv_room hro) d hcs) hP hD hS (fun q h => Or.inr h) (fun H1 locs1 w1 hSh hP1 hD1 hS1 => kk w1 hSh p l e s m args below meth c C H1 locs1 ls hP1 hD1 hS1 hl)
theorem vc_ret (hm : cells ≤ mc) (hs : slots ≤ ms) (hSh : Sh ws) (d : decode cc pc = .ok (.return_, 1)) : VC g cc own Ts nL R c0 Sh mc ms cells slots ws pc lv [] := fun p l e s m args below meth c C H locs ls hP hD hS hl => W.widen hm hs (W.vret C.1 C.2.1 C.2.2.2.1 (fun t ht hW => ⟨rfl, ⟨ws, hSh, by rw [ht]; exact hP, hD⟩, hS.F ht⟩) hS.2.2 d C.2.2.2.2.1)
theorem MetC.of {y : MethodName} {ws0 : List Cond} {rm : Room} {bytes : ByteArray} {maxL : Nat} {av : List Value} {lv0 : List (Nat × Value)} {own0 : String} (ho : y.cls = own0) (hcw : ∃ ws' : List Cond, ws0 = Cond.code y bytes maxL none :: ws') (hyn : y.name = "<init>") (hy : plainName y.cls = true) (hlen : (lg_sl av).length ≤ maxL) (hlv : lv_args 0 av = lv0) (kk : VC g bytes own0 ws0 maxL rm c0 Sh mc ms 0 0 [c0] 0 lv0 []) : ∀ l sz, MetC l y ws0 rm g av c0 sz Sh mc ms := by
  intro l sz
  subst ho
  obtain ⟨ws', hw⟩ := hcw
  subst hlv
  refine Met.ofW (cc := bytes) (maxL := maxL) (ret := none) hy hw ?_
  intro p e s m args below meth c s₁ B hml hv
  obtain ⟨rfl, hsz, hK, hP, hD⟩ := hv
  have hl := lv_entry av (n := maxL) hlen
  rw [lg_entry_eq]
  subst hsz
  exact kk p l e s m _ below meth c ⟨B.exec, B.bytes, hml, B.returns, B.notSynchronized, findClass_of_methodNamed B.named, atoms_spec (ws := ws0) B.pre, hK, (name_of_methodNamed B.named B.method).1.trans hyn⟩ s.heap [] _ hP hD.self va_S.rf hl
end VCROWS
theorem in_X7_init_4 : ∀ w ∈ wsX70, w ∈ wsX7_init := fun w h => List.mem_cons_of_mem _ (List.mem_append_right _ h)
def Sh_Row (g : Cx) (n : Nat) (h0 : Nat) (ws : va_W) : Prop := ∃ q0 : Nat, ws = ((h0, .inr (4, [.ref q0, .int 0])) :: [] ++ [(q0, .inl (g.2.2.1, n, .inl (fun _ => 0)))])
set_option maxRecDepth 100000 in
set_option maxHeartbeats 4000000 in
theorem c_X7_init {g : Cx} (N : Nat) (x1 : Int32) (hx : ¬ x1 < 0) (hN : x1.toNatClampNeg = N) (hb : N * 4 ≤ 536870912) (h0 : Nat) : ∀ l sz, MetC l yX7_init wsX7_init { frames := 1, cells := 1, slots := N, locals := 21 } g [.ref h0, .int x1] (h0, .inr (4, [.null, .int 0])) sz (Sh_Row g N h0) 1 N := by
  have hmx : (if x1 < 0 then 0 else x1) = x1 := if_neg hx
  refine MetC.of (own0 := RX7) (lv0 := [(0, .ref h0), (1, .int x1)]) rfl ⟨_, rfl⟩ rfl (by decide) (Nat.le_of_ble_eq_true rfl) rfl ?_
  refine vc_aload_n 1 0 dX7_init_0 rfl rfl rfl ?_
  refine vc_obj 4 (mem_at 1 rfl) (mem_at 2 rfl) (mem_at 3 rfl) ⟨Nat.le_of_ble_eq_true rfl, Nat.le_of_ble_eq_true rfl⟩ (Nat.le_of_ble_eq_true rfl) dX7_init_1 rfl ?_
  refine vc_aload_n 5 0 dX7_init_4 rfl rfl rfl ?_
  refine vc_iload_n 6 1 dX7_init_5 rfl rfl rfl ?_
  refine vc_iconst 7 0 dX7_init_6 (by decide) rfl ?_
  refine vc_max 10 (mem_at 4 rfl) (mem_at 5 rfl) (mem_at 6 rfl) (mem_at 7 rfl) ⟨Nat.le_of_ble_eq_true rfl, Nat.le_of_ble_eq_true rfl⟩ ⟨Nat.zero_le _, Nat.zero_le _⟩ (Nat.le_of_ble_eq_true rfl) dX7_init_7 rfl ?_
  rw [hmx]
  refine vc_newI 12 N (mem_at 8 rfl) hx hN hb ⟨Nat.le_of_ble_eq_true rfl, by show 0 + N ≤ N; omega⟩ dX7_init_10 rfl (fun q0 => ?_)
  refine vc_put (j := 0) (tv := (.array .int)) (ws1 := ((h0, .inr (4, [.ref q0, .int 0])) :: [] ++ [(q0, .inl (g.2.2.1, N, .inl (fun _ => 0)))])) 15 true tyX7 tyX7_ok nmX7 rfl rfl in_X7_init_4 (by decide) rfl (by decide +kernel) rfl (mem_at 9 rfl) rfl rfl (Nat.le_of_ble_eq_true rfl) dX7_init_12 rfl rfl ?_
  exact vc_ret (Nat.le_of_ble_eq_true rfl) (by show 0 + N ≤ N; omega) ⟨q0, rfl⟩ dX7_init_15

theorem in_X4_init_4 : ∀ w ∈ wsX70, w ∈ wsX4_init := fun w h => List.mem_cons_of_mem _ (List.mem_append_left _ (List.mem_append_right _ h))
theorem in_X4_init_1 : ∀ w ∈ wsX40, w ∈ wsX4_init := fun w h => List.mem_cons_of_mem _ (List.mem_append_right _ h)
def Sh_Moment (g : Cx) (h0 : Nat) (ws : va_W) : Prop := ∃ q0 : Nat, ∃ w1 : va_W, ∃ q1 : Nat, ∃ w2 : va_W, Sh_Row g 7 q0 w1 ∧ Sh_Row g 7 q1 w2 ∧ ws = ((h0, .inr (1, [.int 0, .int 0, .ref q0, .ref q1])) :: [] ++ w1 ++ w2)
set_option maxRecDepth 100000 in
set_option maxHeartbeats 4000000 in
theorem c_X4_init {g : Cx} (h0 : Nat) : ∀ l sz, MetC l yX4_init wsX4_init { frames := 2, cells := 4, slots := 18, locals := 42 } g [.ref h0] (h0, .inr (1, [.int 0, .int 0, .null, .null])) sz (Sh_Moment g h0) 4 18 := by
  refine MetC.of (own0 := RX4) (lv0 := [(0, .ref h0)]) rfl ⟨_, rfl⟩ rfl (by decide) (Nat.le_of_ble_eq_true rfl) rfl ?_
  refine vc_aload_n 1 0 dX4_init_0 rfl rfl rfl ?_
  refine vc_obj 4 (mem_at 1 rfl) (mem_at 2 rfl) (mem_at 3 rfl) ⟨Nat.le_of_ble_eq_true rfl, Nat.le_of_ble_eq_true rfl⟩ (Nat.le_of_ble_eq_true rfl) dX4_init_1 rfl ?_
  refine vc_aload_n 5 0 dX4_init_4 rfl rfl rfl ?_
  refine vc_new 8 (ci := 4) (fs := [.null, .int 0]) tyX7 tyX7_ok rfl in_X4_init_4 (mem_at 4 rfl) (mem_at 5 rfl) (mem_at 6 rfl) (fun j hj => by exact (match j, hj with | 0, _ => rfl | 1, _ => rfl)) ⟨Nat.le_of_ble_eq_true rfl, Nat.le_of_ble_eq_true rfl⟩ dX4_init_5 rfl (fun q0 => ?_)
  refine vc_dup 9 dX4_init_8 rfl rfl ?_
  refine vc_bipush 11 7 dX4_init_9 (by decide) rfl ?_
  refine vc_cI (na := 1) 14 ((h0, .inr (1, [.int 0, .int 0, .null, .null])) :: []) [.int 7] (c_X7_init 7 7 (by decide) (by decide) (by decide) q0) ⟨_, rfl⟩ ⟨rfl, rfl⟩ ⟨by decide +kernel, by decide +kernel, by decide +kernel⟩ gX4_init_X7_init (mem_at 6 rfl) (mem_at 9 rfl) (mem_at 10 rfl) rfl ⟨Nat.le_of_ble_eq_true rfl, Nat.le_of_ble_eq_true rfl⟩ ⟨Nat.le_of_ble_eq_true rfl, Nat.le_of_ble_eq_true rfl⟩ rfl rfl (Nat.le_of_ble_eq_true rfl) rfl dX4_init_11 rfl (fun w1 hw1 => ?_)
  refine vc_put (j := 2) (tv := (.object "WidowWeight$Row")) (ws1 := ((h0, .inr (1, [.int 0, .int 0, .ref q0, .null])) :: [] ++ w1)) 17 true tyX4 tyX4_ok nmX4 rfl rfl in_X4_init_1 (by decide) rfl (by decide +kernel) rfl (mem_at 7 rfl) rfl rfl (Nat.le_of_ble_eq_true rfl) dX4_init_14 rfl rfl ?_
  refine vc_aload_n 18 0 dX4_init_17 rfl rfl rfl ?_
  refine vc_new 21 (ci := 4) (fs := [.null, .int 0]) tyX7 tyX7_ok rfl in_X4_init_4 (mem_at 4 rfl) (mem_at 5 rfl) (mem_at 6 rfl) (fun j hj => by exact (match j, hj with | 0, _ => rfl | 1, _ => rfl)) ⟨Nat.le_of_ble_eq_true rfl, Nat.le_of_ble_eq_true rfl⟩ dX4_init_18 rfl (fun q1 => ?_)
  refine vc_dup 22 dX4_init_21 rfl rfl ?_
  refine vc_bipush 24 7 dX4_init_22 (by decide) rfl ?_
  refine vc_cI (na := 1) 27 ((h0, .inr (1, [.int 0, .int 0, .ref q0, .null])) :: [] ++ w1) [.int 7] (c_X7_init 7 7 (by decide) (by decide) (by decide) q1) ⟨_, rfl⟩ ⟨rfl, rfl⟩ ⟨by decide +kernel, by decide +kernel, by decide +kernel⟩ gX4_init_X7_init (mem_at 6 rfl) (mem_at 9 rfl) (mem_at 10 rfl) rfl ⟨Nat.le_of_ble_eq_true rfl, Nat.le_of_ble_eq_true rfl⟩ ⟨Nat.le_of_ble_eq_true rfl, Nat.le_of_ble_eq_true rfl⟩ rfl rfl (Nat.le_of_ble_eq_true rfl) rfl dX4_init_24 rfl (fun w2 hw2 => ?_)
  refine vc_put (j := 3) (tv := (.object "WidowWeight$Row")) (ws1 := ((h0, .inr (1, [.int 0, .int 0, .ref q0, .ref q1])) :: [] ++ w1 ++ w2)) 30 true tyX4 tyX4_ok nmX4 rfl rfl in_X4_init_1 (by decide) rfl (by decide +kernel) rfl (mem_at 8 rfl) rfl rfl (Nat.le_of_ble_eq_true rfl) dX4_init_27 rfl rfl ?_
  exact vc_ret (Nat.le_of_ble_eq_true rfl) (Nat.le_of_ble_eq_true rfl) ⟨q0, w1, q1, w2, hw1, hw2, rfl⟩ dX4_init_30

theorem in_X3_init_4 : ∀ w ∈ wsX70, w ∈ wsX3_init := fun w h => List.mem_cons_of_mem _ (List.mem_append_left _ (List.mem_append_left _ (List.mem_append_right _ h)))
theorem in_X3_init_0 : ∀ w ∈ wsX30, w ∈ wsX3_init := fun w h => List.mem_cons_of_mem _ (List.mem_append_left _ (List.mem_append_right _ h))
theorem in_X3_init_1 : ∀ w ∈ wsX40, w ∈ wsX3_init := fun w h => List.mem_cons_of_mem _ (List.mem_append_right _ h)
def Sh_Market (g : Cx) (h0 : Nat) (ws : va_W) : Prop := ∃ q0 : Nat, ∃ w1 : va_W, ∃ q1 : Nat, ∃ w2 : va_W, ∃ q2 : Nat, ∃ w3 : va_W, ∃ q3 : Nat, ∃ w4 : va_W, ∃ q4 : Nat, ∃ w5 : va_W, ∃ q5 : Nat, ∃ w6 : va_W, ∃ q6 : Nat, ∃ w7 : va_W, ∃ q7 : Nat, ∃ w8 : va_W, ∃ q8 : Nat, ∃ w9 : va_W, Sh_Row g 7 q0 w1 ∧ Sh_Row g 7 q1 w2 ∧ Sh_Row g 7 q2 w3 ∧ Sh_Row g 4 q3 w4 ∧ Sh_Row g 18 q4 w5 ∧ Sh_Row g 24 q5 w6 ∧ Sh_Row g 24 q6 w7 ∧ Sh_Row g 128 q7 w8 ∧ Sh_Moment g q8 w9 ∧ ws = ((h0, .inr (0, [.ref q0, .ref q1, .ref q2, .ref q3, .ref q4, .ref q5, .ref q6, .ref q7, .ref q8])) :: [] ++ w1 ++ w2 ++ w3 ++ w4 ++ w5 ++ w6 ++ w7 ++ w8 ++ w9)
set_option maxRecDepth 100000 in
set_option maxHeartbeats 4000000 in
theorem c_X3_init {g : Cx} (h0 : Nat) : ∀ l sz, MetC l yX3_init wsX3_init { frames := 3, cells := 21, slots := 257, locals := 62 } g [.ref h0] (h0, .inr (0, [.null, .null, .null, .null, .null, .null, .null, .null, .null])) sz (Sh_Market g h0) 21 257 := by
  refine MetC.of (own0 := RX3) (lv0 := [(0, .ref h0)]) rfl ⟨_, rfl⟩ rfl (by decide) (Nat.le_of_ble_eq_true rfl) rfl ?_
  refine vc_aload_n 1 0 dX3_init_0 rfl rfl rfl ?_
  refine vc_obj 4 (mem_at 1 rfl) (mem_at 2 rfl) (mem_at 3 rfl) ⟨Nat.le_of_ble_eq_true rfl, Nat.le_of_ble_eq_true rfl⟩ (Nat.le_of_ble_eq_true rfl) dX3_init_1 rfl ?_
  refine vc_aload_n 5 0 dX3_init_4 rfl rfl rfl ?_
  refine vc_new 8 (ci := 4) (fs := [.null, .int 0]) tyX7 tyX7_ok rfl in_X3_init_4 (mem_at 4 rfl) (mem_at 5 rfl) (mem_at 6 rfl) (fun j hj => by exact (match j, hj with | 0, _ => rfl | 1, _ => rfl)) ⟨Nat.le_of_ble_eq_true rfl, Nat.le_of_ble_eq_true rfl⟩ dX3_init_5 rfl (fun q0 => ?_)
  refine vc_dup 9 dX3_init_8 rfl rfl ?_
  refine vc_bipush 11 7 dX3_init_9 (by decide) rfl ?_
  refine vc_cI (na := 1) 14 ((h0, .inr (0, [.null, .null, .null, .null, .null, .null, .null, .null, .null])) :: []) [.int 7] (c_X7_init 7 7 (by decide) (by decide) (by decide) q0) ⟨_, rfl⟩ ⟨rfl, rfl⟩ ⟨by decide +kernel, by decide +kernel, by decide +kernel⟩ gX3_init_X7_init (mem_at 6 rfl) (mem_at 19 rfl) (mem_at 20 rfl) rfl ⟨Nat.le_of_ble_eq_true rfl, Nat.le_of_ble_eq_true rfl⟩ ⟨Nat.le_of_ble_eq_true rfl, Nat.le_of_ble_eq_true rfl⟩ rfl rfl (Nat.le_of_ble_eq_true rfl) rfl dX3_init_11 rfl (fun w1 hw1 => ?_)
  refine vc_put (j := 0) (tv := (.object "WidowWeight$Row")) (ws1 := ((h0, .inr (0, [.ref q0, .null, .null, .null, .null, .null, .null, .null, .null])) :: [] ++ w1)) 17 true tyX3 tyX3_ok nmX3 rfl rfl in_X3_init_0 (by decide) rfl (by decide +kernel) rfl (mem_at 7 rfl) rfl rfl (Nat.le_of_ble_eq_true rfl) dX3_init_14 rfl rfl ?_
  refine vc_aload_n 18 0 dX3_init_17 rfl rfl rfl ?_
  refine vc_new 21 (ci := 4) (fs := [.null, .int 0]) tyX7 tyX7_ok rfl in_X3_init_4 (mem_at 4 rfl) (mem_at 5 rfl) (mem_at 6 rfl) (fun j hj => by exact (match j, hj with | 0, _ => rfl | 1, _ => rfl)) ⟨Nat.le_of_ble_eq_true rfl, Nat.le_of_ble_eq_true rfl⟩ dX3_init_18 rfl (fun q1 => ?_)
  refine vc_dup 22 dX3_init_21 rfl rfl ?_
  refine vc_bipush 24 7 dX3_init_22 (by decide) rfl ?_
  refine vc_cI (na := 1) 27 ((h0, .inr (0, [.ref q0, .null, .null, .null, .null, .null, .null, .null, .null])) :: [] ++ w1) [.int 7] (c_X7_init 7 7 (by decide) (by decide) (by decide) q1) ⟨_, rfl⟩ ⟨rfl, rfl⟩ ⟨by decide +kernel, by decide +kernel, by decide +kernel⟩ gX3_init_X7_init (mem_at 6 rfl) (mem_at 19 rfl) (mem_at 20 rfl) rfl ⟨Nat.le_of_ble_eq_true rfl, Nat.le_of_ble_eq_true rfl⟩ ⟨Nat.le_of_ble_eq_true rfl, Nat.le_of_ble_eq_true rfl⟩ rfl rfl (Nat.le_of_ble_eq_true rfl) rfl dX3_init_24 rfl (fun w2 hw2 => ?_)
  refine vc_put (j := 1) (tv := (.object "WidowWeight$Row")) (ws1 := ((h0, .inr (0, [.ref q0, .ref q1, .null, .null, .null, .null, .null, .null, .null])) :: [] ++ w1 ++ w2)) 30 true tyX3 tyX3_ok nmX3 rfl rfl in_X3_init_0 (by decide) rfl (by decide +kernel) rfl (mem_at 8 rfl) rfl rfl (Nat.le_of_ble_eq_true rfl) dX3_init_27 rfl rfl ?_
  refine vc_aload_n 31 0 dX3_init_30 rfl rfl rfl ?_
  refine vc_new 34 (ci := 4) (fs := [.null, .int 0]) tyX7 tyX7_ok rfl in_X3_init_4 (mem_at 4 rfl) (mem_at 5 rfl) (mem_at 6 rfl) (fun j hj => by exact (match j, hj with | 0, _ => rfl | 1, _ => rfl)) ⟨Nat.le_of_ble_eq_true rfl, Nat.le_of_ble_eq_true rfl⟩ dX3_init_31 rfl (fun q2 => ?_)
  refine vc_dup 35 dX3_init_34 rfl rfl ?_
  refine vc_bipush 37 7 dX3_init_35 (by decide) rfl ?_
  refine vc_cI (na := 1) 40 ((h0, .inr (0, [.ref q0, .ref q1, .null, .null, .null, .null, .null, .null, .null])) :: [] ++ w1 ++ w2) [.int 7] (c_X7_init 7 7 (by decide) (by decide) (by decide) q2) ⟨_, rfl⟩ ⟨rfl, rfl⟩ ⟨by decide +kernel, by decide +kernel, by decide +kernel⟩ gX3_init_X7_init (mem_at 6 rfl) (mem_at 19 rfl) (mem_at 20 rfl) rfl ⟨Nat.le_of_ble_eq_true rfl, Nat.le_of_ble_eq_true rfl⟩ ⟨Nat.le_of_ble_eq_true rfl, Nat.le_of_ble_eq_true rfl⟩ rfl rfl (Nat.le_of_ble_eq_true rfl) rfl dX3_init_37 rfl (fun w3 hw3 => ?_)
  refine vc_put (j := 2) (tv := (.object "WidowWeight$Row")) (ws1 := ((h0, .inr (0, [.ref q0, .ref q1, .ref q2, .null, .null, .null, .null, .null, .null])) :: [] ++ w1 ++ w2 ++ w3)) 43 true tyX3 tyX3_ok nmX3 rfl rfl in_X3_init_0 (by decide) rfl (by decide +kernel) rfl (mem_at 9 rfl) rfl rfl (Nat.le_of_ble_eq_true rfl) dX3_init_40 rfl rfl ?_
  refine vc_aload_n 44 0 dX3_init_43 rfl rfl rfl ?_
  refine vc_new 47 (ci := 4) (fs := [.null, .int 0]) tyX7 tyX7_ok rfl in_X3_init_4 (mem_at 4 rfl) (mem_at 5 rfl) (mem_at 6 rfl) (fun j hj => by exact (match j, hj with | 0, _ => rfl | 1, _ => rfl)) ⟨Nat.le_of_ble_eq_true rfl, Nat.le_of_ble_eq_true rfl⟩ dX3_init_44 rfl (fun q3 => ?_)
  refine vc_dup 48 dX3_init_47 rfl rfl ?_
  refine vc_iconst 49 4 dX3_init_48 (by decide) rfl ?_
  refine vc_cI (na := 1) 52 ((h0, .inr (0, [.ref q0, .ref q1, .ref q2, .null, .null, .null, .null, .null, .null])) :: [] ++ w1 ++ w2 ++ w3) [.int 4] (c_X7_init 4 4 (by decide) (by decide) (by decide) q3) ⟨_, rfl⟩ ⟨rfl, rfl⟩ ⟨by decide +kernel, by decide +kernel, by decide +kernel⟩ gX3_init_X7_init (mem_at 6 rfl) (mem_at 19 rfl) (mem_at 20 rfl) rfl ⟨Nat.le_of_ble_eq_true rfl, Nat.le_of_ble_eq_true rfl⟩ ⟨Nat.le_of_ble_eq_true rfl, Nat.le_of_ble_eq_true rfl⟩ rfl rfl (Nat.le_of_ble_eq_true rfl) rfl dX3_init_49 rfl (fun w4 hw4 => ?_)
  refine vc_put (j := 3) (tv := (.object "WidowWeight$Row")) (ws1 := ((h0, .inr (0, [.ref q0, .ref q1, .ref q2, .ref q3, .null, .null, .null, .null, .null])) :: [] ++ w1 ++ w2 ++ w3 ++ w4)) 55 true tyX3 tyX3_ok nmX3 rfl rfl in_X3_init_0 (by decide) rfl (by decide +kernel) rfl (mem_at 10 rfl) rfl rfl (Nat.le_of_ble_eq_true rfl) dX3_init_52 rfl rfl ?_
  refine vc_aload_n 56 0 dX3_init_55 rfl rfl rfl ?_
  refine vc_new 59 (ci := 4) (fs := [.null, .int 0]) tyX7 tyX7_ok rfl in_X3_init_4 (mem_at 4 rfl) (mem_at 5 rfl) (mem_at 6 rfl) (fun j hj => by exact (match j, hj with | 0, _ => rfl | 1, _ => rfl)) ⟨Nat.le_of_ble_eq_true rfl, Nat.le_of_ble_eq_true rfl⟩ dX3_init_56 rfl (fun q4 => ?_)
  refine vc_dup 60 dX3_init_59 rfl rfl ?_
  refine vc_bipush 62 18 dX3_init_60 (by decide) rfl ?_
  refine vc_cI (na := 1) 65 ((h0, .inr (0, [.ref q0, .ref q1, .ref q2, .ref q3, .null, .null, .null, .null, .null])) :: [] ++ w1 ++ w2 ++ w3 ++ w4) [.int 18] (c_X7_init 18 18 (by decide) (by decide) (by decide) q4) ⟨_, rfl⟩ ⟨rfl, rfl⟩ ⟨by decide +kernel, by decide +kernel, by decide +kernel⟩ gX3_init_X7_init (mem_at 6 rfl) (mem_at 19 rfl) (mem_at 20 rfl) rfl ⟨Nat.le_of_ble_eq_true rfl, Nat.le_of_ble_eq_true rfl⟩ ⟨Nat.le_of_ble_eq_true rfl, Nat.le_of_ble_eq_true rfl⟩ rfl rfl (Nat.le_of_ble_eq_true rfl) rfl dX3_init_62 rfl (fun w5 hw5 => ?_)
  refine vc_put (j := 4) (tv := (.object "WidowWeight$Row")) (ws1 := ((h0, .inr (0, [.ref q0, .ref q1, .ref q2, .ref q3, .ref q4, .null, .null, .null, .null])) :: [] ++ w1 ++ w2 ++ w3 ++ w4 ++ w5)) 68 true tyX3 tyX3_ok nmX3 rfl rfl in_X3_init_0 (by decide) rfl (by decide +kernel) rfl (mem_at 11 rfl) rfl rfl (Nat.le_of_ble_eq_true rfl) dX3_init_65 rfl rfl ?_
  refine vc_aload_n 69 0 dX3_init_68 rfl rfl rfl ?_
  refine vc_new 72 (ci := 4) (fs := [.null, .int 0]) tyX7 tyX7_ok rfl in_X3_init_4 (mem_at 4 rfl) (mem_at 5 rfl) (mem_at 6 rfl) (fun j hj => by exact (match j, hj with | 0, _ => rfl | 1, _ => rfl)) ⟨Nat.le_of_ble_eq_true rfl, Nat.le_of_ble_eq_true rfl⟩ dX3_init_69 rfl (fun q5 => ?_)
  refine vc_dup 73 dX3_init_72 rfl rfl ?_
  refine vc_bipush 75 24 dX3_init_73 (by decide) rfl ?_
  refine vc_cI (na := 1) 78 ((h0, .inr (0, [.ref q0, .ref q1, .ref q2, .ref q3, .ref q4, .null, .null, .null, .null])) :: [] ++ w1 ++ w2 ++ w3 ++ w4 ++ w5) [.int 24] (c_X7_init 24 24 (by decide) (by decide) (by decide) q5) ⟨_, rfl⟩ ⟨rfl, rfl⟩ ⟨by decide +kernel, by decide +kernel, by decide +kernel⟩ gX3_init_X7_init (mem_at 6 rfl) (mem_at 19 rfl) (mem_at 20 rfl) rfl ⟨Nat.le_of_ble_eq_true rfl, Nat.le_of_ble_eq_true rfl⟩ ⟨Nat.le_of_ble_eq_true rfl, Nat.le_of_ble_eq_true rfl⟩ rfl rfl (Nat.le_of_ble_eq_true rfl) rfl dX3_init_75 rfl (fun w6 hw6 => ?_)
  refine vc_put (j := 5) (tv := (.object "WidowWeight$Row")) (ws1 := ((h0, .inr (0, [.ref q0, .ref q1, .ref q2, .ref q3, .ref q4, .ref q5, .null, .null, .null])) :: [] ++ w1 ++ w2 ++ w3 ++ w4 ++ w5 ++ w6)) 81 true tyX3 tyX3_ok nmX3 rfl rfl in_X3_init_0 (by decide) rfl (by decide +kernel) rfl (mem_at 12 rfl) rfl rfl (Nat.le_of_ble_eq_true rfl) dX3_init_78 rfl rfl ?_
  refine vc_aload_n 82 0 dX3_init_81 rfl rfl rfl ?_
  refine vc_new 85 (ci := 4) (fs := [.null, .int 0]) tyX7 tyX7_ok rfl in_X3_init_4 (mem_at 4 rfl) (mem_at 5 rfl) (mem_at 6 rfl) (fun j hj => by exact (match j, hj with | 0, _ => rfl | 1, _ => rfl)) ⟨Nat.le_of_ble_eq_true rfl, Nat.le_of_ble_eq_true rfl⟩ dX3_init_82 rfl (fun q6 => ?_)
  refine vc_dup 86 dX3_init_85 rfl rfl ?_
  refine vc_bipush 88 24 dX3_init_86 (by decide) rfl ?_
  refine vc_cI (na := 1) 91 ((h0, .inr (0, [.ref q0, .ref q1, .ref q2, .ref q3, .ref q4, .ref q5, .null, .null, .null])) :: [] ++ w1 ++ w2 ++ w3 ++ w4 ++ w5 ++ w6) [.int 24] (c_X7_init 24 24 (by decide) (by decide) (by decide) q6) ⟨_, rfl⟩ ⟨rfl, rfl⟩ ⟨by decide +kernel, by decide +kernel, by decide +kernel⟩ gX3_init_X7_init (mem_at 6 rfl) (mem_at 19 rfl) (mem_at 20 rfl) rfl ⟨Nat.le_of_ble_eq_true rfl, Nat.le_of_ble_eq_true rfl⟩ ⟨Nat.le_of_ble_eq_true rfl, Nat.le_of_ble_eq_true rfl⟩ rfl rfl (Nat.le_of_ble_eq_true rfl) rfl dX3_init_88 rfl (fun w7 hw7 => ?_)
  refine vc_put (j := 6) (tv := (.object "WidowWeight$Row")) (ws1 := ((h0, .inr (0, [.ref q0, .ref q1, .ref q2, .ref q3, .ref q4, .ref q5, .ref q6, .null, .null])) :: [] ++ w1 ++ w2 ++ w3 ++ w4 ++ w5 ++ w6 ++ w7)) 94 true tyX3 tyX3_ok nmX3 rfl rfl in_X3_init_0 (by decide) rfl (by decide +kernel) rfl (mem_at 13 rfl) rfl rfl (Nat.le_of_ble_eq_true rfl) dX3_init_91 rfl rfl ?_
  refine vc_aload_n 95 0 dX3_init_94 rfl rfl rfl ?_
  refine vc_new 98 (ci := 4) (fs := [.null, .int 0]) tyX7 tyX7_ok rfl in_X3_init_4 (mem_at 4 rfl) (mem_at 5 rfl) (mem_at 6 rfl) (fun j hj => by exact (match j, hj with | 0, _ => rfl | 1, _ => rfl)) ⟨Nat.le_of_ble_eq_true rfl, Nat.le_of_ble_eq_true rfl⟩ dX3_init_95 rfl (fun q7 => ?_)
  refine vc_dup 99 dX3_init_98 rfl rfl ?_
  refine vc_sipush 102 128 dX3_init_99 (by decide) rfl ?_
  refine vc_cI (na := 1) 105 ((h0, .inr (0, [.ref q0, .ref q1, .ref q2, .ref q3, .ref q4, .ref q5, .ref q6, .null, .null])) :: [] ++ w1 ++ w2 ++ w3 ++ w4 ++ w5 ++ w6 ++ w7) [.int 128] (c_X7_init 128 128 (by decide) (by decide) (by decide) q7) ⟨_, rfl⟩ ⟨rfl, rfl⟩ ⟨by decide +kernel, by decide +kernel, by decide +kernel⟩ gX3_init_X7_init (mem_at 6 rfl) (mem_at 19 rfl) (mem_at 20 rfl) rfl ⟨Nat.le_of_ble_eq_true rfl, Nat.le_of_ble_eq_true rfl⟩ ⟨Nat.le_of_ble_eq_true rfl, Nat.le_of_ble_eq_true rfl⟩ rfl rfl (Nat.le_of_ble_eq_true rfl) rfl dX3_init_102 rfl (fun w8 hw8 => ?_)
  refine vc_put (j := 7) (tv := (.object "WidowWeight$Row")) (ws1 := ((h0, .inr (0, [.ref q0, .ref q1, .ref q2, .ref q3, .ref q4, .ref q5, .ref q6, .ref q7, .null])) :: [] ++ w1 ++ w2 ++ w3 ++ w4 ++ w5 ++ w6 ++ w7 ++ w8)) 108 true tyX3 tyX3_ok nmX3 rfl rfl in_X3_init_0 (by decide) rfl (by decide +kernel) rfl (mem_at 14 rfl) rfl rfl (Nat.le_of_ble_eq_true rfl) dX3_init_105 rfl rfl ?_
  refine vc_aload_n 109 0 dX3_init_108 rfl rfl rfl ?_
  refine vc_new 112 (ci := 1) (fs := [.int 0, .int 0, .null, .null]) tyX4 tyX4_ok rfl in_X3_init_1 (mem_at 15 rfl) (mem_at 16 rfl) (mem_at 17 rfl) (fun j hj => by exact (match j, hj with | 0, _ => rfl | 1, _ => rfl | 2, _ => rfl | 3, _ => rfl)) ⟨Nat.le_of_ble_eq_true rfl, Nat.le_of_ble_eq_true rfl⟩ dX3_init_109 rfl (fun q8 => ?_)
  refine vc_dup 113 dX3_init_112 rfl rfl ?_
  refine vc_cN (host := "WidowWeight") (na := 0) 116 ((h0, .inr (0, [.ref q0, .ref q1, .ref q2, .ref q3, .ref q4, .ref q5, .ref q6, .ref q7, .null])) :: [] ++ w1 ++ w2 ++ w3 ++ w4 ++ w5 ++ w6 ++ w7 ++ w8) [] (c_X4_init q8) ⟨_, rfl⟩ ⟨rfl, rfl⟩ ⟨by decide +kernel, by decide +kernel, by decide +kernel⟩ gX3_init_X4_init_n43 (mem_at 17 rfl) (by decide +kernel) (mem_at 29 rfl) rfl ⟨Nat.le_of_ble_eq_true rfl, Nat.le_of_ble_eq_true rfl⟩ ⟨Nat.le_of_ble_eq_true rfl, Nat.le_of_ble_eq_true rfl⟩ rfl rfl (Nat.le_of_ble_eq_true rfl) rfl dX3_init_113 rfl (fun w9 hw9 => ?_)
  refine vc_put (j := 8) (tv := (.object "WidowWeight$Moment")) (ws1 := ((h0, .inr (0, [.ref q0, .ref q1, .ref q2, .ref q3, .ref q4, .ref q5, .ref q6, .ref q7, .ref q8])) :: [] ++ w1 ++ w2 ++ w3 ++ w4 ++ w5 ++ w6 ++ w7 ++ w8 ++ w9)) 119 true tyX3 tyX3_ok nmX3 rfl rfl in_X3_init_0 (by decide) rfl (by decide +kernel) rfl (mem_at 18 rfl) rfl rfl (Nat.le_of_ble_eq_true rfl) dX3_init_116 rfl rfl ?_
  exact vc_ret (Nat.le_of_ble_eq_true rfl) (Nat.le_of_ble_eq_true rfl) ⟨q0, w1, q1, w2, q2, w3, q3, w4, q4, w5, q5, w6, q6, w7, q7, w8, q8, w9, hw1, hw2, hw3, hw4, hw5, hw6, hw7, hw8, hw9, rfl⟩ dX3_init_119

theorem in_X5_init_4 : ∀ w ∈ wsX70, w ∈ wsX5_init := fun w h => List.mem_cons_of_mem _ (List.mem_append_left _ (List.mem_append_right _ h))
theorem in_X5_init_2 : ∀ w ∈ wsX50, w ∈ wsX5_init := fun w h => List.mem_cons_of_mem _ (List.mem_append_right _ h)
def Sh_Pans (g : Cx) (h0 : Nat) (ws : va_W) : Prop := ∃ q0 : Nat, ∃ w1 : va_W, Sh_Row g 7 q0 w1 ∧ ws = ((h0, .inr (2, [.int 0, .int 0, .int 0, .int 0, .int 0, .ref q0, .int 0, .int 0, .int 0, .int 0])) :: [] ++ w1)
set_option maxRecDepth 100000 in
set_option maxHeartbeats 4000000 in
theorem c_X5_init {g : Cx} (h0 : Nat) : ∀ l sz, MetC l yX5_init wsX5_init { frames := 2, cells := 2, slots := 9, locals := 42 } g [.ref h0] (h0, .inr (2, [.int 0, .int 0, .int 0, .int 0, .int 0, .null, .int 0, .int 0, .int 0, .int 0])) sz (Sh_Pans g h0) 2 9 := by
  refine MetC.of (own0 := RX5) (lv0 := [(0, .ref h0)]) rfl ⟨_, rfl⟩ rfl (by decide) (Nat.le_of_ble_eq_true rfl) rfl ?_
  refine vc_aload_n 1 0 dX5_init_0 rfl rfl rfl ?_
  refine vc_obj 4 (mem_at 1 rfl) (mem_at 2 rfl) (mem_at 3 rfl) ⟨Nat.le_of_ble_eq_true rfl, Nat.le_of_ble_eq_true rfl⟩ (Nat.le_of_ble_eq_true rfl) dX5_init_1 rfl ?_
  refine vc_aload_n 5 0 dX5_init_4 rfl rfl rfl ?_
  refine vc_new 8 (ci := 4) (fs := [.null, .int 0]) tyX7 tyX7_ok rfl in_X5_init_4 (mem_at 4 rfl) (mem_at 5 rfl) (mem_at 6 rfl) (fun j hj => by exact (match j, hj with | 0, _ => rfl | 1, _ => rfl)) ⟨Nat.le_of_ble_eq_true rfl, Nat.le_of_ble_eq_true rfl⟩ dX5_init_5 rfl (fun q0 => ?_)
  refine vc_dup 9 dX5_init_8 rfl rfl ?_
  refine vc_bipush 11 7 dX5_init_9 (by decide) rfl ?_
  refine vc_cI (na := 1) 14 ((h0, .inr (2, [.int 0, .int 0, .int 0, .int 0, .int 0, .null, .int 0, .int 0, .int 0, .int 0])) :: []) [.int 7] (c_X7_init 7 7 (by decide) (by decide) (by decide) q0) ⟨_, rfl⟩ ⟨rfl, rfl⟩ ⟨by decide +kernel, by decide +kernel, by decide +kernel⟩ gX5_init_X7_init (mem_at 6 rfl) (mem_at 8 rfl) (mem_at 9 rfl) rfl ⟨Nat.le_of_ble_eq_true rfl, Nat.le_of_ble_eq_true rfl⟩ ⟨Nat.le_of_ble_eq_true rfl, Nat.le_of_ble_eq_true rfl⟩ rfl rfl (Nat.le_of_ble_eq_true rfl) rfl dX5_init_11 rfl (fun w1 hw1 => ?_)
  refine vc_put (j := 5) (tv := (.object "WidowWeight$Row")) (ws1 := ((h0, .inr (2, [.int 0, .int 0, .int 0, .int 0, .int 0, .ref q0, .int 0, .int 0, .int 0, .int 0])) :: [] ++ w1)) 17 true tyX5 tyX5_ok nmX5 rfl rfl in_X5_init_2 (by decide) rfl (by decide +kernel) rfl (mem_at 7 rfl) rfl rfl (Nat.le_of_ble_eq_true rfl) dX5_init_14 rfl rfl ?_
  exact vc_ret (Nat.le_of_ble_eq_true rfl) (Nat.le_of_ble_eq_true rfl) ⟨q0, w1, hw1, rfl⟩ dX5_init_17

theorem in_X10_init_4 : ∀ w ∈ wsX70, w ∈ wsX10_init := fun w h => List.mem_cons_of_mem _ (List.mem_append_left _ (List.mem_append_right _ h))
theorem in_X10_init_6 : ∀ w ∈ wsX100, w ∈ wsX10_init := fun w h => List.mem_cons_of_mem _ (List.mem_append_right _ h)
def Sh_Walk (g : Cx) (h0 : Nat) (ws : va_W) : Prop := ∃ q0 : Nat, ∃ w1 : va_W, ∃ q1 : Nat, ∃ w2 : va_W, Sh_Row g 1024 q0 w1 ∧ Sh_Row g 8 q1 w2 ∧ ws = ((h0, .inr (6, [.ref q0, .ref q1, .int 0])) :: [] ++ w1 ++ w2)
set_option maxRecDepth 100000 in
set_option maxHeartbeats 4000000 in
theorem c_X10_init {g : Cx} (h0 : Nat) : ∀ l sz, MetC l yX10_init wsX10_init { frames := 2, cells := 4, slots := 1036, locals := 42 } g [.ref h0] (h0, .inr (6, [.null, .null, .int 0])) sz (Sh_Walk g h0) 4 1036 := by
  refine MetC.of (own0 := RX10) (lv0 := [(0, .ref h0)]) rfl ⟨_, rfl⟩ rfl (by decide) (Nat.le_of_ble_eq_true rfl) rfl ?_
  refine vc_aload_n 1 0 dX10_init_0 rfl rfl rfl ?_
  refine vc_obj 4 (mem_at 1 rfl) (mem_at 2 rfl) (mem_at 3 rfl) ⟨Nat.le_of_ble_eq_true rfl, Nat.le_of_ble_eq_true rfl⟩ (Nat.le_of_ble_eq_true rfl) dX10_init_1 rfl ?_
  refine vc_aload_n 5 0 dX10_init_4 rfl rfl rfl ?_
  refine vc_new 8 (ci := 4) (fs := [.null, .int 0]) tyX7 tyX7_ok rfl in_X10_init_4 (mem_at 4 rfl) (mem_at 5 rfl) (mem_at 6 rfl) (fun j hj => by exact (match j, hj with | 0, _ => rfl | 1, _ => rfl)) ⟨Nat.le_of_ble_eq_true rfl, Nat.le_of_ble_eq_true rfl⟩ dX10_init_5 rfl (fun q0 => ?_)
  refine vc_dup 9 dX10_init_8 rfl rfl ?_
  refine vc_sipush 12 1024 dX10_init_9 (by decide) rfl ?_
  refine vc_cI (na := 1) 15 ((h0, .inr (6, [.null, .null, .int 0])) :: []) [.int 1024] (c_X7_init 1024 1024 (by decide) (by decide) (by decide) q0) ⟨_, rfl⟩ ⟨rfl, rfl⟩ ⟨by decide +kernel, by decide +kernel, by decide +kernel⟩ gX10_init_X7_init (mem_at 6 rfl) (mem_at 9 rfl) (mem_at 10 rfl) rfl ⟨Nat.le_of_ble_eq_true rfl, Nat.le_of_ble_eq_true rfl⟩ ⟨Nat.le_of_ble_eq_true rfl, Nat.le_of_ble_eq_true rfl⟩ rfl rfl (Nat.le_of_ble_eq_true rfl) rfl dX10_init_12 rfl (fun w1 hw1 => ?_)
  refine vc_put (j := 0) (tv := (.object "WidowWeight$Row")) (ws1 := ((h0, .inr (6, [.ref q0, .null, .int 0])) :: [] ++ w1)) 18 true tyX10 tyX10_ok nmX10 rfl rfl in_X10_init_6 (by decide) rfl (by decide +kernel) rfl (mem_at 7 rfl) rfl rfl (Nat.le_of_ble_eq_true rfl) dX10_init_15 rfl rfl ?_
  refine vc_aload_n 19 0 dX10_init_18 rfl rfl rfl ?_
  refine vc_new 22 (ci := 4) (fs := [.null, .int 0]) tyX7 tyX7_ok rfl in_X10_init_4 (mem_at 4 rfl) (mem_at 5 rfl) (mem_at 6 rfl) (fun j hj => by exact (match j, hj with | 0, _ => rfl | 1, _ => rfl)) ⟨Nat.le_of_ble_eq_true rfl, Nat.le_of_ble_eq_true rfl⟩ dX10_init_19 rfl (fun q1 => ?_)
  refine vc_dup 23 dX10_init_22 rfl rfl ?_
  refine vc_bipush 25 8 dX10_init_23 (by decide) rfl ?_
  refine vc_cI (na := 1) 28 ((h0, .inr (6, [.ref q0, .null, .int 0])) :: [] ++ w1) [.int 8] (c_X7_init 8 8 (by decide) (by decide) (by decide) q1) ⟨_, rfl⟩ ⟨rfl, rfl⟩ ⟨by decide +kernel, by decide +kernel, by decide +kernel⟩ gX10_init_X7_init (mem_at 6 rfl) (mem_at 9 rfl) (mem_at 10 rfl) rfl ⟨Nat.le_of_ble_eq_true rfl, Nat.le_of_ble_eq_true rfl⟩ ⟨Nat.le_of_ble_eq_true rfl, Nat.le_of_ble_eq_true rfl⟩ rfl rfl (Nat.le_of_ble_eq_true rfl) rfl dX10_init_25 rfl (fun w2 hw2 => ?_)
  refine vc_put (j := 1) (tv := (.object "WidowWeight$Row")) (ws1 := ((h0, .inr (6, [.ref q0, .ref q1, .int 0])) :: [] ++ w1 ++ w2)) 31 true tyX10 tyX10_ok nmX10 rfl rfl in_X10_init_6 (by decide) rfl (by decide +kernel) rfl (mem_at 8 rfl) rfl rfl (Nat.le_of_ble_eq_true rfl) dX10_init_28 rfl rfl ?_
  exact vc_ret (Nat.le_of_ble_eq_true rfl) (Nat.le_of_ble_eq_true rfl) ⟨q0, w1, q1, w2, hw1, hw2, rfl⟩ dX10_init_31

theorem in_X6_init_4 : ∀ w ∈ wsX70, w ∈ wsX6_init := fun w h => List.mem_cons_of_mem _ (List.mem_append_left _ (List.mem_append_right _ h))
theorem in_X6_init_3 : ∀ w ∈ wsX60, w ∈ wsX6_init := fun w h => List.mem_cons_of_mem _ (List.mem_append_right _ h)
def Sh_Parts (g : Cx) (h0 : Nat) (ws : va_W) : Prop := ∃ q0 : Nat, ∃ w1 : va_W, ∃ q1 : Nat, ∃ w2 : va_W, Sh_Row g 14 q0 w1 ∧ Sh_Row g 14 q1 w2 ∧ ws = ((h0, .inr (3, [.ref q0, .ref q1, .int 0])) :: [] ++ w1 ++ w2)
set_option maxRecDepth 100000 in
set_option maxHeartbeats 4000000 in
theorem c_X6_init {g : Cx} (h0 : Nat) : ∀ l sz, MetC l yX6_init wsX6_init { frames := 2, cells := 4, slots := 32, locals := 42 } g [.ref h0] (h0, .inr (3, [.null, .null, .int 0])) sz (Sh_Parts g h0) 4 32 := by
  refine MetC.of (own0 := RX6) (lv0 := [(0, .ref h0)]) rfl ⟨_, rfl⟩ rfl (by decide) (Nat.le_of_ble_eq_true rfl) rfl ?_
  refine vc_aload_n 1 0 dX6_init_0 rfl rfl rfl ?_
  refine vc_obj 4 (mem_at 1 rfl) (mem_at 2 rfl) (mem_at 3 rfl) ⟨Nat.le_of_ble_eq_true rfl, Nat.le_of_ble_eq_true rfl⟩ (Nat.le_of_ble_eq_true rfl) dX6_init_1 rfl ?_
  refine vc_aload_n 5 0 dX6_init_4 rfl rfl rfl ?_
  refine vc_new 8 (ci := 4) (fs := [.null, .int 0]) tyX7 tyX7_ok rfl in_X6_init_4 (mem_at 4 rfl) (mem_at 5 rfl) (mem_at 6 rfl) (fun j hj => by exact (match j, hj with | 0, _ => rfl | 1, _ => rfl)) ⟨Nat.le_of_ble_eq_true rfl, Nat.le_of_ble_eq_true rfl⟩ dX6_init_5 rfl (fun q0 => ?_)
  refine vc_dup 9 dX6_init_8 rfl rfl ?_
  refine vc_bipush 11 14 dX6_init_9 (by decide) rfl ?_
  refine vc_cI (na := 1) 14 ((h0, .inr (3, [.null, .null, .int 0])) :: []) [.int 14] (c_X7_init 14 14 (by decide) (by decide) (by decide) q0) ⟨_, rfl⟩ ⟨rfl, rfl⟩ ⟨by decide +kernel, by decide +kernel, by decide +kernel⟩ gX6_init_X7_init (mem_at 6 rfl) (mem_at 9 rfl) (mem_at 10 rfl) rfl ⟨Nat.le_of_ble_eq_true rfl, Nat.le_of_ble_eq_true rfl⟩ ⟨Nat.le_of_ble_eq_true rfl, Nat.le_of_ble_eq_true rfl⟩ rfl rfl (Nat.le_of_ble_eq_true rfl) rfl dX6_init_11 rfl (fun w1 hw1 => ?_)
  refine vc_put (j := 0) (tv := (.object "WidowWeight$Row")) (ws1 := ((h0, .inr (3, [.ref q0, .null, .int 0])) :: [] ++ w1)) 17 true tyX6 tyX6_ok nmX6 rfl rfl in_X6_init_3 (by decide) rfl (by decide +kernel) rfl (mem_at 7 rfl) rfl rfl (Nat.le_of_ble_eq_true rfl) dX6_init_14 rfl rfl ?_
  refine vc_aload_n 18 0 dX6_init_17 rfl rfl rfl ?_
  refine vc_new 21 (ci := 4) (fs := [.null, .int 0]) tyX7 tyX7_ok rfl in_X6_init_4 (mem_at 4 rfl) (mem_at 5 rfl) (mem_at 6 rfl) (fun j hj => by exact (match j, hj with | 0, _ => rfl | 1, _ => rfl)) ⟨Nat.le_of_ble_eq_true rfl, Nat.le_of_ble_eq_true rfl⟩ dX6_init_18 rfl (fun q1 => ?_)
  refine vc_dup 22 dX6_init_21 rfl rfl ?_
  refine vc_bipush 24 14 dX6_init_22 (by decide) rfl ?_
  refine vc_cI (na := 1) 27 ((h0, .inr (3, [.ref q0, .null, .int 0])) :: [] ++ w1) [.int 14] (c_X7_init 14 14 (by decide) (by decide) (by decide) q1) ⟨_, rfl⟩ ⟨rfl, rfl⟩ ⟨by decide +kernel, by decide +kernel, by decide +kernel⟩ gX6_init_X7_init (mem_at 6 rfl) (mem_at 9 rfl) (mem_at 10 rfl) rfl ⟨Nat.le_of_ble_eq_true rfl, Nat.le_of_ble_eq_true rfl⟩ ⟨Nat.le_of_ble_eq_true rfl, Nat.le_of_ble_eq_true rfl⟩ rfl rfl (Nat.le_of_ble_eq_true rfl) rfl dX6_init_24 rfl (fun w2 hw2 => ?_)
  refine vc_put (j := 1) (tv := (.object "WidowWeight$Row")) (ws1 := ((h0, .inr (3, [.ref q0, .ref q1, .int 0])) :: [] ++ w1 ++ w2)) 30 true tyX6 tyX6_ok nmX6 rfl rfl in_X6_init_3 (by decide) rfl (by decide +kernel) rfl (mem_at 8 rfl) rfl rfl (Nat.le_of_ble_eq_true rfl) dX6_init_27 rfl rfl ?_
  exact vc_ret (Nat.le_of_ble_eq_true rfl) (Nat.le_of_ble_eq_true rfl) ⟨q0, w1, q1, w2, hw1, hw2, rfl⟩ dX6_init_30

theorem in_X8_init_0 : ∀ w ∈ wsX30, w ∈ wsX8_init := fun w h => List.mem_cons_of_mem _ (List.mem_append_left _ (List.mem_append_left _ (List.mem_append_left _ (List.mem_append_right _ h))))
theorem in_X8_init_5 : ∀ w ∈ wsX80, w ∈ wsX8_init := fun w h => List.mem_cons_of_mem _ (List.mem_append_left _ (List.mem_append_left _ (List.mem_append_right _ h)))
theorem in_X8_init_4 : ∀ w ∈ wsX70, w ∈ wsX8_init := fun w h => List.mem_cons_of_mem _ (List.mem_append_left _ (List.mem_append_right _ h))
def Sh_TextReader (g : Cx) (t0 : Nat) (h0 : Nat) (ws : va_W) : Prop := ∃ q0 : Nat, ∃ w1 : va_W, ∃ q1 : Nat, ∃ w2 : va_W, Sh_Market g q0 w1 ∧ Sh_Row g 3 q1 w2 ∧ ws = ((h0, .inr (5, [.ref q0, .ref t0, .ref q1, .int 0, .int 0, .int 0, .int 0, .int 0, .int 0])) :: [] ++ w1 ++ w2)
set_option maxRecDepth 100000 in
set_option maxHeartbeats 4000000 in
theorem c_X8_init {g : Cx} (t0 : Nat) (h0 : Nat) : ∀ l sz, MetC l yX8_init wsX8_init { frames := 4, cells := 24, slots := 271, locals := 82 } g [.ref h0, .ref t0] (h0, .inr (5, [.null, .null, .null, .int 0, .int 0, .int 0, .int 0, .int 0, .int 0])) sz (Sh_TextReader g t0 h0) 24 271 := by
  refine MetC.of (own0 := RX8) (lv0 := [(0, .ref h0), (1, .ref t0)]) rfl ⟨_, rfl⟩ rfl (by decide) (Nat.le_of_ble_eq_true rfl) rfl ?_
  refine vc_aload_n 1 0 dX8_init_0 rfl rfl rfl ?_
  refine vc_obj 4 (mem_at 1 rfl) (mem_at 2 rfl) (mem_at 3 rfl) ⟨Nat.le_of_ble_eq_true rfl, Nat.le_of_ble_eq_true rfl⟩ (Nat.le_of_ble_eq_true rfl) dX8_init_1 rfl ?_
  refine vc_aload_n 5 0 dX8_init_4 rfl rfl rfl ?_
  refine vc_new 8 (ci := 0) (fs := [.null, .null, .null, .null, .null, .null, .null, .null, .null]) tyX3 tyX3_ok rfl in_X8_init_0 (mem_at 4 rfl) (mem_at 5 rfl) (mem_at 6 rfl) (fun j hj => by exact (match j, hj with | 0, _ => rfl | 1, _ => rfl | 2, _ => rfl | 3, _ => rfl | 4, _ => rfl | 5, _ => rfl | 6, _ => rfl | 7, _ => rfl | 8, _ => rfl)) ⟨Nat.le_of_ble_eq_true rfl, Nat.le_of_ble_eq_true rfl⟩ dX8_init_5 rfl (fun q0 => ?_)
  refine vc_dup 9 dX8_init_8 rfl rfl ?_
  refine vc_cN (host := "WidowWeight") (na := 0) 12 ((h0, .inr (5, [.null, .null, .null, .int 0, .int 0, .int 0, .int 0, .int 0, .int 0])) :: []) [] (c_X3_init q0) ⟨_, rfl⟩ ⟨rfl, rfl⟩ ⟨by decide +kernel, by decide +kernel, by decide +kernel⟩ gX8_init_X3_init_n11 (mem_at 6 rfl) (by decide +kernel) (mem_at 13 rfl) rfl ⟨Nat.le_of_ble_eq_true rfl, Nat.le_of_ble_eq_true rfl⟩ ⟨Nat.le_of_ble_eq_true rfl, Nat.le_of_ble_eq_true rfl⟩ rfl rfl (Nat.le_of_ble_eq_true rfl) rfl dX8_init_9 rfl (fun w1 hw1 => ?_)
  refine vc_put (j := 0) (tv := (.object "WidowWeight$Market")) (ws1 := ((h0, .inr (5, [.ref q0, .null, .null, .int 0, .int 0, .int 0, .int 0, .int 0, .int 0])) :: [] ++ w1)) 15 true tyX8 tyX8_ok nmX8 rfl rfl in_X8_init_5 (by decide) rfl (by decide +kernel) rfl (mem_at 7 rfl) rfl rfl (Nat.le_of_ble_eq_true rfl) dX8_init_12 rfl rfl ?_
  refine vc_aload_n 16 0 dX8_init_15 rfl rfl rfl ?_
  refine vc_new 19 (ci := 4) (fs := [.null, .int 0]) tyX7 tyX7_ok rfl in_X8_init_4 (mem_at 8 rfl) (mem_at 9 rfl) (mem_at 10 rfl) (fun j hj => by exact (match j, hj with | 0, _ => rfl | 1, _ => rfl)) ⟨Nat.le_of_ble_eq_true rfl, Nat.le_of_ble_eq_true rfl⟩ dX8_init_16 rfl (fun q1 => ?_)
  refine vc_dup 20 dX8_init_19 rfl rfl ?_
  refine vc_iconst 21 3 dX8_init_20 (by decide) rfl ?_
  refine vc_cI (na := 1) 24 ((h0, .inr (5, [.ref q0, .null, .null, .int 0, .int 0, .int 0, .int 0, .int 0, .int 0])) :: [] ++ w1) [.int 3] (c_X7_init 3 3 (by decide) (by decide) (by decide) q1) ⟨_, rfl⟩ ⟨rfl, rfl⟩ ⟨by decide +kernel, by decide +kernel, by decide +kernel⟩ gX8_init_X7_init (mem_at 10 rfl) (mem_at 46 rfl) (mem_at 30 rfl) rfl ⟨Nat.le_of_ble_eq_true rfl, Nat.le_of_ble_eq_true rfl⟩ ⟨Nat.le_of_ble_eq_true rfl, Nat.le_of_ble_eq_true rfl⟩ rfl rfl (Nat.le_of_ble_eq_true rfl) rfl dX8_init_21 rfl (fun w2 hw2 => ?_)
  refine vc_put (j := 2) (tv := (.object "WidowWeight$Row")) (ws1 := ((h0, .inr (5, [.ref q0, .null, .ref q1, .int 0, .int 0, .int 0, .int 0, .int 0, .int 0])) :: [] ++ w1 ++ w2)) 27 true tyX8 tyX8_ok nmX8 rfl rfl in_X8_init_5 (by decide) rfl (by decide +kernel) rfl (mem_at 11 rfl) rfl rfl (Nat.le_of_ble_eq_true rfl) dX8_init_24 rfl rfl ?_
  refine vc_aload_n 28 0 dX8_init_27 rfl rfl rfl ?_
  refine vc_aload_n 29 1 dX8_init_28 rfl rfl rfl ?_
  refine vc_put (j := 1) (tv := (.object "WidowWeight$Row")) (ws1 := ((h0, .inr (5, [.ref q0, .ref t0, .ref q1, .int 0, .int 0, .int 0, .int 0, .int 0, .int 0])) :: [] ++ w1 ++ w2)) 32 true tyX8 tyX8_ok nmX8 rfl rfl in_X8_init_5 (by decide) rfl (by decide +kernel) rfl (mem_at 12 rfl) rfl rfl (Nat.le_of_ble_eq_true rfl) dX8_init_29 rfl rfl ?_
  exact vc_ret (Nat.le_of_ble_eq_true rfl) (Nat.le_of_ble_eq_true rfl) ⟨q0, w1, q1, w2, hw1, hw2, rfl⟩ dX8_init_32

theorem in_X11_init_0 : ∀ w ∈ wsX30, w ∈ wsX11_init := fun w h => List.mem_cons_of_mem _ (List.mem_append_left _ (List.mem_append_left _ (List.mem_append_left _ (List.mem_append_left _ (List.mem_append_left _ (List.mem_append_left _ (List.mem_append_left _ (List.mem_append_right _ h))))))))
theorem in_X11_init_7 : ∀ w ∈ wsX110, w ∈ wsX11_init := fun w h => List.mem_cons_of_mem _ (List.mem_append_left _ (List.mem_append_left _ (List.mem_append_left _ (List.mem_append_left _ (List.mem_append_left _ (List.mem_append_left _ (List.mem_append_right _ h)))))))
theorem in_X11_init_4 : ∀ w ∈ wsX70, w ∈ wsX11_init := fun w h => List.mem_cons_of_mem _ (List.mem_append_left _ (List.mem_append_left _ (List.mem_append_left _ (List.mem_append_left _ (List.mem_append_left _ (List.mem_append_right _ h))))))
theorem in_X11_init_5 : ∀ w ∈ wsX80, w ∈ wsX11_init := fun w h => List.mem_cons_of_mem _ (List.mem_append_left _ (List.mem_append_left _ (List.mem_append_left _ (List.mem_append_left _ (List.mem_append_right _ h)))))
theorem in_X11_init_1 : ∀ w ∈ wsX40, w ∈ wsX11_init := fun w h => List.mem_cons_of_mem _ (List.mem_append_left _ (List.mem_append_left _ (List.mem_append_left _ (List.mem_append_right _ h))))
theorem in_X11_init_2 : ∀ w ∈ wsX50, w ∈ wsX11_init := fun w h => List.mem_cons_of_mem _ (List.mem_append_left _ (List.mem_append_left _ (List.mem_append_right _ h)))
theorem in_X11_init_6 : ∀ w ∈ wsX100, w ∈ wsX11_init := fun w h => List.mem_cons_of_mem _ (List.mem_append_left _ (List.mem_append_right _ h))
theorem in_X11_init_3 : ∀ w ∈ wsX60, w ∈ wsX11_init := fun w h => List.mem_cons_of_mem _ (List.mem_append_right _ h)
def Sh_Widow (g : Cx) (h0 : Nat) (ws : va_W) : Prop := ∃ q0 : Nat, ∃ w1 : va_W, ∃ q1 : Nat, ∃ w2 : va_W, ∃ q2 : Nat, ∃ w3 : va_W, ∃ q3 : Nat, ∃ w4 : va_W, ∃ q4 : Nat, ∃ w5 : va_W, ∃ q5 : Nat, ∃ w6 : va_W, ∃ q6 : Nat, ∃ w7 : va_W, ∃ q7 : Nat, ∃ w8 : va_W, ∃ q8 : Nat, ∃ w9 : va_W, Sh_Market g q0 w1 ∧ Sh_Market g q1 w2 ∧ Sh_Market g q2 w3 ∧ Sh_Row g 150 q3 w4 ∧ Sh_TextReader g q3 q4 w5 ∧ Sh_Moment g q5 w6 ∧ Sh_Pans g q6 w7 ∧ Sh_Walk g q7 w8 ∧ Sh_Parts g q8 w9 ∧ ws = ((h0, .inr (7, [.ref q0, .ref q1, .ref q2, .int 0, .ref q3, .ref q4, .ref q5, .ref q6, .ref q7, .ref q8, .long 0, .long 1, .int 0, .int 0, .int 0])) :: [] ++ w1 ++ w2 ++ w3 ++ w4 ++ w5 ++ w6 ++ w7 ++ w8 ++ w9)
set_option maxRecDepth 100000 in
set_option maxHeartbeats 4000000 in
theorem c_X11_init {g : Cx} (h0 : Nat) : ∀ l sz, MetC l yX11_init wsX11_init { frames := 5, cells := 111, slots := 2345, locals := 103 } g [.ref h0] (h0, .inr (7, [.null, .null, .null, .int 0, .null, .null, .null, .null, .null, .null, .long 0, .long 0, .int 0, .int 0, .int 0])) sz (Sh_Widow g h0) 111 2345 := by
  refine MetC.of (own0 := RX11) (lv0 := [(0, .ref h0)]) rfl ⟨_, rfl⟩ rfl (by decide) (Nat.le_of_ble_eq_true rfl) rfl ?_
  refine vc_aload_n 1 0 dX11_init_0 rfl rfl rfl ?_
  refine vc_obj 4 (mem_at 1 rfl) (mem_at 2 rfl) (mem_at 3 rfl) ⟨Nat.le_of_ble_eq_true rfl, Nat.le_of_ble_eq_true rfl⟩ (Nat.le_of_ble_eq_true rfl) dX11_init_1 rfl ?_
  refine vc_aload_n 5 0 dX11_init_4 rfl rfl rfl ?_
  refine vc_new 8 (ci := 0) (fs := [.null, .null, .null, .null, .null, .null, .null, .null, .null]) tyX3 tyX3_ok rfl in_X11_init_0 (mem_at 4 rfl) (mem_at 5 rfl) (mem_at 6 rfl) (fun j hj => by exact (match j, hj with | 0, _ => rfl | 1, _ => rfl | 2, _ => rfl | 3, _ => rfl | 4, _ => rfl | 5, _ => rfl | 6, _ => rfl | 7, _ => rfl | 8, _ => rfl)) ⟨Nat.le_of_ble_eq_true rfl, Nat.le_of_ble_eq_true rfl⟩ dX11_init_5 rfl (fun q0 => ?_)
  refine vc_dup 9 dX11_init_8 rfl rfl ?_
  refine vc_cN (host := "WidowWeight") (na := 0) 12 ((h0, .inr (7, [.null, .null, .null, .int 0, .null, .null, .null, .null, .null, .null, .long 0, .long 0, .int 0, .int 0, .int 0])) :: []) [] (c_X3_init q0) ⟨_, rfl⟩ ⟨rfl, rfl⟩ ⟨by decide +kernel, by decide +kernel, by decide +kernel⟩ gX11_init_X3_init_n9 (mem_at 6 rfl) (by decide +kernel) (mem_at 35 rfl) rfl ⟨Nat.le_of_ble_eq_true rfl, Nat.le_of_ble_eq_true rfl⟩ ⟨Nat.le_of_ble_eq_true rfl, Nat.le_of_ble_eq_true rfl⟩ rfl rfl (Nat.le_of_ble_eq_true rfl) rfl dX11_init_9 rfl (fun w1 hw1 => ?_)
  refine vc_put (j := 0) (tv := (.object "WidowWeight$Market")) (ws1 := ((h0, .inr (7, [.ref q0, .null, .null, .int 0, .null, .null, .null, .null, .null, .null, .long 0, .long 0, .int 0, .int 0, .int 0])) :: [] ++ w1)) 15 true tyX11 tyX11_ok nmX11 rfl rfl in_X11_init_7 (by decide) rfl (by decide +kernel) rfl (mem_at 7 rfl) rfl rfl (Nat.le_of_ble_eq_true rfl) dX11_init_12 rfl rfl ?_
  refine vc_aload_n 16 0 dX11_init_15 rfl rfl rfl ?_
  refine vc_new 19 (ci := 0) (fs := [.null, .null, .null, .null, .null, .null, .null, .null, .null]) tyX3 tyX3_ok rfl in_X11_init_0 (mem_at 4 rfl) (mem_at 5 rfl) (mem_at 6 rfl) (fun j hj => by exact (match j, hj with | 0, _ => rfl | 1, _ => rfl | 2, _ => rfl | 3, _ => rfl | 4, _ => rfl | 5, _ => rfl | 6, _ => rfl | 7, _ => rfl | 8, _ => rfl)) ⟨Nat.le_of_ble_eq_true rfl, Nat.le_of_ble_eq_true rfl⟩ dX11_init_16 rfl (fun q1 => ?_)
  refine vc_dup 20 dX11_init_19 rfl rfl ?_
  refine vc_cN (host := "WidowWeight") (na := 0) 23 ((h0, .inr (7, [.ref q0, .null, .null, .int 0, .null, .null, .null, .null, .null, .null, .long 0, .long 0, .int 0, .int 0, .int 0])) :: [] ++ w1) [] (c_X3_init q1) ⟨_, rfl⟩ ⟨rfl, rfl⟩ ⟨by decide +kernel, by decide +kernel, by decide +kernel⟩ gX11_init_X3_init_n9 (mem_at 6 rfl) (by decide +kernel) (mem_at 35 rfl) rfl ⟨Nat.le_of_ble_eq_true rfl, Nat.le_of_ble_eq_true rfl⟩ ⟨Nat.le_of_ble_eq_true rfl, Nat.le_of_ble_eq_true rfl⟩ rfl rfl (Nat.le_of_ble_eq_true rfl) rfl dX11_init_20 rfl (fun w2 hw2 => ?_)
  refine vc_put (j := 1) (tv := (.object "WidowWeight$Market")) (ws1 := ((h0, .inr (7, [.ref q0, .ref q1, .null, .int 0, .null, .null, .null, .null, .null, .null, .long 0, .long 0, .int 0, .int 0, .int 0])) :: [] ++ w1 ++ w2)) 26 true tyX11 tyX11_ok nmX11 rfl rfl in_X11_init_7 (by decide) rfl (by decide +kernel) rfl (mem_at 8 rfl) rfl rfl (Nat.le_of_ble_eq_true rfl) dX11_init_23 rfl rfl ?_
  refine vc_aload_n 27 0 dX11_init_26 rfl rfl rfl ?_
  refine vc_new 30 (ci := 0) (fs := [.null, .null, .null, .null, .null, .null, .null, .null, .null]) tyX3 tyX3_ok rfl in_X11_init_0 (mem_at 4 rfl) (mem_at 5 rfl) (mem_at 6 rfl) (fun j hj => by exact (match j, hj with | 0, _ => rfl | 1, _ => rfl | 2, _ => rfl | 3, _ => rfl | 4, _ => rfl | 5, _ => rfl | 6, _ => rfl | 7, _ => rfl | 8, _ => rfl)) ⟨Nat.le_of_ble_eq_true rfl, Nat.le_of_ble_eq_true rfl⟩ dX11_init_27 rfl (fun q2 => ?_)
  refine vc_dup 31 dX11_init_30 rfl rfl ?_
  refine vc_cN (host := "WidowWeight") (na := 0) 34 ((h0, .inr (7, [.ref q0, .ref q1, .null, .int 0, .null, .null, .null, .null, .null, .null, .long 0, .long 0, .int 0, .int 0, .int 0])) :: [] ++ w1 ++ w2) [] (c_X3_init q2) ⟨_, rfl⟩ ⟨rfl, rfl⟩ ⟨by decide +kernel, by decide +kernel, by decide +kernel⟩ gX11_init_X3_init_n9 (mem_at 6 rfl) (by decide +kernel) (mem_at 35 rfl) rfl ⟨Nat.le_of_ble_eq_true rfl, Nat.le_of_ble_eq_true rfl⟩ ⟨Nat.le_of_ble_eq_true rfl, Nat.le_of_ble_eq_true rfl⟩ rfl rfl (Nat.le_of_ble_eq_true rfl) rfl dX11_init_31 rfl (fun w3 hw3 => ?_)
  refine vc_put (j := 2) (tv := (.object "WidowWeight$Market")) (ws1 := ((h0, .inr (7, [.ref q0, .ref q1, .ref q2, .int 0, .null, .null, .null, .null, .null, .null, .long 0, .long 0, .int 0, .int 0, .int 0])) :: [] ++ w1 ++ w2 ++ w3)) 37 true tyX11 tyX11_ok nmX11 rfl rfl in_X11_init_7 (by decide) rfl (by decide +kernel) rfl (mem_at 9 rfl) rfl rfl (Nat.le_of_ble_eq_true rfl) dX11_init_34 rfl rfl ?_
  refine vc_aload_n 38 0 dX11_init_37 rfl rfl rfl ?_
  refine vc_new 41 (ci := 4) (fs := [.null, .int 0]) tyX7 tyX7_ok rfl in_X11_init_4 (mem_at 10 rfl) (mem_at 11 rfl) (mem_at 12 rfl) (fun j hj => by exact (match j, hj with | 0, _ => rfl | 1, _ => rfl)) ⟨Nat.le_of_ble_eq_true rfl, Nat.le_of_ble_eq_true rfl⟩ dX11_init_38 rfl (fun q3 => ?_)
  refine vc_dup 42 dX11_init_41 rfl rfl ?_
  refine vc_sipush 45 150 dX11_init_42 (by decide) rfl ?_
  refine vc_cI (na := 1) 48 ((h0, .inr (7, [.ref q0, .ref q1, .ref q2, .int 0, .null, .null, .null, .null, .null, .null, .long 0, .long 0, .int 0, .int 0, .int 0])) :: [] ++ w1 ++ w2 ++ w3) [.int 150] (c_X7_init 150 150 (by decide) (by decide) (by decide) q3) ⟨_, rfl⟩ ⟨rfl, rfl⟩ ⟨by decide +kernel, by decide +kernel, by decide +kernel⟩ gX11_init_X7_init (mem_at 12 rfl) (mem_at 66 rfl) (mem_at 50 rfl) rfl ⟨Nat.le_of_ble_eq_true rfl, Nat.le_of_ble_eq_true rfl⟩ ⟨Nat.le_of_ble_eq_true rfl, Nat.le_of_ble_eq_true rfl⟩ rfl rfl (Nat.le_of_ble_eq_true rfl) rfl dX11_init_45 rfl (fun w4 hw4 => ?_)
  refine vc_put (j := 4) (tv := (.object "WidowWeight$Row")) (ws1 := ((h0, .inr (7, [.ref q0, .ref q1, .ref q2, .int 0, .ref q3, .null, .null, .null, .null, .null, .long 0, .long 0, .int 0, .int 0, .int 0])) :: [] ++ w1 ++ w2 ++ w3 ++ w4)) 51 true tyX11 tyX11_ok nmX11 rfl rfl in_X11_init_7 (by decide) rfl (by decide +kernel) rfl (mem_at 13 rfl) rfl rfl (Nat.le_of_ble_eq_true rfl) dX11_init_48 rfl rfl ?_
  refine vc_aload_n 52 0 dX11_init_51 rfl rfl rfl ?_
  refine vc_new 55 (ci := 5) (fs := [.null, .null, .null, .int 0, .int 0, .int 0, .int 0, .int 0, .int 0]) tyX8 tyX8_ok rfl in_X11_init_5 (mem_at 14 rfl) (mem_at 15 rfl) (mem_at 16 rfl) (fun j hj => by exact (match j, hj with | 0, _ => rfl | 1, _ => rfl | 2, _ => rfl | 3, _ => rfl | 4, _ => rfl | 5, _ => rfl | 6, _ => rfl | 7, _ => rfl | 8, _ => rfl)) ⟨Nat.le_of_ble_eq_true rfl, Nat.le_of_ble_eq_true rfl⟩ dX11_init_52 rfl (fun q4 => ?_)
  refine vc_dup 56 dX11_init_55 rfl rfl ?_
  refine vc_aload_n 57 0 dX11_init_56 rfl rfl rfl ?_
  refine vc_getT (j := 4) 60 rfl rfl in_X11_init_7 (by decide) ⟨rfl, rfl, rfl⟩ (mem_at 13 rfl) rfl dX11_init_57 rfl ?_
  refine vc_cI (na := 1) 63 ((h0, .inr (7, [.ref q0, .ref q1, .ref q2, .int 0, .ref q3, .null, .null, .null, .null, .null, .long 0, .long 0, .int 0, .int 0, .int 0])) :: [] ++ w1 ++ w2 ++ w3 ++ w4) [.ref q3] (c_X8_init q3 q4) ⟨_, rfl⟩ ⟨rfl, rfl⟩ ⟨by decide +kernel, by decide +kernel, by decide +kernel⟩ gX11_init_X8_init (mem_at 16 rfl) (mem_at 67 rfl) (mem_at 68 rfl) rfl ⟨Nat.le_of_ble_eq_true rfl, Nat.le_of_ble_eq_true rfl⟩ ⟨Nat.le_of_ble_eq_true rfl, Nat.le_of_ble_eq_true rfl⟩ rfl rfl (Nat.le_of_ble_eq_true rfl) rfl dX11_init_60 rfl (fun w5 hw5 => ?_)
  refine vc_put (j := 5) (tv := (.object "WidowWeight$TextReader")) (ws1 := ((h0, .inr (7, [.ref q0, .ref q1, .ref q2, .int 0, .ref q3, .ref q4, .null, .null, .null, .null, .long 0, .long 0, .int 0, .int 0, .int 0])) :: [] ++ w1 ++ w2 ++ w3 ++ w4 ++ w5)) 66 true tyX11 tyX11_ok nmX11 rfl rfl in_X11_init_7 (by decide) rfl (by decide +kernel) rfl (mem_at 17 rfl) rfl rfl (Nat.le_of_ble_eq_true rfl) dX11_init_63 rfl rfl ?_
  refine vc_aload_n 67 0 dX11_init_66 rfl rfl rfl ?_
  refine vc_new 70 (ci := 1) (fs := [.int 0, .int 0, .null, .null]) tyX4 tyX4_ok rfl in_X11_init_1 (mem_at 18 rfl) (mem_at 19 rfl) (mem_at 20 rfl) (fun j hj => by exact (match j, hj with | 0, _ => rfl | 1, _ => rfl | 2, _ => rfl | 3, _ => rfl)) ⟨Nat.le_of_ble_eq_true rfl, Nat.le_of_ble_eq_true rfl⟩ dX11_init_67 rfl (fun q5 => ?_)
  refine vc_dup 71 dX11_init_70 rfl rfl ?_
  refine vc_cN (host := "WidowWeight") (na := 0) 74 ((h0, .inr (7, [.ref q0, .ref q1, .ref q2, .int 0, .ref q3, .ref q4, .null, .null, .null, .null, .long 0, .long 0, .int 0, .int 0, .int 0])) :: [] ++ w1 ++ w2 ++ w3 ++ w4 ++ w5) [] (c_X4_init q5) ⟨_, rfl⟩ ⟨rfl, rfl⟩ ⟨by decide +kernel, by decide +kernel, by decide +kernel⟩ gX11_init_X4_init_n42 (mem_at 20 rfl) (by decide +kernel) (mem_at 59 rfl) rfl ⟨Nat.le_of_ble_eq_true rfl, Nat.le_of_ble_eq_true rfl⟩ ⟨Nat.le_of_ble_eq_true rfl, Nat.le_of_ble_eq_true rfl⟩ rfl rfl (Nat.le_of_ble_eq_true rfl) rfl dX11_init_71 rfl (fun w6 hw6 => ?_)
  refine vc_put (j := 6) (tv := (.object "WidowWeight$Moment")) (ws1 := ((h0, .inr (7, [.ref q0, .ref q1, .ref q2, .int 0, .ref q3, .ref q4, .ref q5, .null, .null, .null, .long 0, .long 0, .int 0, .int 0, .int 0])) :: [] ++ w1 ++ w2 ++ w3 ++ w4 ++ w5 ++ w6)) 77 true tyX11 tyX11_ok nmX11 rfl rfl in_X11_init_7 (by decide) rfl (by decide +kernel) rfl (mem_at 21 rfl) rfl rfl (Nat.le_of_ble_eq_true rfl) dX11_init_74 rfl rfl ?_
  refine vc_aload_n 78 0 dX11_init_77 rfl rfl rfl ?_
  refine vc_new 81 (ci := 2) (fs := [.int 0, .int 0, .int 0, .int 0, .int 0, .null, .int 0, .int 0, .int 0, .int 0]) tyX5 tyX5_ok rfl in_X11_init_2 (mem_at 22 rfl) (mem_at 23 rfl) (mem_at 24 rfl) (fun j hj => by exact (match j, hj with | 0, _ => rfl | 1, _ => rfl | 2, _ => rfl | 3, _ => rfl | 4, _ => rfl | 5, _ => rfl | 6, _ => rfl | 7, _ => rfl | 8, _ => rfl | 9, _ => rfl)) ⟨Nat.le_of_ble_eq_true rfl, Nat.le_of_ble_eq_true rfl⟩ dX11_init_78 rfl (fun q6 => ?_)
  refine vc_dup 82 dX11_init_81 rfl rfl ?_
  refine vc_cN (host := "WidowWeight") (na := 0) 85 ((h0, .inr (7, [.ref q0, .ref q1, .ref q2, .int 0, .ref q3, .ref q4, .ref q5, .null, .null, .null, .long 0, .long 0, .int 0, .int 0, .int 0])) :: [] ++ w1 ++ w2 ++ w3 ++ w4 ++ w5 ++ w6) [] (c_X5_init q6) ⟨_, rfl⟩ ⟨rfl, rfl⟩ ⟨by decide +kernel, by decide +kernel, by decide +kernel⟩ gX11_init_X5_init_n49 (mem_at 24 rfl) (by decide +kernel) (mem_at 77 rfl) rfl ⟨Nat.le_of_ble_eq_true rfl, Nat.le_of_ble_eq_true rfl⟩ ⟨Nat.le_of_ble_eq_true rfl, Nat.le_of_ble_eq_true rfl⟩ rfl rfl (Nat.le_of_ble_eq_true rfl) rfl dX11_init_82 rfl (fun w7 hw7 => ?_)
  refine vc_put (j := 7) (tv := (.object "WidowWeight$Pans")) (ws1 := ((h0, .inr (7, [.ref q0, .ref q1, .ref q2, .int 0, .ref q3, .ref q4, .ref q5, .ref q6, .null, .null, .long 0, .long 0, .int 0, .int 0, .int 0])) :: [] ++ w1 ++ w2 ++ w3 ++ w4 ++ w5 ++ w6 ++ w7)) 88 true tyX11 tyX11_ok nmX11 rfl rfl in_X11_init_7 (by decide) rfl (by decide +kernel) rfl (mem_at 25 rfl) rfl rfl (Nat.le_of_ble_eq_true rfl) dX11_init_85 rfl rfl ?_
  refine vc_aload_n 89 0 dX11_init_88 rfl rfl rfl ?_
  refine vc_new 92 (ci := 6) (fs := [.null, .null, .int 0]) tyX10 tyX10_ok rfl in_X11_init_6 (mem_at 26 rfl) (mem_at 27 rfl) (mem_at 28 rfl) (fun j hj => by exact (match j, hj with | 0, _ => rfl | 1, _ => rfl | 2, _ => rfl)) ⟨Nat.le_of_ble_eq_true rfl, Nat.le_of_ble_eq_true rfl⟩ dX11_init_89 rfl (fun q7 => ?_)
  refine vc_dup 93 dX11_init_92 rfl rfl ?_
  refine vc_cN (host := "WidowWeight") (na := 0) 96 ((h0, .inr (7, [.ref q0, .ref q1, .ref q2, .int 0, .ref q3, .ref q4, .ref q5, .ref q6, .null, .null, .long 0, .long 0, .int 0, .int 0, .int 0])) :: [] ++ w1 ++ w2 ++ w3 ++ w4 ++ w5 ++ w6 ++ w7) [] (c_X10_init q7) ⟨_, rfl⟩ ⟨rfl, rfl⟩ ⟨by decide +kernel, by decide +kernel, by decide +kernel⟩ gX11_init_X10_init_n56 (mem_at 28 rfl) (by decide +kernel) (mem_at 83 rfl) rfl ⟨Nat.le_of_ble_eq_true rfl, Nat.le_of_ble_eq_true rfl⟩ ⟨Nat.le_of_ble_eq_true rfl, Nat.le_of_ble_eq_true rfl⟩ rfl rfl (Nat.le_of_ble_eq_true rfl) rfl dX11_init_93 rfl (fun w8 hw8 => ?_)
  refine vc_put (j := 8) (tv := (.object "WidowWeight$Walk")) (ws1 := ((h0, .inr (7, [.ref q0, .ref q1, .ref q2, .int 0, .ref q3, .ref q4, .ref q5, .ref q6, .ref q7, .null, .long 0, .long 0, .int 0, .int 0, .int 0])) :: [] ++ w1 ++ w2 ++ w3 ++ w4 ++ w5 ++ w6 ++ w7 ++ w8)) 99 true tyX11 tyX11_ok nmX11 rfl rfl in_X11_init_7 (by decide) rfl (by decide +kernel) rfl (mem_at 29 rfl) rfl rfl (Nat.le_of_ble_eq_true rfl) dX11_init_96 rfl rfl ?_
  refine vc_aload_n 100 0 dX11_init_99 rfl rfl rfl ?_
  refine vc_new 103 (ci := 3) (fs := [.null, .null, .int 0]) tyX6 tyX6_ok rfl in_X11_init_3 (mem_at 30 rfl) (mem_at 31 rfl) (mem_at 32 rfl) (fun j hj => by exact (match j, hj with | 0, _ => rfl | 1, _ => rfl | 2, _ => rfl)) ⟨Nat.le_of_ble_eq_true rfl, Nat.le_of_ble_eq_true rfl⟩ dX11_init_100 rfl (fun q8 => ?_)
  refine vc_dup 104 dX11_init_103 rfl rfl ?_
  refine vc_cN (host := "WidowWeight") (na := 0) 107 ((h0, .inr (7, [.ref q0, .ref q1, .ref q2, .int 0, .ref q3, .ref q4, .ref q5, .ref q6, .ref q7, .null, .long 0, .long 0, .int 0, .int 0, .int 0])) :: [] ++ w1 ++ w2 ++ w3 ++ w4 ++ w5 ++ w6 ++ w7 ++ w8) [] (c_X6_init q8) ⟨_, rfl⟩ ⟨rfl, rfl⟩ ⟨by decide +kernel, by decide +kernel, by decide +kernel⟩ gX11_init_X6_init_n63 (mem_at 32 rfl) (by decide +kernel) (mem_at 90 rfl) rfl ⟨Nat.le_of_ble_eq_true rfl, Nat.le_of_ble_eq_true rfl⟩ ⟨Nat.le_of_ble_eq_true rfl, Nat.le_of_ble_eq_true rfl⟩ rfl rfl (Nat.le_of_ble_eq_true rfl) rfl dX11_init_104 rfl (fun w9 hw9 => ?_)
  refine vc_put (j := 9) (tv := (.object "WidowWeight$Parts")) (ws1 := ((h0, .inr (7, [.ref q0, .ref q1, .ref q2, .int 0, .ref q3, .ref q4, .ref q5, .ref q6, .ref q7, .ref q8, .long 0, .long 0, .int 0, .int 0, .int 0])) :: [] ++ w1 ++ w2 ++ w3 ++ w4 ++ w5 ++ w6 ++ w7 ++ w8 ++ w9)) 110 true tyX11 tyX11_ok nmX11 rfl rfl in_X11_init_7 (by decide) rfl (by decide +kernel) rfl (mem_at 33 rfl) rfl rfl (Nat.le_of_ble_eq_true rfl) dX11_init_107 rfl rfl ?_
  refine vc_aload_n 111 0 dX11_init_110 rfl rfl rfl ?_
  refine vc_lconst 112 1 dX11_init_111 (by decide) rfl ?_
  refine vc_put (j := 11) (tv := .long) (ws1 := ((h0, .inr (7, [.ref q0, .ref q1, .ref q2, .int 0, .ref q3, .ref q4, .ref q5, .ref q6, .ref q7, .ref q8, .long 0, .long 1, .int 0, .int 0, .int 0])) :: [] ++ w1 ++ w2 ++ w3 ++ w4 ++ w5 ++ w6 ++ w7 ++ w8 ++ w9)) 115 false tyX11 tyX11_ok nmX11 rfl rfl in_X11_init_7 (by decide) rfl (by decide +kernel) rfl (mem_at 34 rfl) rfl rfl (Nat.le_of_ble_eq_true rfl) dX11_init_112 rfl rfl ?_
  exact vc_ret (Nat.le_of_ble_eq_true rfl) (Nat.le_of_ble_eq_true rfl) ⟨q0, w1, q1, w2, q2, w3, q3, w4, q4, w5, q5, w6, q6, w7, q7, w8, q8, w9, hw1, hw2, hw3, hw4, hw5, hw6, hw7, hw8, hw9, rfl⟩ dX11_init_115

theorem in_X12_init_8 : ∀ w ∈ wsX120, w ∈ wsX12_init := fun w h => List.mem_cons_of_mem _ (List.mem_append_right _ h)
def Sh_Model (g : Cx) (h0 : Nat) (ws : va_W) : Prop := ∃ q0 : Nat, ∃ q1 : Nat, ∃ q2 : Nat, ∃ q3 : Nat, ∃ q4 : Nat, ∃ q5 : Nat, ∃ q6 : Nat, ∃ q7 : Nat, ∃ q8 : Nat, ws = ((h0, .inr (8, [.ref q0, .ref q1, .ref q2, .int 0, .long 0, .long 1, .ref q3, .int 0, .int 0, .int 0, .int 0, .int 0, .int 0, .int 0, .ref q4, .ref q5, .ref q6, .ref q7, .ref q8, .long 0])) :: [] ++ [(q0, .inl (g.2.2.1, 964, .inl (fun _ => 0)))] ++ [(q1, .inl (g.2.2.2.1, 2, .inl (fun _ => 0)))] ++ [(q2, .inl (g.2.2.1, 150, .inl (fun _ => 0)))] ++ [(q3, .inl (g.2.2.1, 3, .inl (fun _ => 0)))] ++ [(q4, .inl (g.2.2.1, 8, .inl (fun _ => 0)))] ++ [(q5, .inl (g.2.2.1, 8, .inl (fun _ => 0)))] ++ [(q6, .inl (g.2.2.1, 7, .inl (fun _ => 0)))] ++ [(q7, .inl (g.2.2.1, 300, .inl (fun _ => 0)))] ++ [(q8, .inl (g.2.2.1, 7, .inl (fun _ => 0)))])
set_option maxRecDepth 100000 in
set_option maxHeartbeats 4000000 in
theorem c_X12_init {g : Cx} (h0 : Nat) : ∀ l sz, MetC l yX12_init wsX12_init { frames := 1, cells := 9, slots := 1449, locals := 20 } g [.ref h0] (h0, .inr (8, [.null, .null, .null, .int 0, .long 0, .long 0, .null, .int 0, .int 0, .int 0, .int 0, .int 0, .int 0, .int 0, .null, .null, .null, .null, .null, .long 0])) sz (Sh_Model g h0) 9 1449 := by
  refine MetC.of (own0 := RX12) (lv0 := [(0, .ref h0)]) rfl ⟨_, rfl⟩ rfl (by decide) (Nat.le_of_ble_eq_true rfl) rfl ?_
  refine vc_aload_n 1 0 dX12_init_0 rfl rfl rfl ?_
  refine vc_obj 4 (mem_at 1 rfl) (mem_at 2 rfl) (mem_at 3 rfl) ⟨Nat.le_of_ble_eq_true rfl, Nat.le_of_ble_eq_true rfl⟩ (Nat.le_of_ble_eq_true rfl) dX12_init_1 rfl ?_
  refine vc_aload_n 5 0 dX12_init_4 rfl rfl rfl ?_
  refine vc_sipush 8 964 dX12_init_5 (by decide) rfl ?_
  refine vc_newI 10 964 (mem_at 4 rfl) (by decide) (by decide) (by decide) ⟨Nat.le_of_ble_eq_true rfl, Nat.le_of_ble_eq_true rfl⟩ dX12_init_8 rfl (fun q0 => ?_)
  refine vc_put (j := 0) (tv := (.array .int)) (ws1 := ((h0, .inr (8, [.ref q0, .null, .null, .int 0, .long 0, .long 0, .null, .int 0, .int 0, .int 0, .int 0, .int 0, .int 0, .int 0, .null, .null, .null, .null, .null, .long 0])) :: [] ++ [(q0, .inl (g.2.2.1, 964, .inl (fun _ => 0)))])) 13 true tyX12 tyX12_ok nmX12 rfl rfl in_X12_init_8 (by decide) rfl (by decide +kernel) rfl (mem_at 5 rfl) rfl rfl (Nat.le_of_ble_eq_true rfl) dX12_init_10 rfl rfl ?_
  refine vc_aload_n 14 0 dX12_init_13 rfl rfl rfl ?_
  refine vc_iconst 15 2 dX12_init_14 (by decide) rfl ?_
  refine vc_newZ 17 2 (mem_at 6 rfl) (by decide) (by decide) (by decide) ⟨Nat.le_of_ble_eq_true rfl, Nat.le_of_ble_eq_true rfl⟩ dX12_init_15 rfl (fun q1 => ?_)
  refine vc_put (j := 1) (tv := (.array .boolean)) (ws1 := ((h0, .inr (8, [.ref q0, .ref q1, .null, .int 0, .long 0, .long 0, .null, .int 0, .int 0, .int 0, .int 0, .int 0, .int 0, .int 0, .null, .null, .null, .null, .null, .long 0])) :: [] ++ [(q0, .inl (g.2.2.1, 964, .inl (fun _ => 0)))] ++ [(q1, .inl (g.2.2.2.1, 2, .inl (fun _ => 0)))])) 20 true tyX12 tyX12_ok nmX12 rfl rfl in_X12_init_8 (by decide) rfl (by decide +kernel) rfl (mem_at 7 rfl) rfl rfl (Nat.le_of_ble_eq_true rfl) dX12_init_17 rfl rfl ?_
  refine vc_aload_n 21 0 dX12_init_20 rfl rfl rfl ?_
  refine vc_sipush 24 150 dX12_init_21 (by decide) rfl ?_
  refine vc_newI 26 150 (mem_at 4 rfl) (by decide) (by decide) (by decide) ⟨Nat.le_of_ble_eq_true rfl, Nat.le_of_ble_eq_true rfl⟩ dX12_init_24 rfl (fun q2 => ?_)
  refine vc_put (j := 2) (tv := (.array .int)) (ws1 := ((h0, .inr (8, [.ref q0, .ref q1, .ref q2, .int 0, .long 0, .long 0, .null, .int 0, .int 0, .int 0, .int 0, .int 0, .int 0, .int 0, .null, .null, .null, .null, .null, .long 0])) :: [] ++ [(q0, .inl (g.2.2.1, 964, .inl (fun _ => 0)))] ++ [(q1, .inl (g.2.2.2.1, 2, .inl (fun _ => 0)))] ++ [(q2, .inl (g.2.2.1, 150, .inl (fun _ => 0)))])) 29 true tyX12 tyX12_ok nmX12 rfl rfl in_X12_init_8 (by decide) rfl (by decide +kernel) rfl (mem_at 8 rfl) rfl rfl (Nat.le_of_ble_eq_true rfl) dX12_init_26 rfl rfl ?_
  refine vc_aload_n 30 0 dX12_init_29 rfl rfl rfl ?_
  refine vc_lconst 31 0 dX12_init_30 (by decide) rfl ?_
  refine vc_put (j := 4) (tv := .long) (ws1 := ((h0, .inr (8, [.ref q0, .ref q1, .ref q2, .int 0, .long 0, .long 0, .null, .int 0, .int 0, .int 0, .int 0, .int 0, .int 0, .int 0, .null, .null, .null, .null, .null, .long 0])) :: [] ++ [(q0, .inl (g.2.2.1, 964, .inl (fun _ => 0)))] ++ [(q1, .inl (g.2.2.2.1, 2, .inl (fun _ => 0)))] ++ [(q2, .inl (g.2.2.1, 150, .inl (fun _ => 0)))])) 34 false tyX12 tyX12_ok nmX12 rfl rfl in_X12_init_8 (by decide) rfl (by decide +kernel) rfl (mem_at 9 rfl) rfl rfl (Nat.le_of_ble_eq_true rfl) dX12_init_31 rfl rfl ?_
  refine vc_aload_n 35 0 dX12_init_34 rfl rfl rfl ?_
  refine vc_lconst 36 1 dX12_init_35 (by decide) rfl ?_
  refine vc_put (j := 5) (tv := .long) (ws1 := ((h0, .inr (8, [.ref q0, .ref q1, .ref q2, .int 0, .long 0, .long 1, .null, .int 0, .int 0, .int 0, .int 0, .int 0, .int 0, .int 0, .null, .null, .null, .null, .null, .long 0])) :: [] ++ [(q0, .inl (g.2.2.1, 964, .inl (fun _ => 0)))] ++ [(q1, .inl (g.2.2.2.1, 2, .inl (fun _ => 0)))] ++ [(q2, .inl (g.2.2.1, 150, .inl (fun _ => 0)))])) 39 false tyX12 tyX12_ok nmX12 rfl rfl in_X12_init_8 (by decide) rfl (by decide +kernel) rfl (mem_at 10 rfl) rfl rfl (Nat.le_of_ble_eq_true rfl) dX12_init_36 rfl rfl ?_
  refine vc_aload_n 40 0 dX12_init_39 rfl rfl rfl ?_
  refine vc_iconst 41 3 dX12_init_40 (by decide) rfl ?_
  refine vc_newI 43 3 (mem_at 4 rfl) (by decide) (by decide) (by decide) ⟨Nat.le_of_ble_eq_true rfl, Nat.le_of_ble_eq_true rfl⟩ dX12_init_41 rfl (fun q3 => ?_)
  refine vc_put (j := 6) (tv := (.array .int)) (ws1 := ((h0, .inr (8, [.ref q0, .ref q1, .ref q2, .int 0, .long 0, .long 1, .ref q3, .int 0, .int 0, .int 0, .int 0, .int 0, .int 0, .int 0, .null, .null, .null, .null, .null, .long 0])) :: [] ++ [(q0, .inl (g.2.2.1, 964, .inl (fun _ => 0)))] ++ [(q1, .inl (g.2.2.2.1, 2, .inl (fun _ => 0)))] ++ [(q2, .inl (g.2.2.1, 150, .inl (fun _ => 0)))] ++ [(q3, .inl (g.2.2.1, 3, .inl (fun _ => 0)))])) 46 true tyX12 tyX12_ok nmX12 rfl rfl in_X12_init_8 (by decide) rfl (by decide +kernel) rfl (mem_at 11 rfl) rfl rfl (Nat.le_of_ble_eq_true rfl) dX12_init_43 rfl rfl ?_
  refine vc_aload_n 47 0 dX12_init_46 rfl rfl rfl ?_
  refine vc_bipush 49 8 dX12_init_47 (by decide) rfl ?_
  refine vc_newI 51 8 (mem_at 4 rfl) (by decide) (by decide) (by decide) ⟨Nat.le_of_ble_eq_true rfl, Nat.le_of_ble_eq_true rfl⟩ dX12_init_49 rfl (fun q4 => ?_)
  refine vc_put (j := 14) (tv := (.array .int)) (ws1 := ((h0, .inr (8, [.ref q0, .ref q1, .ref q2, .int 0, .long 0, .long 1, .ref q3, .int 0, .int 0, .int 0, .int 0, .int 0, .int 0, .int 0, .ref q4, .null, .null, .null, .null, .long 0])) :: [] ++ [(q0, .inl (g.2.2.1, 964, .inl (fun _ => 0)))] ++ [(q1, .inl (g.2.2.2.1, 2, .inl (fun _ => 0)))] ++ [(q2, .inl (g.2.2.1, 150, .inl (fun _ => 0)))] ++ [(q3, .inl (g.2.2.1, 3, .inl (fun _ => 0)))] ++ [(q4, .inl (g.2.2.1, 8, .inl (fun _ => 0)))])) 54 true tyX12 tyX12_ok nmX12 rfl rfl in_X12_init_8 (by decide) rfl (by decide +kernel) rfl (mem_at 12 rfl) rfl rfl (Nat.le_of_ble_eq_true rfl) dX12_init_51 rfl rfl ?_
  refine vc_aload_n 55 0 dX12_init_54 rfl rfl rfl ?_
  refine vc_bipush 57 8 dX12_init_55 (by decide) rfl ?_
  refine vc_newI 59 8 (mem_at 4 rfl) (by decide) (by decide) (by decide) ⟨Nat.le_of_ble_eq_true rfl, Nat.le_of_ble_eq_true rfl⟩ dX12_init_57 rfl (fun q5 => ?_)
  refine vc_put (j := 15) (tv := (.array .int)) (ws1 := ((h0, .inr (8, [.ref q0, .ref q1, .ref q2, .int 0, .long 0, .long 1, .ref q3, .int 0, .int 0, .int 0, .int 0, .int 0, .int 0, .int 0, .ref q4, .ref q5, .null, .null, .null, .long 0])) :: [] ++ [(q0, .inl (g.2.2.1, 964, .inl (fun _ => 0)))] ++ [(q1, .inl (g.2.2.2.1, 2, .inl (fun _ => 0)))] ++ [(q2, .inl (g.2.2.1, 150, .inl (fun _ => 0)))] ++ [(q3, .inl (g.2.2.1, 3, .inl (fun _ => 0)))] ++ [(q4, .inl (g.2.2.1, 8, .inl (fun _ => 0)))] ++ [(q5, .inl (g.2.2.1, 8, .inl (fun _ => 0)))])) 62 true tyX12 tyX12_ok nmX12 rfl rfl in_X12_init_8 (by decide) rfl (by decide +kernel) rfl (mem_at 13 rfl) rfl rfl (Nat.le_of_ble_eq_true rfl) dX12_init_59 rfl rfl ?_
  refine vc_aload_n 63 0 dX12_init_62 rfl rfl rfl ?_
  refine vc_bipush 65 7 dX12_init_63 (by decide) rfl ?_
  refine vc_newI 67 7 (mem_at 4 rfl) (by decide) (by decide) (by decide) ⟨Nat.le_of_ble_eq_true rfl, Nat.le_of_ble_eq_true rfl⟩ dX12_init_65 rfl (fun q6 => ?_)
  refine vc_put (j := 16) (tv := (.array .int)) (ws1 := ((h0, .inr (8, [.ref q0, .ref q1, .ref q2, .int 0, .long 0, .long 1, .ref q3, .int 0, .int 0, .int 0, .int 0, .int 0, .int 0, .int 0, .ref q4, .ref q5, .ref q6, .null, .null, .long 0])) :: [] ++ [(q0, .inl (g.2.2.1, 964, .inl (fun _ => 0)))] ++ [(q1, .inl (g.2.2.2.1, 2, .inl (fun _ => 0)))] ++ [(q2, .inl (g.2.2.1, 150, .inl (fun _ => 0)))] ++ [(q3, .inl (g.2.2.1, 3, .inl (fun _ => 0)))] ++ [(q4, .inl (g.2.2.1, 8, .inl (fun _ => 0)))] ++ [(q5, .inl (g.2.2.1, 8, .inl (fun _ => 0)))] ++ [(q6, .inl (g.2.2.1, 7, .inl (fun _ => 0)))])) 70 true tyX12 tyX12_ok nmX12 rfl rfl in_X12_init_8 (by decide) rfl (by decide +kernel) rfl (mem_at 14 rfl) rfl rfl (Nat.le_of_ble_eq_true rfl) dX12_init_67 rfl rfl ?_
  refine vc_aload_n 71 0 dX12_init_70 rfl rfl rfl ?_
  refine vc_sipush 74 300 dX12_init_71 (by decide) rfl ?_
  refine vc_newI 76 300 (mem_at 4 rfl) (by decide) (by decide) (by decide) ⟨Nat.le_of_ble_eq_true rfl, Nat.le_of_ble_eq_true rfl⟩ dX12_init_74 rfl (fun q7 => ?_)
  refine vc_put (j := 17) (tv := (.array .int)) (ws1 := ((h0, .inr (8, [.ref q0, .ref q1, .ref q2, .int 0, .long 0, .long 1, .ref q3, .int 0, .int 0, .int 0, .int 0, .int 0, .int 0, .int 0, .ref q4, .ref q5, .ref q6, .ref q7, .null, .long 0])) :: [] ++ [(q0, .inl (g.2.2.1, 964, .inl (fun _ => 0)))] ++ [(q1, .inl (g.2.2.2.1, 2, .inl (fun _ => 0)))] ++ [(q2, .inl (g.2.2.1, 150, .inl (fun _ => 0)))] ++ [(q3, .inl (g.2.2.1, 3, .inl (fun _ => 0)))] ++ [(q4, .inl (g.2.2.1, 8, .inl (fun _ => 0)))] ++ [(q5, .inl (g.2.2.1, 8, .inl (fun _ => 0)))] ++ [(q6, .inl (g.2.2.1, 7, .inl (fun _ => 0)))] ++ [(q7, .inl (g.2.2.1, 300, .inl (fun _ => 0)))])) 79 true tyX12 tyX12_ok nmX12 rfl rfl in_X12_init_8 (by decide) rfl (by decide +kernel) rfl (mem_at 15 rfl) rfl rfl (Nat.le_of_ble_eq_true rfl) dX12_init_76 rfl rfl ?_
  refine vc_aload_n 80 0 dX12_init_79 rfl rfl rfl ?_
  refine vc_bipush 82 7 dX12_init_80 (by decide) rfl ?_
  refine vc_newI 84 7 (mem_at 4 rfl) (by decide) (by decide) (by decide) ⟨Nat.le_of_ble_eq_true rfl, Nat.le_of_ble_eq_true rfl⟩ dX12_init_82 rfl (fun q8 => ?_)
  refine vc_put (j := 18) (tv := (.array .int)) (ws1 := ((h0, .inr (8, [.ref q0, .ref q1, .ref q2, .int 0, .long 0, .long 1, .ref q3, .int 0, .int 0, .int 0, .int 0, .int 0, .int 0, .int 0, .ref q4, .ref q5, .ref q6, .ref q7, .ref q8, .long 0])) :: [] ++ [(q0, .inl (g.2.2.1, 964, .inl (fun _ => 0)))] ++ [(q1, .inl (g.2.2.2.1, 2, .inl (fun _ => 0)))] ++ [(q2, .inl (g.2.2.1, 150, .inl (fun _ => 0)))] ++ [(q3, .inl (g.2.2.1, 3, .inl (fun _ => 0)))] ++ [(q4, .inl (g.2.2.1, 8, .inl (fun _ => 0)))] ++ [(q5, .inl (g.2.2.1, 8, .inl (fun _ => 0)))] ++ [(q6, .inl (g.2.2.1, 7, .inl (fun _ => 0)))] ++ [(q7, .inl (g.2.2.1, 300, .inl (fun _ => 0)))] ++ [(q8, .inl (g.2.2.1, 7, .inl (fun _ => 0)))])) 87 true tyX12 tyX12_ok nmX12 rfl rfl in_X12_init_8 (by decide) rfl (by decide +kernel) rfl (mem_at 16 rfl) rfl rfl (Nat.le_of_ble_eq_true rfl) dX12_init_84 rfl rfl ?_
  refine vc_aload_n 88 0 dX12_init_87 rfl rfl rfl ?_
  refine vc_iconst 89 0 dX12_init_88 (by decide) rfl ?_
  refine vc_put (j := 3) (tv := .int) (ws1 := ((h0, .inr (8, [.ref q0, .ref q1, .ref q2, .int 0, .long 0, .long 1, .ref q3, .int 0, .int 0, .int 0, .int 0, .int 0, .int 0, .int 0, .ref q4, .ref q5, .ref q6, .ref q7, .ref q8, .long 0])) :: [] ++ [(q0, .inl (g.2.2.1, 964, .inl (fun _ => 0)))] ++ [(q1, .inl (g.2.2.2.1, 2, .inl (fun _ => 0)))] ++ [(q2, .inl (g.2.2.1, 150, .inl (fun _ => 0)))] ++ [(q3, .inl (g.2.2.1, 3, .inl (fun _ => 0)))] ++ [(q4, .inl (g.2.2.1, 8, .inl (fun _ => 0)))] ++ [(q5, .inl (g.2.2.1, 8, .inl (fun _ => 0)))] ++ [(q6, .inl (g.2.2.1, 7, .inl (fun _ => 0)))] ++ [(q7, .inl (g.2.2.1, 300, .inl (fun _ => 0)))] ++ [(q8, .inl (g.2.2.1, 7, .inl (fun _ => 0)))])) 92 false tyX12 tyX12_ok nmX12 rfl rfl in_X12_init_8 (by decide) rfl (by decide +kernel) rfl (mem_at 17 rfl) rfl rfl (Nat.le_of_ble_eq_true rfl) dX12_init_89 rfl rfl ?_
  exact vc_ret (Nat.le_of_ble_eq_true rfl) (Nat.le_of_ble_eq_true rfl) ⟨q0, q1, q2, q3, q4, q5, q6, q7, q8, rfl⟩ dX12_init_92

