/-! ===== the law: its loop over the contracts of class and reference ===== -/
def LC (p : Program) (s : State) (m : MethodId) (meth : Method) (c : Code) (b L : Nat) (xs : Nat → Int32) (g : Cx) : Prop :=
  lw_At p s m meth c b L xs ∧ GK g s ∧ XF g s s.heap ∧ Inj g ∧ (∀ q, Aw g q → s.heap.size ≤ q)
def VL (p : Program) (l : Launch) (e : Env) (s : State) (m : MethodId) (below : List Frame) (meth : Method) (c : Code) (b : Nat) (g : Cx) (σ : Sg) (pc : Nat) (lv : List (Nat × Value)) (st : List Value) : Prop :=
  ∀ (H : Heap) (locs : List Loc) (ls : Array Slot), va_P g.2.1 vwCl (WL g σ) H → va_S (fun q : Nat => s.heap.size ≤ q) s.heap H locs → lv_has ls 4 lv → W p l e room_1 s m #[Value.ref b] below meth c H locs 600000 7302250 (lw_Z below #[Value.ref b] s) (F0 m pc ls st)
section VLROWS
variable {p : Program} {l : Launch} {e : Env} {s : State} {m : MethodId} {below : List Frame} {meth : Method} {c : Code} {b L : Nat} {xs : Nat → Int32} {g : Cx} {σ : Sg} {pc : Nat} {lv : List (Nat × Value)} {rest : List Value}
theorem l_iconst (n : Nat) (C : LC p s m meth c b L xs g) {i : Int} (v : Int32) (d : decode code pc = .ok (.iconst i, 1)) (hv : Int32.ofInt i = v) (hn : pc + 1 = n) (kk : VL p l e s m below meth c b g σ n lv (.int v :: rest)) : VL p l e s m below meth c b g σ pc lv (rest) := by
  subst hn
  exact fun H locs ls hP hS hl => lv_iconst C.1.1 C.1.2.1 d hv (kk H locs ls hP hS hl)
theorem l_bipush (n : Nat) (C : LC p s m meth c b L xs g) {i : Int} (v : Int32) (d : decode code pc = .ok (.bipush i, 2)) (hv : (Int8.ofInt i).toInt32 = v) (hn : pc + 2 = n) (kk : VL p l e s m below meth c b g σ n lv (.int v :: rest)) : VL p l e s m below meth c b g σ pc lv (rest) := by
  subst hn
  exact fun H locs ls hP hS hl => lv_bipush C.1.1 C.1.2.1 d hv (kk H locs ls hP hS hl)
theorem l_iload_n (n : Nat) (C : LC p s m meth c b L xs g) (j : Nat) {k : Fin 4} {i : Nat} {x : Int32} (d : decode code pc = .ok (.iload_n k, 1)) (hi : (k : Nat) = i) (hk : lv[j]? = some (i, .int x)) (hn : pc + 1 = n) (kk : VL p l e s m below meth c b g σ n lv (.int x :: rest)) : VL p l e s m below meth c b g σ pc lv (rest) := by
  subst hn
  exact fun H locs ls hP hS hl => lv_iload_n C.1.1 C.1.2.1 d hi (lv_at hl j hk) (kk H locs ls hP hS hl)
theorem l_aload_n (n : Nat) (C : LC p s m meth c b L xs g) (j : Nat) {k : Fin 4} {i : Nat} {x : Nat} (d : decode code pc = .ok (.aload_n k, 1)) (hi : (k : Nat) = i) (hk : lv[j]? = some (i, .ref x)) (hn : pc + 1 = n) (kk : VL p l e s m below meth c b g σ n lv (.ref x :: rest)) : VL p l e s m below meth c b g σ pc lv (rest) := by
  subst hn
  exact fun H locs ls hP hS hl => lv_aload_n C.1.1 C.1.2.1 d hi (lv_at hl j hk) (kk H locs ls hP hS hl)
theorem l_iadd (n : Nat) (C : LC p s m meth c b L xs g) {x y : Int32} (d : decode code pc = .ok (.iadd, 1)) (hn : pc + 1 = n) (kk : VL p l e s m below meth c b g σ n lv (.int (x + y) :: rest)) : VL p l e s m below meth c b g σ pc lv (.int y :: .int x :: rest) := by
  subst hn
  exact fun H locs ls hP hS hl => lv_iadd C.1.1 C.1.2.1 d (kk H locs ls hP hS hl)
theorem l_isub (n : Nat) (C : LC p s m meth c b L xs g) {x y : Int32} (d : decode code pc = .ok (.isub, 1)) (hn : pc + 1 = n) (kk : VL p l e s m below meth c b g σ n lv (.int (x - y) :: rest)) : VL p l e s m below meth c b g σ pc lv (.int y :: .int x :: rest) := by
  subst hn
  exact fun H locs ls hP hS hl => lv_isub C.1.1 C.1.2.1 d (kk H locs ls hP hS hl)
theorem l_iand (n : Nat) (C : LC p s m meth c b L xs g) {x y : Int32} (d : decode code pc = .ok (.iand, 1)) (hn : pc + 1 = n) (kk : VL p l e s m below meth c b g σ n lv (.int (x &&& y) :: rest)) : VL p l e s m below meth c b g σ pc lv (.int y :: .int x :: rest) := by
  subst hn
  exact fun H locs ls hP hS hl => lv_iand C.1.1 C.1.2.1 d (kk H locs ls hP hS hl)
theorem l_lcmp (n : Nat) (C : LC p s m meth c b L xs g) {x y : Int64} (d : decode code pc = .ok (.lcmp, 1)) (hn : pc + 1 = n) (kk : VL p l e s m below meth c b g σ n lv (.int (lg_cmp x y) :: rest)) : VL p l e s m below meth c b g σ pc lv (.long y :: .long x :: rest) := by
  subst hn
  exact fun H locs ls hP hS hl => W.lcmp C.1.1 C.1.2.1 d (kk H locs ls hP hS hl)
theorem l_slen (n : Nat) (C : LC p s m meth c b L xs g) (d : decode code pc = .ok (.arraylength, 1)) (hn : pc + 1 = n) (kk : VL p l e s m below meth c b g σ n lv (.int (nI L) :: rest)) : VL p l e s m below meth c b g σ pc lv (.ref b :: rest) := by
  subst hn
  exact fun H locs ls hP hS hl => va_slen C.1.1 C.1.2.1 C.1.2.2.2.2.2.2.1 C.1.2.2.2.2.2.2.2.1 (Nat.not_le.mpr C.1.2.2.2.2.2.2.2.1) hS d (kk H locs ls hP hS hl)
theorem l_sld (n : Nat) (C : LC p s m meth c b L xs g) {i : Int32} {γ : Type} {A : Option γ} {oo : γ} (h : (if inb i L = true then A else none) = some oo) (d : decode code pc = .ok (.iaload, 1)) (hn : pc + 1 = n) (kk : A = some oo → VL p l e s m below meth c b g σ n lv (.int (xs (ix i)) :: rest)) : VL p l e s m below meth c b g σ pc lv (.int i :: .ref b :: rest) := by
  subst hn
  refine v_ite h (fun q h => ?_) (fun q h => by cases h)
  exact fun H locs ls hP hS hl => va_sld C.1.1 C.1.2.1 C.1.2.2.2.2.2.2.1 C.1.2.2.2.2.2.2.2.1 (Nat.not_le.mpr C.1.2.2.2.2.2.2.2.1) hS (inb_in q) d (kk h H locs ls hP hS hl)
theorem l_namI {x : Int32} {β : Type} {K : Int32 → β} {oo : β} (h : nam x K = oo) (kk : ∀ y : Int32, K y = oo → VL p l e s m below meth c b g σ pc lv (.int y :: rest)) : VL p l e s m below meth c b g σ pc lv (.int x :: rest) := kk x h
theorem l_iincN (n j : Nat) (C : LC p s m meth c b L xs g) {i : Nat} {z : Int} {x k : Int32} {lv1 : Int32 → List (Nat × Value)} {β : Type} {K : Int32 → β} {oo : β} (h : nam (x + k) K = oo) (d : decode code pc = .ok (.iinc i z, 3)) (hk : lv[j]? = some (i, .int x)) (hc : Int32.ofInt z = k) (hb : i < 4) (hn : pc + 3 = n) (hl1 : ∀ y : Int32, (i, Value.int y) :: lv.filter (fun q => !(q.1 == i) && !(q.1 + 1 == i && q.2.category == 2)) = lv1 y) (kk : ∀ y : Int32, K y = oo → VL p l e s m below meth c b g σ n (lv1 y) rest) : VL p l e s m below meth c b g σ pc lv rest := by
  subst hn
  subst hc
  have kk := kk _ h
  rw [← hl1 (x + Int32.ofInt z)] at kk
  exact fun H locs ls hP hS hl => lv_iinc C.1.1 C.1.2.1 d hl hk rfl hb rfl (fun ls hl => kk H locs ls hP hS hl)
theorem l_goto (t : Nat) (C : LC p s m meth c b L xs g) {off : Int} (d : decode code pc = .ok (.goto off, 3)) (ht : (pc : Int) + off = (t : Int)) (kk : VL p l e s m below meth c b g σ t lv rest) : VL p l e s m below meth c b g σ pc lv rest := fun H locs ls hP hS hl => lv_goto C.1.1 C.1.2.1 d ht (kk H locs ls hP hS hl)
theorem l_icmp_gt (n t : Nat) (C : LC p s m meth c b L xs g) {x y : Int32} {off : Int} {β : Type} {A B oo : β} (h : (if y < x then A else B) = oo) (d : decode code pc = .ok (.if_icmp .gt off, 3)) (hn : pc + 3 = n) (ht : (pc : Int) + off = (t : Int)) (kt : A = oo → VL p l e s m below meth c b g σ t lv rest) (kf : B = oo → VL p l e s m below meth c b g σ n lv rest) : VL p l e s m below meth c b g σ pc lv (.int y :: .int x :: rest) := by
  subst hn
  exact fun H locs ls hP hS hl => lv_icmp_gt C.1.1 C.1.2.1 d ht (fun q => kt (by rw [if_pos q] at h; exact h) H locs ls hP hS hl) (fun q => kf (by rw [if_neg q] at h; exact h) H locs ls hP hS hl)
theorem l_icmp_eq (n t : Nat) (C : LC p s m meth c b L xs g) {x y : Int32} {off : Int} {β : Type} {A B oo : β} (h : (if x = y then A else B) = oo) (d : decode code pc = .ok (.if_icmp .eq off, 3)) (hn : pc + 3 = n) (ht : (pc : Int) + off = (t : Int)) (kt : A = oo → VL p l e s m below meth c b g σ t lv rest) (kf : B = oo → VL p l e s m below meth c b g σ n lv rest) : VL p l e s m below meth c b g σ pc lv (.int y :: .int x :: rest) := by
  subst hn
  exact fun H locs ls hP hS hl => lv_icmp_eq C.1.1 C.1.2.1 d ht (fun q => kt (by rw [if_pos q] at h; exact h) H locs ls hP hS hl) (fun q => kf (by rw [if_neg q] at h; exact h) H locs ls hP hS hl)
theorem l_if_eq (n t : Nat) (C : LC p s m meth c b L xs g) {x : Int32} {off : Int} {β : Type} {A B oo : β} (h : (if x = 0 then A else B) = oo) (d : decode code pc = .ok (.ifCond .eq off, 3)) (hn : pc + 3 = n) (ht : (pc : Int) + off = (t : Int)) (kt : A = oo → VL p l e s m below meth c b g σ t lv rest) (kf : B = oo → VL p l e s m below meth c b g σ n lv rest) : VL p l e s m below meth c b g σ pc lv (.int x :: rest) := by
  subst hn
  exact fun H locs ls hP hS hl => lv_if_eq C.1.1 C.1.2.1 d ht (fun q => kt (by rw [if_pos q] at h; exact h) H locs ls hP hS hl) (fun q => kf (by rw [if_neg q] at h; exact h) H locs ls hP hS hl)
theorem l_tabIn (t : Nat) (z : Int) (C : LC p s m meth c b L xs g) {dflt lo hi : Int} {offs : Array Int} {len : Nat} {x : Int32} {off : Int} (d : decode code pc = .ok (.tableswitch dflt lo hi offs, len)) (hx : x.toInt = z) (h1 : ¬ z < lo) (h2 : ¬ hi < z) (ho : offs[(z - lo).toNat]? = some off) (ht : (pc : Int) + off = (t : Int)) (kk : VL p l e s m below meth c b g σ t lv rest) : VL p l e s m below meth c b g σ pc lv (.int x :: rest) := by
  subst hx
  exact fun H locs ls hP hS hl => lv_tableIn C.1.1 C.1.2.1 d h1 h2 ho ht (kk H locs ls hP hS hl)
theorem l_tabOut (t : Nat) (C : LC p s m meth c b L xs g) {dflt lo hi : Int} {offs : Array Int} {len : Nat} {x : Int32} (d : decode code pc = .ok (.tableswitch dflt lo hi offs, len)) (h : x.toInt < lo ∨ hi < x.toInt) (ht : (pc : Int) + dflt = (t : Int)) (kk : VL p l e s m below meth c b g σ t lv rest) : VL p l e s m below meth c b g σ pc lv (.int x :: rest) := fun H locs ls hP hS hl => lv_tableOut C.1.1 C.1.2.1 d h ht (kk H locs ls hP hS hl)
theorem l_sub {lv1 : List (Nat × Value)} (ks : List Nat) (hl1 : lv_pick lv ks = lv1) (kk : VL p l e s m below meth c b g σ pc lv1 rest) : VL p l e s m below meth c b g σ pc lv rest := fun H locs ls hP hS hl => kk H locs ls hP hS (lv_sub hl ks hl1)
theorem l_end (C : LC p s m meth c b L xs g) (d : decode code pc = .ok (.ireturn, 1)) : VL p l e s m below meth c b g σ pc lv [.int 1] := fun H locs ls hP hS hl => va_forget (fun q hq => hS.2.2 q hq) (lw_ret C.1.1 C.1.2.1 C.1.2.2.1 C.1.2.2.2.2.2.2.2.2.1 d)
theorem l_back {R : Room} {cells slots : Nat} {H H0 : Heap} {locs : List Loc} {Q : State → Prop} {ls : Array Slot} {st0 : List Value} {a args : Array Value} {r : Option Value} {τ : Sg} {A : Nat → Prop} (hA : ∀ q, Aw g q → A q) (hr : va_Run p l e R s m args below meth c H locs cells slots 0 0 (F0 m pc ls st0) rest (QF g r τ a) (Aw g)) (hS : va_S A H0 H locs) (kk : ∀ (H1 : Heap) (locs1 : List Loc), va_P g.2.1 vwCl (WL g τ) H1 → va_S A H0 H1 locs1 → W p l e R s m args below meth c H1 locs1 cells slots Q (F0 m (pc + 3) ls (r.toList ++ rest))) : W p l e R s m args below meth c H locs cells slots Q (F0 m pc ls st0) := by
  intro T hT X
  obtain ⟨v, st₀, t, T', L, h0, X', hL, e1, e2, ⟨hv, ⟨-, -, -, hP⟩, hz, hk⟩, st⟩ := hr T hT X
  cases hv
  rw [h0] at hz hk
  obtain ⟨t2, a1, b1⟩ := kk T'.heap (locs ++ L) (by rw [e1]; exact hP) ⟨Nat.le_trans hS.1 (by rw [e1]; exact hz), fun q h1 h2 => by rw [e1, hk q (Nat.lt_of_lt_of_le h1 hS.1) (fun z => h2 (hA q z))]; exact hS.2.1 q h1 h2, fun q hq => by
      rcases List.mem_append.mp hq with h | h
      · exact hS.2.2 q h
      · exact hA _ (hL q h)⟩ T' rfl X'
  exact ⟨t2, st t2 a1, b1⟩
theorem l_pre {As : List Value} {H : Heap} {locs : List Loc} (C : LC p s m meth c b L xs g) (hP : va_P g.2.1 vwCl (WL g σ) H) (hS : va_S (fun q : Nat => s.heap.size ≤ q) s.heap H locs) : ∀ U : State, U.heap = H → s.WarmedH U.vm → (va_Pc As (GW g σ)) As.toArray U := fun U hU hW => ⟨rfl, GK.warm hW C.2.1, by rw [hU]; exact XF.moved hW.alike (C.2.2.1.kept (fun a h1 _ => hS.2.1 a h1 (Nat.not_le.mpr h1))), C.2.2.2.1, by rw [hU]; exact hP⟩
theorem l_call (n ci : Nat) (C : LC p s m meth c b L xs g) {k idx na maxL : Nat} {q : vw_C} {y : MethodName} {ws : List Cond} {bytes : ByteArray} {rt : Option FieldType} {rm : Room} (As : List Value) {st : List Value} {r : Option Value} {τ : Sg} (hk : kK k = ci) (hci : vwCl[ci]? = some q) (hcel : ∀ σ, ∃ fs, cel g σ k = .inr (ci, fs)) (hM : ∀ l, MetF l y ws rm g (.ref (g.1 k) :: As) σ r τ) (hc : Cl y ws bytes maxL rt rm na) (hT : GoodIn wsL_law (wsV RL idx q.1 y ws)) (hy : y.cls = q.1) (hR : rm.frames + 1 ≤ room_1.frames ∧ 8 + (maxL + 11) + rm.locals ≤ room_1.locals) (hna : As.length = na) (hst : st = As.reverse ++ .ref (g.1 k) :: rest) (hro : (rest.map fun v => v.category).sum ≤ 8) (d : decode code pc = .ok (.invokevirtual idx, 3)) (hn : pc + 3 = n) (kk : VL p l e s m below meth c b g τ n lv (r.toList ++ rest)) : VL p l e s m below meth c b g σ pc lv st := by
  subst hn
  subst hst
  obtain ⟨⟨ws', hw⟩, h1, h2, h3, h4, h5⟩ := hc
  obtain ⟨fs, hf⟩ := hcel σ
  have hlt : ci < 9 := (List.getElem?_eq_some_iff.mp hci).1
  have hk2 : k < 122 := kK_lt hk (by omega)
  have hts : ∀ w ∈ wsL_law, w.before #[Value.ref b] s = true := fun w h => C.1.2.2.2.2.2.1 w (wsL_law_in w h)
  exact fun H locs ls hP hS hl => l_back C.2.2.2.2 (va_runV (As := As) (rest := rest) (Ts := wsL_law) ⟨C.1.1, C.1.2.1, C.1.2.2.2.1, C.1.2.2.2.2.1, hts⟩ (hM l) (cwV na hts hT hw h1 h2 ⟨hy, h3, h4, h5⟩ hR) ⟨GW.blind, va_recv C.2.1.1 hP (ci := ci) (q0 := k) hci (by rw [WL_get hk2, hf]), l_pre C hP hS⟩ rfl hna hl.1 rfl (lv_room hro) d ⟨Nat.le_refl _, Nat.le_refl _⟩) hS (fun H1 locs1 hP1 hS1 => kk H1 locs1 ls hP1 hS1 hl)
end VLROWS
def lf_0 (xs : Nat → Int32) (L : Nat) (nxt : Sg → Int32 → Option Int32) (σ : Sg) (i : Int32) : Option Int32 := (bnd (f_X11_market σ) fun r1 s1 => bnd (f_X12_market s1) fun r2 s2 => if r1 = r2 then nxt s2 i else some 0)
set_option maxRecDepth 100000 in
set_option maxHeartbeats 4000000 in
theorem lq_0 {p : Program} {l : Launch} {e : Env} {s : State} {m : MethodId} {below : List Frame} {meth : Method} {c : Code} {b L : Nat} {xs : Nat → Int32} {g : Cx} (C : LC p s m meth c b L xs g) (nxt : Sg → Int32 → Option Int32) (hx : ∀ σ i, nxt σ i = some 1 → VL p l e s m below meth c b g σ 1239 [(0, .ref b), (1, .ref (g.1 0)), (2, .ref (g.1 112)), (3, .int i)] []) (σ : Sg) (i : Int32) (h : lf_0 xs L nxt σ i = some 1) : VL p l e s m below meth c b g σ 196 [(0, .ref b), (1, .ref (g.1 0)), (2, .ref (g.1 112)), (3, .int i)] [] := by
  unfold lf_0 at h
  refine l_aload_n 197 C 1 dL_law_196 rfl rfl rfl ?_
  obtain ⟨r1, s1, h0, h⟩ := ob2 h
  refine l_call 200 7 C [] (rfl : kK 0 = 7) rfl (fun _ => ⟨_, cel_7 rfl⟩) (c_X11_market _ _ h0) cl_X11_market gL_law_X11_market rfl ⟨Nat.le_of_ble_eq_true rfl, Nat.le_of_ble_eq_true rfl⟩ rfl rfl (Nat.le_of_ble_eq_true rfl) dL_law_197 rfl ?_
  refine l_aload_n 201 C 2 dL_law_200 rfl rfl rfl ?_
  obtain ⟨r2, s2, h0, h⟩ := ob2 h
  refine l_call 204 8 C [] (rfl : kK 112 = 8) rfl (fun _ => ⟨_, cel_8 rfl⟩) (c_X12_market _ _ h0) cl_X12_market gL_law_X12_market rfl ⟨Nat.le_of_ble_eq_true rfl, Nat.le_of_ble_eq_true rfl⟩ rfl rfl (Nat.le_of_ble_eq_true rfl) dL_law_201 rfl ?_
  refine l_icmp_eq 207 1239 C h dL_law_204 rfl (by decide) (fun h => ?_) (fun h => by cases h)
  exact hx s2 i h
def lf_1 (xs : Nat → Int32) (L : Nat) (nxt : Sg → Int32 → Option Int32) (σ : Sg) (i : Int32) : Option Int32 := (if inb (i + 1) L = true then if inb (i + 2) L = true then if inb (i + 3) L = true then bnd (f_X11_keeper σ (xs (ix (i + 1))) (xs (ix (i + 2))) (xs (ix (i + 3)))) fun r1 s1 => if inb (i + 1) L = true then if inb (i + 2) L = true then if inb (i + 3) L = true then bnd (f_X12_keeper s1 (xs (ix (i + 1))) (xs (ix (i + 2))) (xs (ix (i + 3)))) fun r2 s2 => if r1 = r2 then nxt s2 i else some 0 else none else none else none else none else none else none)
set_option maxRecDepth 100000 in
set_option maxHeartbeats 4000000 in
theorem lq_1 {p : Program} {l : Launch} {e : Env} {s : State} {m : MethodId} {below : List Frame} {meth : Method} {c : Code} {b L : Nat} {xs : Nat → Int32} {g : Cx} (C : LC p s m meth c b L xs g) (nxt : Sg → Int32 → Option Int32) (hx : ∀ σ i, nxt σ i = some 1 → VL p l e s m below meth c b g σ 1239 [(0, .ref b), (1, .ref (g.1 0)), (2, .ref (g.1 112)), (3, .int i)] []) (σ : Sg) (i : Int32) (h : lf_1 xs L nxt σ i = some 1) : VL p l e s m below meth c b g σ 209 [(0, .ref b), (1, .ref (g.1 0)), (2, .ref (g.1 112)), (3, .int i)] [] := by
  unfold lf_1 at h
  refine l_aload_n 210 C 1 dL_law_209 rfl rfl rfl ?_
  refine l_aload_n 211 C 0 dL_law_210 rfl rfl rfl ?_
  refine l_iload_n 212 C 3 dL_law_211 rfl rfl rfl ?_
  refine l_iconst 213 C 1 dL_law_212 kc_i_1 rfl ?_
  refine l_iadd 214 C dL_law_213 rfl ?_
  refine l_sld 215 C h dL_law_214 rfl (fun h => ?_)
  refine l_aload_n 216 C 0 dL_law_215 rfl rfl rfl ?_
  refine l_iload_n 217 C 3 dL_law_216 rfl rfl rfl ?_
  refine l_iconst 218 C 2 dL_law_217 kc_i_2 rfl ?_
  refine l_iadd 219 C dL_law_218 rfl ?_
  refine l_sld 220 C h dL_law_219 rfl (fun h => ?_)
  refine l_aload_n 221 C 0 dL_law_220 rfl rfl rfl ?_
  refine l_iload_n 222 C 3 dL_law_221 rfl rfl rfl ?_
  refine l_iconst 223 C 3 dL_law_222 kc_i_3 rfl ?_
  refine l_iadd 224 C dL_law_223 rfl ?_
  refine l_sld 225 C h dL_law_224 rfl (fun h => ?_)
  obtain ⟨r1, s1, h0, h⟩ := ob2 h
  refine l_call 228 7 C [.int (xs (ix (i + 1))), .int (xs (ix (i + 2))), .int (xs (ix (i + 3)))] (rfl : kK 0 = 7) rfl (fun _ => ⟨_, cel_7 rfl⟩) (c_X11_keeper (xs (ix (i + 1))) (xs (ix (i + 2))) (xs (ix (i + 3))) _ _ h0) cl_X11_keeper gL_law_X11_keeper rfl ⟨Nat.le_of_ble_eq_true rfl, Nat.le_of_ble_eq_true rfl⟩ rfl rfl (Nat.le_of_ble_eq_true rfl) dL_law_225 rfl ?_
  refine l_aload_n 229 C 2 dL_law_228 rfl rfl rfl ?_
  refine l_aload_n 230 C 0 dL_law_229 rfl rfl rfl ?_
  refine l_iload_n 231 C 3 dL_law_230 rfl rfl rfl ?_
  refine l_iconst 232 C 1 dL_law_231 kc_i_1 rfl ?_
  refine l_iadd 233 C dL_law_232 rfl ?_
  refine l_sld 234 C h dL_law_233 rfl (fun h => ?_)
  refine l_aload_n 235 C 0 dL_law_234 rfl rfl rfl ?_
  refine l_iload_n 236 C 3 dL_law_235 rfl rfl rfl ?_
  refine l_iconst 237 C 2 dL_law_236 kc_i_2 rfl ?_
  refine l_iadd 238 C dL_law_237 rfl ?_
  refine l_sld 239 C h dL_law_238 rfl (fun h => ?_)
  refine l_aload_n 240 C 0 dL_law_239 rfl rfl rfl ?_
  refine l_iload_n 241 C 3 dL_law_240 rfl rfl rfl ?_
  refine l_iconst 242 C 3 dL_law_241 kc_i_3 rfl ?_
  refine l_iadd 243 C dL_law_242 rfl ?_
  refine l_sld 244 C h dL_law_243 rfl (fun h => ?_)
  obtain ⟨r2, s2, h0, h⟩ := ob2 h
  refine l_call 247 8 C [.int (xs (ix (i + 1))), .int (xs (ix (i + 2))), .int (xs (ix (i + 3)))] (rfl : kK 112 = 8) rfl (fun _ => ⟨_, cel_8 rfl⟩) (c_X12_keeper (xs (ix (i + 1))) (xs (ix (i + 2))) (xs (ix (i + 3))) _ _ h0) cl_X12_keeper gL_law_X12_keeper rfl ⟨Nat.le_of_ble_eq_true rfl, Nat.le_of_ble_eq_true rfl⟩ rfl rfl (Nat.le_of_ble_eq_true rfl) dL_law_244 rfl ?_
  refine l_icmp_eq 250 1239 C h dL_law_247 rfl (by decide) (fun h => ?_) (fun h => by cases h)
  exact hx s2 i h
def lf_2 (xs : Nat → Int32) (L : Nat) (nxt : Sg → Int32 → Option Int32) (σ : Sg) (i : Int32) : Option Int32 := (if inb (i + 1) L = true then if inb (i + 2) L = true then bnd (f_X11_held σ (xs (ix (i + 1))) (xs (ix (i + 2)))) fun r1 s1 => if inb (i + 1) L = true then if inb (i + 2) L = true then bnd (f_X12_held s1 (xs (ix (i + 1))) (xs (ix (i + 2)))) fun r2 s2 => if r1 = r2 then nxt s2 i else some 0 else none else none else none else none)
set_option maxRecDepth 100000 in
set_option maxHeartbeats 4000000 in
theorem lq_2 {p : Program} {l : Launch} {e : Env} {s : State} {m : MethodId} {below : List Frame} {meth : Method} {c : Code} {b L : Nat} {xs : Nat → Int32} {g : Cx} (C : LC p s m meth c b L xs g) (nxt : Sg → Int32 → Option Int32) (hx : ∀ σ i, nxt σ i = some 1 → VL p l e s m below meth c b g σ 1239 [(0, .ref b), (1, .ref (g.1 0)), (2, .ref (g.1 112)), (3, .int i)] []) (σ : Sg) (i : Int32) (h : lf_2 xs L nxt σ i = some 1) : VL p l e s m below meth c b g σ 252 [(0, .ref b), (1, .ref (g.1 0)), (2, .ref (g.1 112)), (3, .int i)] [] := by
  unfold lf_2 at h
  refine l_aload_n 253 C 1 dL_law_252 rfl rfl rfl ?_
  refine l_aload_n 254 C 0 dL_law_253 rfl rfl rfl ?_
  refine l_iload_n 255 C 3 dL_law_254 rfl rfl rfl ?_
  refine l_iconst 256 C 1 dL_law_255 kc_i_1 rfl ?_
  refine l_iadd 257 C dL_law_256 rfl ?_
  refine l_sld 258 C h dL_law_257 rfl (fun h => ?_)
  refine l_aload_n 259 C 0 dL_law_258 rfl rfl rfl ?_
  refine l_iload_n 260 C 3 dL_law_259 rfl rfl rfl ?_
  refine l_iconst 261 C 2 dL_law_260 kc_i_2 rfl ?_
  refine l_iadd 262 C dL_law_261 rfl ?_
  refine l_sld 263 C h dL_law_262 rfl (fun h => ?_)
  obtain ⟨r1, s1, h0, h⟩ := ob2 h
  refine l_call 266 7 C [.int (xs (ix (i + 1))), .int (xs (ix (i + 2)))] (rfl : kK 0 = 7) rfl (fun _ => ⟨_, cel_7 rfl⟩) (c_X11_held (xs (ix (i + 1))) (xs (ix (i + 2))) _ _ h0) cl_X11_held gL_law_X11_held rfl ⟨Nat.le_of_ble_eq_true rfl, Nat.le_of_ble_eq_true rfl⟩ rfl rfl (Nat.le_of_ble_eq_true rfl) dL_law_263 rfl ?_
  refine l_aload_n 267 C 2 dL_law_266 rfl rfl rfl ?_
  refine l_aload_n 268 C 0 dL_law_267 rfl rfl rfl ?_
  refine l_iload_n 269 C 3 dL_law_268 rfl rfl rfl ?_
  refine l_iconst 270 C 1 dL_law_269 kc_i_1 rfl ?_
  refine l_iadd 271 C dL_law_270 rfl ?_
  refine l_sld 272 C h dL_law_271 rfl (fun h => ?_)
  refine l_aload_n 273 C 0 dL_law_272 rfl rfl rfl ?_
  refine l_iload_n 274 C 3 dL_law_273 rfl rfl rfl ?_
  refine l_iconst 275 C 2 dL_law_274 kc_i_2 rfl ?_
  refine l_iadd 276 C dL_law_275 rfl ?_
  refine l_sld 277 C h dL_law_276 rfl (fun h => ?_)
  obtain ⟨r2, s2, h0, h⟩ := ob2 h
  refine l_call 280 8 C [.int (xs (ix (i + 1))), .int (xs (ix (i + 2)))] (rfl : kK 112 = 8) rfl (fun _ => ⟨_, cel_8 rfl⟩) (c_X12_held (xs (ix (i + 1))) (xs (ix (i + 2))) _ _ h0) cl_X12_held gL_law_X12_held rfl ⟨Nat.le_of_ble_eq_true rfl, Nat.le_of_ble_eq_true rfl⟩ rfl rfl (Nat.le_of_ble_eq_true rfl) dL_law_277 rfl ?_
  refine l_icmp_eq 283 1239 C h dL_law_280 rfl (by decide) (fun h => ?_) (fun h => by cases h)
  exact hx s2 i h
def lf_3 (xs : Nat → Int32) (L : Nat) (nxt : Sg → Int32 → Option Int32) (σ : Sg) (i : Int32) : Option Int32 := (if inb (i + 1) L = true then bnd (f_X11_balance σ (xs (ix (i + 1)))) fun r1 s1 => if inb (i + 1) L = true then bnd (f_X12_balance s1 (xs (ix (i + 1)))) fun r2 s2 => if r1 = r2 then nxt s2 i else some 0 else none else none)
set_option maxRecDepth 100000 in
set_option maxHeartbeats 4000000 in
theorem lq_3 {p : Program} {l : Launch} {e : Env} {s : State} {m : MethodId} {below : List Frame} {meth : Method} {c : Code} {b L : Nat} {xs : Nat → Int32} {g : Cx} (C : LC p s m meth c b L xs g) (nxt : Sg → Int32 → Option Int32) (hx : ∀ σ i, nxt σ i = some 1 → VL p l e s m below meth c b g σ 1239 [(0, .ref b), (1, .ref (g.1 0)), (2, .ref (g.1 112)), (3, .int i)] []) (σ : Sg) (i : Int32) (h : lf_3 xs L nxt σ i = some 1) : VL p l e s m below meth c b g σ 285 [(0, .ref b), (1, .ref (g.1 0)), (2, .ref (g.1 112)), (3, .int i)] [] := by
  unfold lf_3 at h
  refine l_aload_n 286 C 1 dL_law_285 rfl rfl rfl ?_
  refine l_aload_n 287 C 0 dL_law_286 rfl rfl rfl ?_
  refine l_iload_n 288 C 3 dL_law_287 rfl rfl rfl ?_
  refine l_iconst 289 C 1 dL_law_288 kc_i_1 rfl ?_
  refine l_iadd 290 C dL_law_289 rfl ?_
  refine l_sld 291 C h dL_law_290 rfl (fun h => ?_)
  obtain ⟨r1, s1, h0, h⟩ := ob2 h
  refine l_call 294 7 C [.int (xs (ix (i + 1)))] (rfl : kK 0 = 7) rfl (fun _ => ⟨_, cel_7 rfl⟩) (c_X11_balance (xs (ix (i + 1))) _ _ h0) cl_X11_balance gL_law_X11_balance rfl ⟨Nat.le_of_ble_eq_true rfl, Nat.le_of_ble_eq_true rfl⟩ rfl rfl (Nat.le_of_ble_eq_true rfl) dL_law_291 rfl ?_
  refine l_aload_n 295 C 2 dL_law_294 rfl rfl rfl ?_
  refine l_aload_n 296 C 0 dL_law_295 rfl rfl rfl ?_
  refine l_iload_n 297 C 3 dL_law_296 rfl rfl rfl ?_
  refine l_iconst 298 C 1 dL_law_297 kc_i_1 rfl ?_
  refine l_iadd 299 C dL_law_298 rfl ?_
  refine l_sld 300 C h dL_law_299 rfl (fun h => ?_)
  obtain ⟨r2, s2, h0, h⟩ := ob2 h
  refine l_call 303 8 C [.int (xs (ix (i + 1)))] (rfl : kK 112 = 8) rfl (fun _ => ⟨_, cel_8 rfl⟩) (c_X12_balance (xs (ix (i + 1))) _ _ h0) cl_X12_balance gL_law_X12_balance rfl ⟨Nat.le_of_ble_eq_true rfl, Nat.le_of_ble_eq_true rfl⟩ rfl rfl (Nat.le_of_ble_eq_true rfl) dL_law_300 rfl ?_
  refine l_icmp_eq 306 1239 C h dL_law_303 rfl (by decide) (fun h => ?_) (fun h => by cases h)
  exact hx s2 i h
def lf_4 (xs : Nat → Int32) (L : Nat) (nxt : Sg → Int32 → Option Int32) (σ : Sg) (i : Int32) : Option Int32 := (if inb (i + 1) L = true then bnd (f_X11_type σ (xs (ix (i + 1)))) fun r1 s1 => if inb (i + 1) L = true then bnd (f_X12_type s1 (xs (ix (i + 1)))) fun r2 s2 => if r1 = r2 then nxt s2 i else some 0 else none else none)
set_option maxRecDepth 100000 in
set_option maxHeartbeats 4000000 in
theorem lq_4 {p : Program} {l : Launch} {e : Env} {s : State} {m : MethodId} {below : List Frame} {meth : Method} {c : Code} {b L : Nat} {xs : Nat → Int32} {g : Cx} (C : LC p s m meth c b L xs g) (nxt : Sg → Int32 → Option Int32) (hx : ∀ σ i, nxt σ i = some 1 → VL p l e s m below meth c b g σ 1239 [(0, .ref b), (1, .ref (g.1 0)), (2, .ref (g.1 112)), (3, .int i)] []) (σ : Sg) (i : Int32) (h : lf_4 xs L nxt σ i = some 1) : VL p l e s m below meth c b g σ 308 [(0, .ref b), (1, .ref (g.1 0)), (2, .ref (g.1 112)), (3, .int i)] [] := by
  unfold lf_4 at h
  refine l_aload_n 309 C 1 dL_law_308 rfl rfl rfl ?_
  refine l_aload_n 310 C 0 dL_law_309 rfl rfl rfl ?_
  refine l_iload_n 311 C 3 dL_law_310 rfl rfl rfl ?_
  refine l_iconst 312 C 1 dL_law_311 kc_i_1 rfl ?_
  refine l_iadd 313 C dL_law_312 rfl ?_
  refine l_sld 314 C h dL_law_313 rfl (fun h => ?_)
  obtain ⟨r1, s1, h0, h⟩ := ob2 h
  refine l_call 317 7 C [.int (xs (ix (i + 1)))] (rfl : kK 0 = 7) rfl (fun _ => ⟨_, cel_7 rfl⟩) (c_X11_type (xs (ix (i + 1))) _ _ h0) cl_X11_type gL_law_X11_type rfl ⟨Nat.le_of_ble_eq_true rfl, Nat.le_of_ble_eq_true rfl⟩ rfl rfl (Nat.le_of_ble_eq_true rfl) dL_law_314 rfl ?_
  refine l_aload_n 318 C 2 dL_law_317 rfl rfl rfl ?_
  refine l_aload_n 319 C 0 dL_law_318 rfl rfl rfl ?_
  refine l_iload_n 320 C 3 dL_law_319 rfl rfl rfl ?_
  refine l_iconst 321 C 1 dL_law_320 kc_i_1 rfl ?_
  refine l_iadd 322 C dL_law_321 rfl ?_
  refine l_sld 323 C h dL_law_322 rfl (fun h => ?_)
  obtain ⟨r2, s2, h0, h⟩ := ob2 h
  refine l_call 326 8 C [.int (xs (ix (i + 1)))] (rfl : kK 112 = 8) rfl (fun _ => ⟨_, cel_8 rfl⟩) (c_X12_type (xs (ix (i + 1))) _ _ h0) cl_X12_type gL_law_X12_type rfl ⟨Nat.le_of_ble_eq_true rfl, Nat.le_of_ble_eq_true rfl⟩ rfl rfl (Nat.le_of_ble_eq_true rfl) dL_law_323 rfl ?_
  refine l_icmp_eq 329 1239 C h dL_law_326 rfl (by decide) (fun h => ?_) (fun h => by cases h)
  exact hx s2 i h
def lf_5 (xs : Nat → Int32) (L : Nat) (nxt : Sg → Int32 → Option Int32) (σ : Sg) (i : Int32) : Option Int32 := (bnd (f_X11_clear σ) fun r1 s1 => bnd (f_X12_clear s1) fun r2 s2 => if r1 = r2 then nxt s2 i else some 0)
set_option maxRecDepth 100000 in
set_option maxHeartbeats 4000000 in
theorem lq_5 {p : Program} {l : Launch} {e : Env} {s : State} {m : MethodId} {below : List Frame} {meth : Method} {c : Code} {b L : Nat} {xs : Nat → Int32} {g : Cx} (C : LC p s m meth c b L xs g) (nxt : Sg → Int32 → Option Int32) (hx : ∀ σ i, nxt σ i = some 1 → VL p l e s m below meth c b g σ 1239 [(0, .ref b), (1, .ref (g.1 0)), (2, .ref (g.1 112)), (3, .int i)] []) (σ : Sg) (i : Int32) (h : lf_5 xs L nxt σ i = some 1) : VL p l e s m below meth c b g σ 331 [(0, .ref b), (1, .ref (g.1 0)), (2, .ref (g.1 112)), (3, .int i)] [] := by
  unfold lf_5 at h
  refine l_aload_n 332 C 1 dL_law_331 rfl rfl rfl ?_
  obtain ⟨r1, s1, h0, h⟩ := ob2 h
  refine l_call 335 7 C [] (rfl : kK 0 = 7) rfl (fun _ => ⟨_, cel_7 rfl⟩) (c_X11_clear _ _ h0) cl_X11_clear gL_law_X11_clear rfl ⟨Nat.le_of_ble_eq_true rfl, Nat.le_of_ble_eq_true rfl⟩ rfl rfl (Nat.le_of_ble_eq_true rfl) dL_law_332 rfl ?_
  refine l_aload_n 336 C 2 dL_law_335 rfl rfl rfl ?_
  obtain ⟨r2, s2, h0, h⟩ := ob2 h
  refine l_call 339 8 C [] (rfl : kK 112 = 8) rfl (fun _ => ⟨_, cel_8 rfl⟩) (c_X12_clear _ _ h0) cl_X12_clear gL_law_X12_clear rfl ⟨Nat.le_of_ble_eq_true rfl, Nat.le_of_ble_eq_true rfl⟩ rfl rfl (Nat.le_of_ble_eq_true rfl) dL_law_336 rfl ?_
  refine l_icmp_eq 342 1239 C h dL_law_339 rfl (by decide) (fun h => ?_) (fun h => by cases h)
  exact hx s2 i h
def lf_6 (xs : Nat → Int32) (L : Nat) (nxt : Sg → Int32 → Option Int32) (σ : Sg) (i : Int32) : Option Int32 := (bnd (f_X11_read σ) fun r1 s1 => bnd (f_X12_read s1) fun r2 s2 => if r1 = r2 then nxt s2 i else some 0)
set_option maxRecDepth 100000 in
set_option maxHeartbeats 4000000 in
theorem lq_6 {p : Program} {l : Launch} {e : Env} {s : State} {m : MethodId} {below : List Frame} {meth : Method} {c : Code} {b L : Nat} {xs : Nat → Int32} {g : Cx} (C : LC p s m meth c b L xs g) (nxt : Sg → Int32 → Option Int32) (hx : ∀ σ i, nxt σ i = some 1 → VL p l e s m below meth c b g σ 1239 [(0, .ref b), (1, .ref (g.1 0)), (2, .ref (g.1 112)), (3, .int i)] []) (σ : Sg) (i : Int32) (h : lf_6 xs L nxt σ i = some 1) : VL p l e s m below meth c b g σ 344 [(0, .ref b), (1, .ref (g.1 0)), (2, .ref (g.1 112)), (3, .int i)] [] := by
  unfold lf_6 at h
  refine l_aload_n 345 C 1 dL_law_344 rfl rfl rfl ?_
  obtain ⟨r1, s1, h0, h⟩ := ob2 h
  refine l_call 348 7 C [] (rfl : kK 0 = 7) rfl (fun _ => ⟨_, cel_7 rfl⟩) (c_X11_read _ _ h0) cl_X11_read gL_law_X11_read rfl ⟨Nat.le_of_ble_eq_true rfl, Nat.le_of_ble_eq_true rfl⟩ rfl rfl (Nat.le_of_ble_eq_true rfl) dL_law_345 rfl ?_
  refine l_aload_n 349 C 2 dL_law_348 rfl rfl rfl ?_
  obtain ⟨r2, s2, h0, h⟩ := ob2 h
  refine l_call 352 8 C [] (rfl : kK 112 = 8) rfl (fun _ => ⟨_, cel_8 rfl⟩) (c_X12_read _ _ h0) cl_X12_read gL_law_X12_read rfl ⟨Nat.le_of_ble_eq_true rfl, Nat.le_of_ble_eq_true rfl⟩ rfl rfl (Nat.le_of_ble_eq_true rfl) dL_law_349 rfl ?_
  refine l_icmp_eq 355 1239 C h dL_law_352 rfl (by decide) (fun h => ?_) (fun h => by cases h)
  exact hx s2 i h
def lf_7 (xs : Nat → Int32) (L : Nat) (nxt : Sg → Int32 → Option Int32) (σ : Sg) (i : Int32) : Option Int32 := (if inb (i + 1) L = true then if inb (i + 2) L = true then bnd (f_X11_visit σ (xs (ix (i + 1))) (xs (ix (i + 2)))) fun r1 s1 => if inb (i + 1) L = true then if inb (i + 2) L = true then bnd (f_X12_visit s1 (xs (ix (i + 1))) (xs (ix (i + 2)))) fun r2 s2 => if r1 = r2 then nxt s2 i else some 0 else none else none else none else none)
set_option maxRecDepth 100000 in
set_option maxHeartbeats 4000000 in
theorem lq_7 {p : Program} {l : Launch} {e : Env} {s : State} {m : MethodId} {below : List Frame} {meth : Method} {c : Code} {b L : Nat} {xs : Nat → Int32} {g : Cx} (C : LC p s m meth c b L xs g) (nxt : Sg → Int32 → Option Int32) (hx : ∀ σ i, nxt σ i = some 1 → VL p l e s m below meth c b g σ 1239 [(0, .ref b), (1, .ref (g.1 0)), (2, .ref (g.1 112)), (3, .int i)] []) (σ : Sg) (i : Int32) (h : lf_7 xs L nxt σ i = some 1) : VL p l e s m below meth c b g σ 357 [(0, .ref b), (1, .ref (g.1 0)), (2, .ref (g.1 112)), (3, .int i)] [] := by
  unfold lf_7 at h
  refine l_aload_n 358 C 1 dL_law_357 rfl rfl rfl ?_
  refine l_aload_n 359 C 0 dL_law_358 rfl rfl rfl ?_
  refine l_iload_n 360 C 3 dL_law_359 rfl rfl rfl ?_
  refine l_iconst 361 C 1 dL_law_360 kc_i_1 rfl ?_
  refine l_iadd 362 C dL_law_361 rfl ?_
  refine l_sld 363 C h dL_law_362 rfl (fun h => ?_)
  refine l_aload_n 364 C 0 dL_law_363 rfl rfl rfl ?_
  refine l_iload_n 365 C 3 dL_law_364 rfl rfl rfl ?_
  refine l_iconst 366 C 2 dL_law_365 kc_i_2 rfl ?_
  refine l_iadd 367 C dL_law_366 rfl ?_
  refine l_sld 368 C h dL_law_367 rfl (fun h => ?_)
  obtain ⟨r1, s1, h0, h⟩ := ob2 h
  refine l_call 371 7 C [.int (xs (ix (i + 1))), .int (xs (ix (i + 2)))] (rfl : kK 0 = 7) rfl (fun _ => ⟨_, cel_7 rfl⟩) (c_X11_visit (xs (ix (i + 1))) (xs (ix (i + 2))) _ _ h0) cl_X11_visit gL_law_X11_visit rfl ⟨Nat.le_of_ble_eq_true rfl, Nat.le_of_ble_eq_true rfl⟩ rfl rfl (Nat.le_of_ble_eq_true rfl) dL_law_368 rfl ?_
  refine l_aload_n 372 C 2 dL_law_371 rfl rfl rfl ?_
  refine l_aload_n 373 C 0 dL_law_372 rfl rfl rfl ?_
  refine l_iload_n 374 C 3 dL_law_373 rfl rfl rfl ?_
  refine l_iconst 375 C 1 dL_law_374 kc_i_1 rfl ?_
  refine l_iadd 376 C dL_law_375 rfl ?_
  refine l_sld 377 C h dL_law_376 rfl (fun h => ?_)
  refine l_aload_n 378 C 0 dL_law_377 rfl rfl rfl ?_
  refine l_iload_n 379 C 3 dL_law_378 rfl rfl rfl ?_
  refine l_iconst 380 C 2 dL_law_379 kc_i_2 rfl ?_
  refine l_iadd 381 C dL_law_380 rfl ?_
  refine l_sld 382 C h dL_law_381 rfl (fun h => ?_)
  obtain ⟨r2, s2, h0, h⟩ := ob2 h
  refine l_call 385 8 C [.int (xs (ix (i + 1))), .int (xs (ix (i + 2)))] (rfl : kK 112 = 8) rfl (fun _ => ⟨_, cel_8 rfl⟩) (c_X12_visit (xs (ix (i + 1))) (xs (ix (i + 2))) _ _ h0) cl_X12_visit gL_law_X12_visit rfl ⟨Nat.le_of_ble_eq_true rfl, Nat.le_of_ble_eq_true rfl⟩ rfl rfl (Nat.le_of_ble_eq_true rfl) dL_law_382 rfl ?_
  refine l_icmp_eq 388 1239 C h dL_law_385 rfl (by decide) (fun h => ?_) (fun h => by cases h)
  exact hx s2 i h
def lf_8 (xs : Nat → Int32) (L : Nat) (nxt : Sg → Int32 → Option Int32) (σ : Sg) (i : Int32) : Option Int32 := (if inb (i + 1) L = true then bnd (f_X11_day σ (xs (ix (i + 1)))) fun r1 s1 => if inb (i + 1) L = true then bnd (f_X12_day s1 (xs (ix (i + 1)))) fun r2 s2 => if r1 = r2 then nxt s2 i else some 0 else none else none)
set_option maxRecDepth 100000 in
set_option maxHeartbeats 4000000 in
theorem lq_8 {p : Program} {l : Launch} {e : Env} {s : State} {m : MethodId} {below : List Frame} {meth : Method} {c : Code} {b L : Nat} {xs : Nat → Int32} {g : Cx} (C : LC p s m meth c b L xs g) (nxt : Sg → Int32 → Option Int32) (hx : ∀ σ i, nxt σ i = some 1 → VL p l e s m below meth c b g σ 1239 [(0, .ref b), (1, .ref (g.1 0)), (2, .ref (g.1 112)), (3, .int i)] []) (σ : Sg) (i : Int32) (h : lf_8 xs L nxt σ i = some 1) : VL p l e s m below meth c b g σ 390 [(0, .ref b), (1, .ref (g.1 0)), (2, .ref (g.1 112)), (3, .int i)] [] := by
  unfold lf_8 at h
  refine l_aload_n 391 C 1 dL_law_390 rfl rfl rfl ?_
  refine l_aload_n 392 C 0 dL_law_391 rfl rfl rfl ?_
  refine l_iload_n 393 C 3 dL_law_392 rfl rfl rfl ?_
  refine l_iconst 394 C 1 dL_law_393 kc_i_1 rfl ?_
  refine l_iadd 395 C dL_law_394 rfl ?_
  refine l_sld 396 C h dL_law_395 rfl (fun h => ?_)
  obtain ⟨r1, s1, h0, h⟩ := ob2 h
  refine l_call 399 7 C [.int (xs (ix (i + 1)))] (rfl : kK 0 = 7) rfl (fun _ => ⟨_, cel_7 rfl⟩) (c_X11_day (xs (ix (i + 1))) _ _ h0) cl_X11_day gL_law_X11_day rfl ⟨Nat.le_of_ble_eq_true rfl, Nat.le_of_ble_eq_true rfl⟩ rfl rfl (Nat.le_of_ble_eq_true rfl) dL_law_396 rfl ?_
  refine l_aload_n 400 C 2 dL_law_399 rfl rfl rfl ?_
  refine l_aload_n 401 C 0 dL_law_400 rfl rfl rfl ?_
  refine l_iload_n 402 C 3 dL_law_401 rfl rfl rfl ?_
  refine l_iconst 403 C 1 dL_law_402 kc_i_1 rfl ?_
  refine l_iadd 404 C dL_law_403 rfl ?_
  refine l_sld 405 C h dL_law_404 rfl (fun h => ?_)
  obtain ⟨r2, s2, h0, h⟩ := ob2 h
  refine l_call 408 8 C [.int (xs (ix (i + 1)))] (rfl : kK 112 = 8) rfl (fun _ => ⟨_, cel_8 rfl⟩) (c_X12_day (xs (ix (i + 1))) _ _ h0) cl_X12_day gL_law_X12_day rfl ⟨Nat.le_of_ble_eq_true rfl, Nat.le_of_ble_eq_true rfl⟩ rfl rfl (Nat.le_of_ble_eq_true rfl) dL_law_405 rfl ?_
  refine l_icmp_eq 411 1239 C h dL_law_408 rfl (by decide) (fun h => ?_) (fun h => by cases h)
  exact hx s2 i h
def lf_9 (xs : Nat → Int32) (L : Nat) (nxt : Sg → Int32 → Option Int32) (σ : Sg) (i : Int32) : Option Int32 := (bnd (f_X11_undo σ) fun r1 s1 => bnd (f_X12_undo s1) fun r2 s2 => if r1 = r2 then nxt s2 i else some 0)
set_option maxRecDepth 100000 in
set_option maxHeartbeats 4000000 in
theorem lq_9 {p : Program} {l : Launch} {e : Env} {s : State} {m : MethodId} {below : List Frame} {meth : Method} {c : Code} {b L : Nat} {xs : Nat → Int32} {g : Cx} (C : LC p s m meth c b L xs g) (nxt : Sg → Int32 → Option Int32) (hx : ∀ σ i, nxt σ i = some 1 → VL p l e s m below meth c b g σ 1239 [(0, .ref b), (1, .ref (g.1 0)), (2, .ref (g.1 112)), (3, .int i)] []) (σ : Sg) (i : Int32) (h : lf_9 xs L nxt σ i = some 1) : VL p l e s m below meth c b g σ 413 [(0, .ref b), (1, .ref (g.1 0)), (2, .ref (g.1 112)), (3, .int i)] [] := by
  unfold lf_9 at h
  refine l_aload_n 414 C 1 dL_law_413 rfl rfl rfl ?_
  obtain ⟨r1, s1, h0, h⟩ := ob2 h
  refine l_call 417 7 C [] (rfl : kK 0 = 7) rfl (fun _ => ⟨_, cel_7 rfl⟩) (c_X11_undo _ _ h0) cl_X11_undo gL_law_X11_undo rfl ⟨Nat.le_of_ble_eq_true rfl, Nat.le_of_ble_eq_true rfl⟩ rfl rfl (Nat.le_of_ble_eq_true rfl) dL_law_414 rfl ?_
  refine l_aload_n 418 C 2 dL_law_417 rfl rfl rfl ?_
  obtain ⟨r2, s2, h0, h⟩ := ob2 h
  refine l_call 421 8 C [] (rfl : kK 112 = 8) rfl (fun _ => ⟨_, cel_8 rfl⟩) (c_X12_undo _ _ h0) cl_X12_undo gL_law_X12_undo rfl ⟨Nat.le_of_ble_eq_true rfl, Nat.le_of_ble_eq_true rfl⟩ rfl rfl (Nat.le_of_ble_eq_true rfl) dL_law_418 rfl ?_
  refine l_icmp_eq 424 1239 C h dL_law_421 rfl (by decide) (fun h => ?_) (fun h => by cases h)
  exact hx s2 i h
def lf_10 (xs : Nat → Int32) (L : Nat) (nxt : Sg → Int32 → Option Int32) (σ : Sg) (i : Int32) : Option Int32 := (if inb (i + 1) L = true then if inb (i + 2) L = true then bnd (f_X11_of σ (xs (ix (i + 1))) (xs (ix (i + 2)))) fun r1 s1 => if inb (i + 1) L = true then if inb (i + 2) L = true then bnd (f_X12_of s1 (xs (ix (i + 1))) (xs (ix (i + 2)))) fun r2 s2 => if r1 = r2 then nxt s2 i else some 0 else none else none else none else none)
set_option maxRecDepth 100000 in
set_option maxHeartbeats 4000000 in
theorem lq_10 {p : Program} {l : Launch} {e : Env} {s : State} {m : MethodId} {below : List Frame} {meth : Method} {c : Code} {b L : Nat} {xs : Nat → Int32} {g : Cx} (C : LC p s m meth c b L xs g) (nxt : Sg → Int32 → Option Int32) (hx : ∀ σ i, nxt σ i = some 1 → VL p l e s m below meth c b g σ 1239 [(0, .ref b), (1, .ref (g.1 0)), (2, .ref (g.1 112)), (3, .int i)] []) (σ : Sg) (i : Int32) (h : lf_10 xs L nxt σ i = some 1) : VL p l e s m below meth c b g σ 426 [(0, .ref b), (1, .ref (g.1 0)), (2, .ref (g.1 112)), (3, .int i)] [] := by
  unfold lf_10 at h
  refine l_aload_n 427 C 1 dL_law_426 rfl rfl rfl ?_
  refine l_aload_n 428 C 0 dL_law_427 rfl rfl rfl ?_
  refine l_iload_n 429 C 3 dL_law_428 rfl rfl rfl ?_
  refine l_iconst 430 C 1 dL_law_429 kc_i_1 rfl ?_
  refine l_iadd 431 C dL_law_430 rfl ?_
  refine l_sld 432 C h dL_law_431 rfl (fun h => ?_)
  refine l_aload_n 433 C 0 dL_law_432 rfl rfl rfl ?_
  refine l_iload_n 434 C 3 dL_law_433 rfl rfl rfl ?_
  refine l_iconst 435 C 2 dL_law_434 kc_i_2 rfl ?_
  refine l_iadd 436 C dL_law_435 rfl ?_
  refine l_sld 437 C h dL_law_436 rfl (fun h => ?_)
  obtain ⟨r1, s1, h0, h⟩ := ob2 h
  refine l_call 440 7 C [.int (xs (ix (i + 1))), .int (xs (ix (i + 2)))] (rfl : kK 0 = 7) rfl (fun _ => ⟨_, cel_7 rfl⟩) (c_X11_of (xs (ix (i + 1))) (xs (ix (i + 2))) _ _ h0) cl_X11_of gL_law_X11_of rfl ⟨Nat.le_of_ble_eq_true rfl, Nat.le_of_ble_eq_true rfl⟩ rfl rfl (Nat.le_of_ble_eq_true rfl) dL_law_437 rfl ?_
  refine l_aload_n 441 C 2 dL_law_440 rfl rfl rfl ?_
  refine l_aload_n 442 C 0 dL_law_441 rfl rfl rfl ?_
  refine l_iload_n 443 C 3 dL_law_442 rfl rfl rfl ?_
  refine l_iconst 444 C 1 dL_law_443 kc_i_1 rfl ?_
  refine l_iadd 445 C dL_law_444 rfl ?_
  refine l_sld 446 C h dL_law_445 rfl (fun h => ?_)
  refine l_aload_n 447 C 0 dL_law_446 rfl rfl rfl ?_
  refine l_iload_n 448 C 3 dL_law_447 rfl rfl rfl ?_
  refine l_iconst 449 C 2 dL_law_448 kc_i_2 rfl ?_
  refine l_iadd 450 C dL_law_449 rfl ?_
  refine l_sld 451 C h dL_law_450 rfl (fun h => ?_)
  obtain ⟨r2, s2, h0, h⟩ := ob2 h
  refine l_call 454 8 C [.int (xs (ix (i + 1))), .int (xs (ix (i + 2)))] (rfl : kK 112 = 8) rfl (fun _ => ⟨_, cel_8 rfl⟩) (c_X12_of (xs (ix (i + 1))) (xs (ix (i + 2))) _ _ h0) cl_X12_of gL_law_X12_of rfl ⟨Nat.le_of_ble_eq_true rfl, Nat.le_of_ble_eq_true rfl⟩ rfl rfl (Nat.le_of_ble_eq_true rfl) dL_law_451 rfl ?_
  refine l_icmp_eq 457 1239 C h dL_law_454 rfl (by decide) (fun h => ?_) (fun h => by cases h)
  exact hx s2 i h
def lf_11 (xs : Nat → Int32) (L : Nat) (nxt : Sg → Int32 → Option Int32) (σ : Sg) (i : Int32) : Option Int32 := (if inb (i + 1) L = true then if inb (i + 2) L = true then bnd (f_X11_then σ (xs (ix (i + 1))) (xs (ix (i + 2)))) fun r1 s1 => if inb (i + 1) L = true then if inb (i + 2) L = true then bnd (f_X12_then s1 (xs (ix (i + 1))) (xs (ix (i + 2)))) fun r2 s2 => if r1 = r2 then nxt s2 i else some 0 else none else none else none else none)
set_option maxRecDepth 100000 in
set_option maxHeartbeats 4000000 in
theorem lq_11 {p : Program} {l : Launch} {e : Env} {s : State} {m : MethodId} {below : List Frame} {meth : Method} {c : Code} {b L : Nat} {xs : Nat → Int32} {g : Cx} (C : LC p s m meth c b L xs g) (nxt : Sg → Int32 → Option Int32) (hx : ∀ σ i, nxt σ i = some 1 → VL p l e s m below meth c b g σ 1239 [(0, .ref b), (1, .ref (g.1 0)), (2, .ref (g.1 112)), (3, .int i)] []) (σ : Sg) (i : Int32) (h : lf_11 xs L nxt σ i = some 1) : VL p l e s m below meth c b g σ 459 [(0, .ref b), (1, .ref (g.1 0)), (2, .ref (g.1 112)), (3, .int i)] [] := by
  unfold lf_11 at h
  refine l_aload_n 460 C 1 dL_law_459 rfl rfl rfl ?_
  refine l_aload_n 461 C 0 dL_law_460 rfl rfl rfl ?_
  refine l_iload_n 462 C 3 dL_law_461 rfl rfl rfl ?_
  refine l_iconst 463 C 1 dL_law_462 kc_i_1 rfl ?_
  refine l_iadd 464 C dL_law_463 rfl ?_
  refine l_sld 465 C h dL_law_464 rfl (fun h => ?_)
  refine l_aload_n 466 C 0 dL_law_465 rfl rfl rfl ?_
  refine l_iload_n 467 C 3 dL_law_466 rfl rfl rfl ?_
  refine l_iconst 468 C 2 dL_law_467 kc_i_2 rfl ?_
  refine l_iadd 469 C dL_law_468 rfl ?_
  refine l_sld 470 C h dL_law_469 rfl (fun h => ?_)
  obtain ⟨r1, s1, h0, h⟩ := ob2 h
  refine l_call 473 7 C [.int (xs (ix (i + 1))), .int (xs (ix (i + 2)))] (rfl : kK 0 = 7) rfl (fun _ => ⟨_, cel_7 rfl⟩) (c_X11_then (xs (ix (i + 1))) (xs (ix (i + 2))) _ _ h0) cl_X11_then gL_law_X11_then rfl ⟨Nat.le_of_ble_eq_true rfl, Nat.le_of_ble_eq_true rfl⟩ rfl rfl (Nat.le_of_ble_eq_true rfl) dL_law_470 rfl ?_
  refine l_aload_n 474 C 2 dL_law_473 rfl rfl rfl ?_
  refine l_aload_n 475 C 0 dL_law_474 rfl rfl rfl ?_
  refine l_iload_n 476 C 3 dL_law_475 rfl rfl rfl ?_
  refine l_iconst 477 C 1 dL_law_476 kc_i_1 rfl ?_
  refine l_iadd 478 C dL_law_477 rfl ?_
  refine l_sld 479 C h dL_law_478 rfl (fun h => ?_)
  refine l_aload_n 480 C 0 dL_law_479 rfl rfl rfl ?_
  refine l_iload_n 481 C 3 dL_law_480 rfl rfl rfl ?_
  refine l_iconst 482 C 2 dL_law_481 kc_i_2 rfl ?_
  refine l_iadd 483 C dL_law_482 rfl ?_
  refine l_sld 484 C h dL_law_483 rfl (fun h => ?_)
  obtain ⟨r2, s2, h0, h⟩ := ob2 h
  refine l_call 487 8 C [.int (xs (ix (i + 1))), .int (xs (ix (i + 2)))] (rfl : kK 112 = 8) rfl (fun _ => ⟨_, cel_8 rfl⟩) (c_X12_then (xs (ix (i + 1))) (xs (ix (i + 2))) _ _ h0) cl_X12_then gL_law_X12_then rfl ⟨Nat.le_of_ble_eq_true rfl, Nat.le_of_ble_eq_true rfl⟩ rfl rfl (Nat.le_of_ble_eq_true rfl) dL_law_484 rfl ?_
  refine l_icmp_eq 490 1239 C h dL_law_487 rfl (by decide) (fun h => ?_) (fun h => by cases h)
  exact hx s2 i h
def lf_12 (xs : Nat → Int32) (L : Nat) (nxt : Sg → Int32 → Option Int32) (σ : Sg) (i : Int32) : Option Int32 := (if inb (i + 1) L = true then if inb (i + 2) L = true then bnd (f_X11_off σ (xs (ix (i + 1))) (xs (ix (i + 2)))) fun r1 s1 => if inb (i + 1) L = true then if inb (i + 2) L = true then bnd (f_X12_off s1 (xs (ix (i + 1))) (xs (ix (i + 2)))) fun r2 s2 => if r1 = r2 then nxt s2 i else some 0 else none else none else none else none)
set_option maxRecDepth 100000 in
set_option maxHeartbeats 4000000 in
theorem lq_12 {p : Program} {l : Launch} {e : Env} {s : State} {m : MethodId} {below : List Frame} {meth : Method} {c : Code} {b L : Nat} {xs : Nat → Int32} {g : Cx} (C : LC p s m meth c b L xs g) (nxt : Sg → Int32 → Option Int32) (hx : ∀ σ i, nxt σ i = some 1 → VL p l e s m below meth c b g σ 1239 [(0, .ref b), (1, .ref (g.1 0)), (2, .ref (g.1 112)), (3, .int i)] []) (σ : Sg) (i : Int32) (h : lf_12 xs L nxt σ i = some 1) : VL p l e s m below meth c b g σ 492 [(0, .ref b), (1, .ref (g.1 0)), (2, .ref (g.1 112)), (3, .int i)] [] := by
  unfold lf_12 at h
  refine l_aload_n 493 C 1 dL_law_492 rfl rfl rfl ?_
  refine l_aload_n 494 C 0 dL_law_493 rfl rfl rfl ?_
  refine l_iload_n 495 C 3 dL_law_494 rfl rfl rfl ?_
  refine l_iconst 496 C 1 dL_law_495 kc_i_1 rfl ?_
  refine l_iadd 497 C dL_law_496 rfl ?_
  refine l_sld 498 C h dL_law_497 rfl (fun h => ?_)
  refine l_aload_n 499 C 0 dL_law_498 rfl rfl rfl ?_
  refine l_iload_n 500 C 3 dL_law_499 rfl rfl rfl ?_
  refine l_iconst 501 C 2 dL_law_500 kc_i_2 rfl ?_
  refine l_iadd 502 C dL_law_501 rfl ?_
  refine l_sld 503 C h dL_law_502 rfl (fun h => ?_)
  obtain ⟨r1, s1, h0, h⟩ := ob2 h
  refine l_call 506 7 C [.int (xs (ix (i + 1))), .int (xs (ix (i + 2)))] (rfl : kK 0 = 7) rfl (fun _ => ⟨_, cel_7 rfl⟩) (c_X11_off (xs (ix (i + 1))) (xs (ix (i + 2))) _ _ h0) cl_X11_off gL_law_X11_off rfl ⟨Nat.le_of_ble_eq_true rfl, Nat.le_of_ble_eq_true rfl⟩ rfl rfl (Nat.le_of_ble_eq_true rfl) dL_law_503 rfl ?_
  refine l_aload_n 507 C 2 dL_law_506 rfl rfl rfl ?_
  refine l_aload_n 508 C 0 dL_law_507 rfl rfl rfl ?_
  refine l_iload_n 509 C 3 dL_law_508 rfl rfl rfl ?_
  refine l_iconst 510 C 1 dL_law_509 kc_i_1 rfl ?_
  refine l_iadd 511 C dL_law_510 rfl ?_
  refine l_sld 512 C h dL_law_511 rfl (fun h => ?_)
  refine l_aload_n 513 C 0 dL_law_512 rfl rfl rfl ?_
  refine l_iload_n 514 C 3 dL_law_513 rfl rfl rfl ?_
  refine l_iconst 515 C 2 dL_law_514 kc_i_2 rfl ?_
  refine l_iadd 516 C dL_law_515 rfl ?_
  refine l_sld 517 C h dL_law_516 rfl (fun h => ?_)
  obtain ⟨r2, s2, h0, h⟩ := ob2 h
  refine l_call 520 8 C [.int (xs (ix (i + 1))), .int (xs (ix (i + 2)))] (rfl : kK 112 = 8) rfl (fun _ => ⟨_, cel_8 rfl⟩) (c_X12_off (xs (ix (i + 1))) (xs (ix (i + 2))) _ _ h0) cl_X12_off gL_law_X12_off rfl ⟨Nat.le_of_ble_eq_true rfl, Nat.le_of_ble_eq_true rfl⟩ rfl rfl (Nat.le_of_ble_eq_true rfl) dL_law_517 rfl ?_
  refine l_icmp_eq 523 1239 C h dL_law_520 rfl (by decide) (fun h => ?_) (fun h => by cases h)
  exact hx s2 i h
def lf_13 (xs : Nat → Int32) (L : Nat) (nxt : Sg → Int32 → Option Int32) (σ : Sg) (i : Int32) : Option Int32 := (if inb (i + 1) L = true then if inb (i + 2) L = true then if inb (i + 3) L = true then bnd (f_X11_load σ (xs (ix (i + 1))) (xs (ix (i + 2))) (xs (ix (i + 3)))) fun r1 s1 => if inb (i + 1) L = true then if inb (i + 2) L = true then if inb (i + 3) L = true then bnd (f_X12_load s1 (xs (ix (i + 1))) (xs (ix (i + 2))) (xs (ix (i + 3)))) fun r2 s2 => if r1 = r2 then nxt s2 i else some 0 else none else none else none else none else none else none)
set_option maxRecDepth 100000 in
set_option maxHeartbeats 4000000 in
theorem lq_13 {p : Program} {l : Launch} {e : Env} {s : State} {m : MethodId} {below : List Frame} {meth : Method} {c : Code} {b L : Nat} {xs : Nat → Int32} {g : Cx} (C : LC p s m meth c b L xs g) (nxt : Sg → Int32 → Option Int32) (hx : ∀ σ i, nxt σ i = some 1 → VL p l e s m below meth c b g σ 1239 [(0, .ref b), (1, .ref (g.1 0)), (2, .ref (g.1 112)), (3, .int i)] []) (σ : Sg) (i : Int32) (h : lf_13 xs L nxt σ i = some 1) : VL p l e s m below meth c b g σ 525 [(0, .ref b), (1, .ref (g.1 0)), (2, .ref (g.1 112)), (3, .int i)] [] := by
  unfold lf_13 at h
  refine l_aload_n 526 C 1 dL_law_525 rfl rfl rfl ?_
  refine l_aload_n 527 C 0 dL_law_526 rfl rfl rfl ?_
  refine l_iload_n 528 C 3 dL_law_527 rfl rfl rfl ?_
  refine l_iconst 529 C 1 dL_law_528 kc_i_1 rfl ?_
  refine l_iadd 530 C dL_law_529 rfl ?_
  refine l_sld 531 C h dL_law_530 rfl (fun h => ?_)
  refine l_aload_n 532 C 0 dL_law_531 rfl rfl rfl ?_
  refine l_iload_n 533 C 3 dL_law_532 rfl rfl rfl ?_
  refine l_iconst 534 C 2 dL_law_533 kc_i_2 rfl ?_
  refine l_iadd 535 C dL_law_534 rfl ?_
  refine l_sld 536 C h dL_law_535 rfl (fun h => ?_)
  refine l_aload_n 537 C 0 dL_law_536 rfl rfl rfl ?_
  refine l_iload_n 538 C 3 dL_law_537 rfl rfl rfl ?_
  refine l_iconst 539 C 3 dL_law_538 kc_i_3 rfl ?_
  refine l_iadd 540 C dL_law_539 rfl ?_
  refine l_sld 541 C h dL_law_540 rfl (fun h => ?_)
  obtain ⟨r1, s1, h0, h⟩ := ob2 h
  refine l_call 544 7 C [.int (xs (ix (i + 1))), .int (xs (ix (i + 2))), .int (xs (ix (i + 3)))] (rfl : kK 0 = 7) rfl (fun _ => ⟨_, cel_7 rfl⟩) (c_X11_load (xs (ix (i + 1))) (xs (ix (i + 2))) (xs (ix (i + 3))) _ _ h0) cl_X11_load gL_law_X11_load rfl ⟨Nat.le_of_ble_eq_true rfl, Nat.le_of_ble_eq_true rfl⟩ rfl rfl (Nat.le_of_ble_eq_true rfl) dL_law_541 rfl ?_
  refine l_aload_n 545 C 2 dL_law_544 rfl rfl rfl ?_
  refine l_aload_n 546 C 0 dL_law_545 rfl rfl rfl ?_
  refine l_iload_n 547 C 3 dL_law_546 rfl rfl rfl ?_
  refine l_iconst 548 C 1 dL_law_547 kc_i_1 rfl ?_
  refine l_iadd 549 C dL_law_548 rfl ?_
  refine l_sld 550 C h dL_law_549 rfl (fun h => ?_)
  refine l_aload_n 551 C 0 dL_law_550 rfl rfl rfl ?_
  refine l_iload_n 552 C 3 dL_law_551 rfl rfl rfl ?_
  refine l_iconst 553 C 2 dL_law_552 kc_i_2 rfl ?_
  refine l_iadd 554 C dL_law_553 rfl ?_
  refine l_sld 555 C h dL_law_554 rfl (fun h => ?_)
  refine l_aload_n 556 C 0 dL_law_555 rfl rfl rfl ?_
  refine l_iload_n 557 C 3 dL_law_556 rfl rfl rfl ?_
  refine l_iconst 558 C 3 dL_law_557 kc_i_3 rfl ?_
  refine l_iadd 559 C dL_law_558 rfl ?_
  refine l_sld 560 C h dL_law_559 rfl (fun h => ?_)
  obtain ⟨r2, s2, h0, h⟩ := ob2 h
  refine l_call 563 8 C [.int (xs (ix (i + 1))), .int (xs (ix (i + 2))), .int (xs (ix (i + 3)))] (rfl : kK 112 = 8) rfl (fun _ => ⟨_, cel_8 rfl⟩) (c_X12_load (xs (ix (i + 1))) (xs (ix (i + 2))) (xs (ix (i + 3))) _ _ h0) cl_X12_load gL_law_X12_load rfl ⟨Nat.le_of_ble_eq_true rfl, Nat.le_of_ble_eq_true rfl⟩ rfl rfl (Nat.le_of_ble_eq_true rfl) dL_law_560 rfl ?_
  refine l_icmp_eq 566 1239 C h dL_law_563 rfl (by decide) (fun h => ?_) (fun h => by cases h)
  exact hx s2 i h
def lf_14 (xs : Nat → Int32) (L : Nat) (nxt : Sg → Int32 → Option Int32) (σ : Sg) (i : Int32) : Option Int32 := (if inb (i + 1) L = true then if inb (i + 2) L = true then bnd (f_X11_gain σ (xs (ix (i + 1))) (xs (ix (i + 2)))) fun r1 s1 => if inb (i + 1) L = true then if inb (i + 2) L = true then bnd (f_X12_gain s1 (xs (ix (i + 1))) (xs (ix (i + 2)))) fun r2 s2 => if r1 = r2 then nxt s2 i else some 0 else none else none else none else none)
set_option maxRecDepth 100000 in
set_option maxHeartbeats 4000000 in
theorem lq_14 {p : Program} {l : Launch} {e : Env} {s : State} {m : MethodId} {below : List Frame} {meth : Method} {c : Code} {b L : Nat} {xs : Nat → Int32} {g : Cx} (C : LC p s m meth c b L xs g) (nxt : Sg → Int32 → Option Int32) (hx : ∀ σ i, nxt σ i = some 1 → VL p l e s m below meth c b g σ 1239 [(0, .ref b), (1, .ref (g.1 0)), (2, .ref (g.1 112)), (3, .int i)] []) (σ : Sg) (i : Int32) (h : lf_14 xs L nxt σ i = some 1) : VL p l e s m below meth c b g σ 568 [(0, .ref b), (1, .ref (g.1 0)), (2, .ref (g.1 112)), (3, .int i)] [] := by
  unfold lf_14 at h
  refine l_aload_n 569 C 1 dL_law_568 rfl rfl rfl ?_
  refine l_aload_n 570 C 0 dL_law_569 rfl rfl rfl ?_
  refine l_iload_n 571 C 3 dL_law_570 rfl rfl rfl ?_
  refine l_iconst 572 C 1 dL_law_571 kc_i_1 rfl ?_
  refine l_iadd 573 C dL_law_572 rfl ?_
  refine l_sld 574 C h dL_law_573 rfl (fun h => ?_)
  refine l_aload_n 575 C 0 dL_law_574 rfl rfl rfl ?_
  refine l_iload_n 576 C 3 dL_law_575 rfl rfl rfl ?_
  refine l_iconst 577 C 2 dL_law_576 kc_i_2 rfl ?_
  refine l_iadd 578 C dL_law_577 rfl ?_
  refine l_sld 579 C h dL_law_578 rfl (fun h => ?_)
  obtain ⟨r1, s1, h0, h⟩ := ob2 h
  refine l_call 582 7 C [.int (xs (ix (i + 1))), .int (xs (ix (i + 2)))] (rfl : kK 0 = 7) rfl (fun _ => ⟨_, cel_7 rfl⟩) (c_X11_gain (xs (ix (i + 1))) (xs (ix (i + 2))) _ _ h0) cl_X11_gain gL_law_X11_gain rfl ⟨Nat.le_of_ble_eq_true rfl, Nat.le_of_ble_eq_true rfl⟩ rfl rfl (Nat.le_of_ble_eq_true rfl) dL_law_579 rfl ?_
  refine l_aload_n 583 C 2 dL_law_582 rfl rfl rfl ?_
  refine l_aload_n 584 C 0 dL_law_583 rfl rfl rfl ?_
  refine l_iload_n 585 C 3 dL_law_584 rfl rfl rfl ?_
  refine l_iconst 586 C 1 dL_law_585 kc_i_1 rfl ?_
  refine l_iadd 587 C dL_law_586 rfl ?_
  refine l_sld 588 C h dL_law_587 rfl (fun h => ?_)
  refine l_aload_n 589 C 0 dL_law_588 rfl rfl rfl ?_
  refine l_iload_n 590 C 3 dL_law_589 rfl rfl rfl ?_
  refine l_iconst 591 C 2 dL_law_590 kc_i_2 rfl ?_
  refine l_iadd 592 C dL_law_591 rfl ?_
  refine l_sld 593 C h dL_law_592 rfl (fun h => ?_)
  obtain ⟨r2, s2, h0, h⟩ := ob2 h
  refine l_call 596 8 C [.int (xs (ix (i + 1))), .int (xs (ix (i + 2)))] (rfl : kK 112 = 8) rfl (fun _ => ⟨_, cel_8 rfl⟩) (c_X12_gain (xs (ix (i + 1))) (xs (ix (i + 2))) _ _ h0) cl_X12_gain gL_law_X12_gain rfl ⟨Nat.le_of_ble_eq_true rfl, Nat.le_of_ble_eq_true rfl⟩ rfl rfl (Nat.le_of_ble_eq_true rfl) dL_law_593 rfl ?_
  refine l_icmp_eq 599 1239 C h dL_law_596 rfl (by decide) (fun h => ?_) (fun h => by cases h)
  exact hx s2 i h
def lf_15 (xs : Nat → Int32) (L : Nat) (nxt : Sg → Int32 → Option Int32) (σ : Sg) (i : Int32) : Option Int32 := (if inb (i + 1) L = true then if inb (i + 2) L = true then bnd (f_X11_round σ (xs (ix (i + 1))) (xs (ix (i + 2)))) fun r1 s1 => if inb (i + 1) L = true then if inb (i + 2) L = true then bnd (f_X12_round s1 (xs (ix (i + 1))) (xs (ix (i + 2)))) fun r2 s2 => if r1 = r2 then nxt s2 i else some 0 else none else none else none else none)
set_option maxRecDepth 100000 in
set_option maxHeartbeats 4000000 in
theorem lq_15 {p : Program} {l : Launch} {e : Env} {s : State} {m : MethodId} {below : List Frame} {meth : Method} {c : Code} {b L : Nat} {xs : Nat → Int32} {g : Cx} (C : LC p s m meth c b L xs g) (nxt : Sg → Int32 → Option Int32) (hx : ∀ σ i, nxt σ i = some 1 → VL p l e s m below meth c b g σ 1239 [(0, .ref b), (1, .ref (g.1 0)), (2, .ref (g.1 112)), (3, .int i)] []) (σ : Sg) (i : Int32) (h : lf_15 xs L nxt σ i = some 1) : VL p l e s m below meth c b g σ 601 [(0, .ref b), (1, .ref (g.1 0)), (2, .ref (g.1 112)), (3, .int i)] [] := by
  unfold lf_15 at h
  refine l_aload_n 602 C 1 dL_law_601 rfl rfl rfl ?_
  refine l_aload_n 603 C 0 dL_law_602 rfl rfl rfl ?_
  refine l_iload_n 604 C 3 dL_law_603 rfl rfl rfl ?_
  refine l_iconst 605 C 1 dL_law_604 kc_i_1 rfl ?_
  refine l_iadd 606 C dL_law_605 rfl ?_
  refine l_sld 607 C h dL_law_606 rfl (fun h => ?_)
  refine l_aload_n 608 C 0 dL_law_607 rfl rfl rfl ?_
  refine l_iload_n 609 C 3 dL_law_608 rfl rfl rfl ?_
  refine l_iconst 610 C 2 dL_law_609 kc_i_2 rfl ?_
  refine l_iadd 611 C dL_law_610 rfl ?_
  refine l_sld 612 C h dL_law_611 rfl (fun h => ?_)
  obtain ⟨r1, s1, h0, h⟩ := ob2 h
  refine l_call 615 7 C [.int (xs (ix (i + 1))), .int (xs (ix (i + 2)))] (rfl : kK 0 = 7) rfl (fun _ => ⟨_, cel_7 rfl⟩) (c_X11_round (xs (ix (i + 1))) (xs (ix (i + 2))) _ _ h0) cl_X11_round gL_law_X11_round rfl ⟨Nat.le_of_ble_eq_true rfl, Nat.le_of_ble_eq_true rfl⟩ rfl rfl (Nat.le_of_ble_eq_true rfl) dL_law_612 rfl ?_
  refine l_aload_n 616 C 2 dL_law_615 rfl rfl rfl ?_
  refine l_aload_n 617 C 0 dL_law_616 rfl rfl rfl ?_
  refine l_iload_n 618 C 3 dL_law_617 rfl rfl rfl ?_
  refine l_iconst 619 C 1 dL_law_618 kc_i_1 rfl ?_
  refine l_iadd 620 C dL_law_619 rfl ?_
  refine l_sld 621 C h dL_law_620 rfl (fun h => ?_)
  refine l_aload_n 622 C 0 dL_law_621 rfl rfl rfl ?_
  refine l_iload_n 623 C 3 dL_law_622 rfl rfl rfl ?_
  refine l_iconst 624 C 2 dL_law_623 kc_i_2 rfl ?_
  refine l_iadd 625 C dL_law_624 rfl ?_
  refine l_sld 626 C h dL_law_625 rfl (fun h => ?_)
  obtain ⟨r2, s2, h0, h⟩ := ob2 h
  refine l_call 629 8 C [.int (xs (ix (i + 1))), .int (xs (ix (i + 2)))] (rfl : kK 112 = 8) rfl (fun _ => ⟨_, cel_8 rfl⟩) (c_X12_round (xs (ix (i + 1))) (xs (ix (i + 2))) _ _ h0) cl_X12_round gL_law_X12_round rfl ⟨Nat.le_of_ble_eq_true rfl, Nat.le_of_ble_eq_true rfl⟩ rfl rfl (Nat.le_of_ble_eq_true rfl) dL_law_626 rfl ?_
  refine l_icmp_eq 632 1239 C h dL_law_629 rfl (by decide) (fun h => ?_) (fun h => by cases h)
  exact hx s2 i h
def lf_16 (xs : Nat → Int32) (L : Nat) (nxt : Sg → Int32 → Option Int32) (σ : Sg) (i : Int32) : Option Int32 := (if inb (i + 1) L = true then bnd (f_X11_gifts σ (xs (ix (i + 1)))) fun r1 s1 => if inb (i + 1) L = true then bnd (f_X12_gifts s1 (xs (ix (i + 1)))) fun r2 s2 => if r1 = r2 then nxt s2 i else some 0 else none else none)
set_option maxRecDepth 100000 in
set_option maxHeartbeats 4000000 in
theorem lq_16 {p : Program} {l : Launch} {e : Env} {s : State} {m : MethodId} {below : List Frame} {meth : Method} {c : Code} {b L : Nat} {xs : Nat → Int32} {g : Cx} (C : LC p s m meth c b L xs g) (nxt : Sg → Int32 → Option Int32) (hx : ∀ σ i, nxt σ i = some 1 → VL p l e s m below meth c b g σ 1239 [(0, .ref b), (1, .ref (g.1 0)), (2, .ref (g.1 112)), (3, .int i)] []) (σ : Sg) (i : Int32) (h : lf_16 xs L nxt σ i = some 1) : VL p l e s m below meth c b g σ 634 [(0, .ref b), (1, .ref (g.1 0)), (2, .ref (g.1 112)), (3, .int i)] [] := by
  unfold lf_16 at h
  refine l_aload_n 635 C 1 dL_law_634 rfl rfl rfl ?_
  refine l_aload_n 636 C 0 dL_law_635 rfl rfl rfl ?_
  refine l_iload_n 637 C 3 dL_law_636 rfl rfl rfl ?_
  refine l_iconst 638 C 1 dL_law_637 kc_i_1 rfl ?_
  refine l_iadd 639 C dL_law_638 rfl ?_
  refine l_sld 640 C h dL_law_639 rfl (fun h => ?_)
  obtain ⟨r1, s1, h0, h⟩ := ob2 h
  refine l_call 643 7 C [.int (xs (ix (i + 1)))] (rfl : kK 0 = 7) rfl (fun _ => ⟨_, cel_7 rfl⟩) (c_X11_gifts (xs (ix (i + 1))) _ _ h0) cl_X11_gifts gL_law_X11_gifts rfl ⟨Nat.le_of_ble_eq_true rfl, Nat.le_of_ble_eq_true rfl⟩ rfl rfl (Nat.le_of_ble_eq_true rfl) dL_law_640 rfl ?_
  refine l_aload_n 644 C 2 dL_law_643 rfl rfl rfl ?_
  refine l_aload_n 645 C 0 dL_law_644 rfl rfl rfl ?_
  refine l_iload_n 646 C 3 dL_law_645 rfl rfl rfl ?_
  refine l_iconst 647 C 1 dL_law_646 kc_i_1 rfl ?_
  refine l_iadd 648 C dL_law_647 rfl ?_
  refine l_sld 649 C h dL_law_648 rfl (fun h => ?_)
  obtain ⟨r2, s2, h0, h⟩ := ob2 h
  refine l_call 652 8 C [.int (xs (ix (i + 1)))] (rfl : kK 112 = 8) rfl (fun _ => ⟨_, cel_8 rfl⟩) (c_X12_gifts (xs (ix (i + 1))) _ _ h0) cl_X12_gifts gL_law_X12_gifts rfl ⟨Nat.le_of_ble_eq_true rfl, Nat.le_of_ble_eq_true rfl⟩ rfl rfl (Nat.le_of_ble_eq_true rfl) dL_law_649 rfl ?_
  refine l_icmp_eq 655 1239 C h dL_law_652 rfl (by decide) (fun h => ?_) (fun h => by cases h)
  exact hx s2 i h
def lf_17 (xs : Nat → Int32) (L : Nat) (nxt : Sg → Int32 → Option Int32) (σ : Sg) (i : Int32) : Option Int32 := (if inb (i + 1) L = true then if inb (i + 2) L = true then if inb (i + 3) L = true then bnd (f_X11_tips σ (xs (ix (i + 1))) (xs (ix (i + 2))) (xs (ix (i + 3)))) fun r1 s1 => if inb (i + 1) L = true then if inb (i + 2) L = true then if inb (i + 3) L = true then bnd (f_X12_tips s1 (xs (ix (i + 1))) (xs (ix (i + 2))) (xs (ix (i + 3)))) fun r2 s2 => if r1 = r2 then nxt s2 i else some 0 else none else none else none else none else none else none)
set_option maxRecDepth 100000 in
set_option maxHeartbeats 4000000 in
theorem lq_17 {p : Program} {l : Launch} {e : Env} {s : State} {m : MethodId} {below : List Frame} {meth : Method} {c : Code} {b L : Nat} {xs : Nat → Int32} {g : Cx} (C : LC p s m meth c b L xs g) (nxt : Sg → Int32 → Option Int32) (hx : ∀ σ i, nxt σ i = some 1 → VL p l e s m below meth c b g σ 1239 [(0, .ref b), (1, .ref (g.1 0)), (2, .ref (g.1 112)), (3, .int i)] []) (σ : Sg) (i : Int32) (h : lf_17 xs L nxt σ i = some 1) : VL p l e s m below meth c b g σ 657 [(0, .ref b), (1, .ref (g.1 0)), (2, .ref (g.1 112)), (3, .int i)] [] := by
  unfold lf_17 at h
  refine l_aload_n 658 C 1 dL_law_657 rfl rfl rfl ?_
  refine l_aload_n 659 C 0 dL_law_658 rfl rfl rfl ?_
  refine l_iload_n 660 C 3 dL_law_659 rfl rfl rfl ?_
  refine l_iconst 661 C 1 dL_law_660 kc_i_1 rfl ?_
  refine l_iadd 662 C dL_law_661 rfl ?_
  refine l_sld 663 C h dL_law_662 rfl (fun h => ?_)
  refine l_aload_n 664 C 0 dL_law_663 rfl rfl rfl ?_
  refine l_iload_n 665 C 3 dL_law_664 rfl rfl rfl ?_
  refine l_iconst 666 C 2 dL_law_665 kc_i_2 rfl ?_
  refine l_iadd 667 C dL_law_666 rfl ?_
  refine l_sld 668 C h dL_law_667 rfl (fun h => ?_)
  refine l_aload_n 669 C 0 dL_law_668 rfl rfl rfl ?_
  refine l_iload_n 670 C 3 dL_law_669 rfl rfl rfl ?_
  refine l_iconst 671 C 3 dL_law_670 kc_i_3 rfl ?_
  refine l_iadd 672 C dL_law_671 rfl ?_
  refine l_sld 673 C h dL_law_672 rfl (fun h => ?_)
  obtain ⟨r1, s1, h0, h⟩ := ob2 h
  refine l_call 676 7 C [.int (xs (ix (i + 1))), .int (xs (ix (i + 2))), .int (xs (ix (i + 3)))] (rfl : kK 0 = 7) rfl (fun _ => ⟨_, cel_7 rfl⟩) (c_X11_tips (xs (ix (i + 1))) (xs (ix (i + 2))) (xs (ix (i + 3))) _ _ h0) cl_X11_tips gL_law_X11_tips rfl ⟨Nat.le_of_ble_eq_true rfl, Nat.le_of_ble_eq_true rfl⟩ rfl rfl (Nat.le_of_ble_eq_true rfl) dL_law_673 rfl ?_
  refine l_aload_n 677 C 2 dL_law_676 rfl rfl rfl ?_
  refine l_aload_n 678 C 0 dL_law_677 rfl rfl rfl ?_
  refine l_iload_n 679 C 3 dL_law_678 rfl rfl rfl ?_
  refine l_iconst 680 C 1 dL_law_679 kc_i_1 rfl ?_
  refine l_iadd 681 C dL_law_680 rfl ?_
  refine l_sld 682 C h dL_law_681 rfl (fun h => ?_)
  refine l_aload_n 683 C 0 dL_law_682 rfl rfl rfl ?_
  refine l_iload_n 684 C 3 dL_law_683 rfl rfl rfl ?_
  refine l_iconst 685 C 2 dL_law_684 kc_i_2 rfl ?_
  refine l_iadd 686 C dL_law_685 rfl ?_
  refine l_sld 687 C h dL_law_686 rfl (fun h => ?_)
  refine l_aload_n 688 C 0 dL_law_687 rfl rfl rfl ?_
  refine l_iload_n 689 C 3 dL_law_688 rfl rfl rfl ?_
  refine l_iconst 690 C 3 dL_law_689 kc_i_3 rfl ?_
  refine l_iadd 691 C dL_law_690 rfl ?_
  refine l_sld 692 C h dL_law_691 rfl (fun h => ?_)
  obtain ⟨r2, s2, h0, h⟩ := ob2 h
  refine l_call 695 8 C [.int (xs (ix (i + 1))), .int (xs (ix (i + 2))), .int (xs (ix (i + 3)))] (rfl : kK 112 = 8) rfl (fun _ => ⟨_, cel_8 rfl⟩) (c_X12_tips (xs (ix (i + 1))) (xs (ix (i + 2))) (xs (ix (i + 3))) _ _ h0) cl_X12_tips gL_law_X12_tips rfl ⟨Nat.le_of_ble_eq_true rfl, Nat.le_of_ble_eq_true rfl⟩ rfl rfl (Nat.le_of_ble_eq_true rfl) dL_law_692 rfl ?_
  refine l_icmp_eq 698 1239 C h dL_law_695 rfl (by decide) (fun h => ?_) (fun h => by cases h)
  exact hx s2 i h
def lf_18 (xs : Nat → Int32) (L : Nat) (nxt : Sg → Int32 → Option Int32) (σ : Sg) (i : Int32) : Option Int32 := (if inb (i + 1) L = true then if inb (i + 2) L = true then if inb (i + 3) L = true then bnd (f_X11_reading σ (xs (ix (i + 1))) (xs (ix (i + 2))) (xs (ix (i + 3)))) fun r1 s1 => if inb (i + 1) L = true then if inb (i + 2) L = true then if inb (i + 3) L = true then bnd (f_X12_reading s1 (xs (ix (i + 1))) (xs (ix (i + 2))) (xs (ix (i + 3)))) fun r2 s2 => if r1 = r2 then nxt s2 i else some 0 else none else none else none else none else none else none)
set_option maxRecDepth 100000 in
set_option maxHeartbeats 4000000 in
theorem lq_18 {p : Program} {l : Launch} {e : Env} {s : State} {m : MethodId} {below : List Frame} {meth : Method} {c : Code} {b L : Nat} {xs : Nat → Int32} {g : Cx} (C : LC p s m meth c b L xs g) (nxt : Sg → Int32 → Option Int32) (hx : ∀ σ i, nxt σ i = some 1 → VL p l e s m below meth c b g σ 1239 [(0, .ref b), (1, .ref (g.1 0)), (2, .ref (g.1 112)), (3, .int i)] []) (σ : Sg) (i : Int32) (h : lf_18 xs L nxt σ i = some 1) : VL p l e s m below meth c b g σ 700 [(0, .ref b), (1, .ref (g.1 0)), (2, .ref (g.1 112)), (3, .int i)] [] := by
  unfold lf_18 at h
  refine l_aload_n 701 C 1 dL_law_700 rfl rfl rfl ?_
  refine l_aload_n 702 C 0 dL_law_701 rfl rfl rfl ?_
  refine l_iload_n 703 C 3 dL_law_702 rfl rfl rfl ?_
  refine l_iconst 704 C 1 dL_law_703 kc_i_1 rfl ?_
  refine l_iadd 705 C dL_law_704 rfl ?_
  refine l_sld 706 C h dL_law_705 rfl (fun h => ?_)
  refine l_aload_n 707 C 0 dL_law_706 rfl rfl rfl ?_
  refine l_iload_n 708 C 3 dL_law_707 rfl rfl rfl ?_
  refine l_iconst 709 C 2 dL_law_708 kc_i_2 rfl ?_
  refine l_iadd 710 C dL_law_709 rfl ?_
  refine l_sld 711 C h dL_law_710 rfl (fun h => ?_)
  refine l_aload_n 712 C 0 dL_law_711 rfl rfl rfl ?_
  refine l_iload_n 713 C 3 dL_law_712 rfl rfl rfl ?_
  refine l_iconst 714 C 3 dL_law_713 kc_i_3 rfl ?_
  refine l_iadd 715 C dL_law_714 rfl ?_
  refine l_sld 716 C h dL_law_715 rfl (fun h => ?_)
  obtain ⟨r1, s1, h0, h⟩ := ob2 h
  refine l_call 719 7 C [.int (xs (ix (i + 1))), .int (xs (ix (i + 2))), .int (xs (ix (i + 3)))] (rfl : kK 0 = 7) rfl (fun _ => ⟨_, cel_7 rfl⟩) (c_X11_reading (xs (ix (i + 1))) (xs (ix (i + 2))) (xs (ix (i + 3))) _ _ h0) cl_X11_reading gL_law_X11_reading rfl ⟨Nat.le_of_ble_eq_true rfl, Nat.le_of_ble_eq_true rfl⟩ rfl rfl (Nat.le_of_ble_eq_true rfl) dL_law_716 rfl ?_
  refine l_aload_n 720 C 2 dL_law_719 rfl rfl rfl ?_
  refine l_aload_n 721 C 0 dL_law_720 rfl rfl rfl ?_
  refine l_iload_n 722 C 3 dL_law_721 rfl rfl rfl ?_
  refine l_iconst 723 C 1 dL_law_722 kc_i_1 rfl ?_
  refine l_iadd 724 C dL_law_723 rfl ?_
  refine l_sld 725 C h dL_law_724 rfl (fun h => ?_)
  refine l_aload_n 726 C 0 dL_law_725 rfl rfl rfl ?_
  refine l_iload_n 727 C 3 dL_law_726 rfl rfl rfl ?_
  refine l_iconst 728 C 2 dL_law_727 kc_i_2 rfl ?_
  refine l_iadd 729 C dL_law_728 rfl ?_
  refine l_sld 730 C h dL_law_729 rfl (fun h => ?_)
  refine l_aload_n 731 C 0 dL_law_730 rfl rfl rfl ?_
  refine l_iload_n 732 C 3 dL_law_731 rfl rfl rfl ?_
  refine l_iconst 733 C 3 dL_law_732 kc_i_3 rfl ?_
  refine l_iadd 734 C dL_law_733 rfl ?_
  refine l_sld 735 C h dL_law_734 rfl (fun h => ?_)
  obtain ⟨r2, s2, h0, h⟩ := ob2 h
  refine l_call 738 8 C [.int (xs (ix (i + 1))), .int (xs (ix (i + 2))), .int (xs (ix (i + 3)))] (rfl : kK 112 = 8) rfl (fun _ => ⟨_, cel_8 rfl⟩) (c_X12_reading (xs (ix (i + 1))) (xs (ix (i + 2))) (xs (ix (i + 3))) _ _ h0) cl_X12_reading gL_law_X12_reading rfl ⟨Nat.le_of_ble_eq_true rfl, Nat.le_of_ble_eq_true rfl⟩ rfl rfl (Nat.le_of_ble_eq_true rfl) dL_law_735 rfl ?_
  refine l_icmp_eq 741 1239 C h dL_law_738 rfl (by decide) (fun h => ?_) (fun h => by cases h)
  exact hx s2 i h
def lf_19 (xs : Nat → Int32) (L : Nat) (nxt : Sg → Int32 → Option Int32) (σ : Sg) (i : Int32) : Option Int32 := (if inb (i + 1) L = true then bnd (f_X11_maybe σ (xs (ix (i + 1)))) fun r1 s1 => if inb (i + 1) L = true then bnd (f_X12_maybe s1 (xs (ix (i + 1)))) fun r2 s2 => if r1 = r2 then nxt s2 i else some 0 else none else none)
set_option maxRecDepth 100000 in
set_option maxHeartbeats 4000000 in
theorem lq_19 {p : Program} {l : Launch} {e : Env} {s : State} {m : MethodId} {below : List Frame} {meth : Method} {c : Code} {b L : Nat} {xs : Nat → Int32} {g : Cx} (C : LC p s m meth c b L xs g) (nxt : Sg → Int32 → Option Int32) (hx : ∀ σ i, nxt σ i = some 1 → VL p l e s m below meth c b g σ 1239 [(0, .ref b), (1, .ref (g.1 0)), (2, .ref (g.1 112)), (3, .int i)] []) (σ : Sg) (i : Int32) (h : lf_19 xs L nxt σ i = some 1) : VL p l e s m below meth c b g σ 743 [(0, .ref b), (1, .ref (g.1 0)), (2, .ref (g.1 112)), (3, .int i)] [] := by
  unfold lf_19 at h
  refine l_aload_n 744 C 1 dL_law_743 rfl rfl rfl ?_
  refine l_aload_n 745 C 0 dL_law_744 rfl rfl rfl ?_
  refine l_iload_n 746 C 3 dL_law_745 rfl rfl rfl ?_
  refine l_iconst 747 C 1 dL_law_746 kc_i_1 rfl ?_
  refine l_iadd 748 C dL_law_747 rfl ?_
  refine l_sld 749 C h dL_law_748 rfl (fun h => ?_)
  obtain ⟨r1, s1, h0, h⟩ := ob2 h
  refine l_call 752 7 C [.int (xs (ix (i + 1)))] (rfl : kK 0 = 7) rfl (fun _ => ⟨_, cel_7 rfl⟩) (c_X11_maybe (xs (ix (i + 1))) _ _ h0) cl_X11_maybe gL_law_X11_maybe rfl ⟨Nat.le_of_ble_eq_true rfl, Nat.le_of_ble_eq_true rfl⟩ rfl rfl (Nat.le_of_ble_eq_true rfl) dL_law_749 rfl ?_
  refine l_aload_n 753 C 2 dL_law_752 rfl rfl rfl ?_
  refine l_aload_n 754 C 0 dL_law_753 rfl rfl rfl ?_
  refine l_iload_n 755 C 3 dL_law_754 rfl rfl rfl ?_
  refine l_iconst 756 C 1 dL_law_755 kc_i_1 rfl ?_
  refine l_iadd 757 C dL_law_756 rfl ?_
  refine l_sld 758 C h dL_law_757 rfl (fun h => ?_)
  obtain ⟨r2, s2, h0, h⟩ := ob2 h
  refine l_call 761 8 C [.int (xs (ix (i + 1)))] (rfl : kK 112 = 8) rfl (fun _ => ⟨_, cel_8 rfl⟩) (c_X12_maybe (xs (ix (i + 1))) _ _ h0) cl_X12_maybe gL_law_X12_maybe rfl ⟨Nat.le_of_ble_eq_true rfl, Nat.le_of_ble_eq_true rfl⟩ rfl rfl (Nat.le_of_ble_eq_true rfl) dL_law_758 rfl ?_
  refine l_icmp_eq 764 1239 C h dL_law_761 rfl (by decide) (fun h => ?_) (fun h => by cases h)
  exact hx s2 i h
def lf_20 (xs : Nat → Int32) (L : Nat) (nxt : Sg → Int32 → Option Int32) (σ : Sg) (i : Int32) : Option Int32 := (bnd (f_X11_lift σ) fun r1 s1 => bnd (f_X12_lift s1) fun r2 s2 => if r1 = r2 then nxt s2 i else some 0)
set_option maxRecDepth 100000 in
set_option maxHeartbeats 4000000 in
theorem lq_20 {p : Program} {l : Launch} {e : Env} {s : State} {m : MethodId} {below : List Frame} {meth : Method} {c : Code} {b L : Nat} {xs : Nat → Int32} {g : Cx} (C : LC p s m meth c b L xs g) (nxt : Sg → Int32 → Option Int32) (hx : ∀ σ i, nxt σ i = some 1 → VL p l e s m below meth c b g σ 1239 [(0, .ref b), (1, .ref (g.1 0)), (2, .ref (g.1 112)), (3, .int i)] []) (σ : Sg) (i : Int32) (h : lf_20 xs L nxt σ i = some 1) : VL p l e s m below meth c b g σ 766 [(0, .ref b), (1, .ref (g.1 0)), (2, .ref (g.1 112)), (3, .int i)] [] := by
  unfold lf_20 at h
  refine l_aload_n 767 C 1 dL_law_766 rfl rfl rfl ?_
  obtain ⟨r1, s1, h0, h⟩ := ob2 h
  refine l_call 770 7 C [] (rfl : kK 0 = 7) rfl (fun _ => ⟨_, cel_7 rfl⟩) (c_X11_lift _ _ h0) cl_X11_lift gL_law_X11_lift rfl ⟨Nat.le_of_ble_eq_true rfl, Nat.le_of_ble_eq_true rfl⟩ rfl rfl (Nat.le_of_ble_eq_true rfl) dL_law_767 rfl ?_
  refine l_aload_n 771 C 2 dL_law_770 rfl rfl rfl ?_
  obtain ⟨r2, s2, h0, h⟩ := ob2 h
  refine l_call 774 8 C [] (rfl : kK 112 = 8) rfl (fun _ => ⟨_, cel_8 rfl⟩) (c_X12_lift _ _ h0) cl_X12_lift gL_law_X12_lift rfl ⟨Nat.le_of_ble_eq_true rfl, Nat.le_of_ble_eq_true rfl⟩ rfl rfl (Nat.le_of_ble_eq_true rfl) dL_law_771 rfl ?_
  refine l_icmp_eq 777 1239 C h dL_law_774 rfl (by decide) (fun h => ?_) (fun h => by cases h)
  exact hx s2 i h
def lf_21 (xs : Nat → Int32) (L : Nat) (nxt : Sg → Int32 → Option Int32) (σ : Sg) (i : Int32) : Option Int32 := (if inb (i + 1) L = true then if inb (i + 2) L = true then if inb (i + 3) L = true then if inb (i + 4) L = true then bnd (f_X11_note σ (xs (ix (i + 1))) (xs (ix (i + 2))) (xs (ix (i + 3))) (xs (ix (i + 4)))) fun r1 s1 => if inb (i + 1) L = true then if inb (i + 2) L = true then if inb (i + 3) L = true then if inb (i + 4) L = true then bnd (f_X12_note s1 (xs (ix (i + 1))) (xs (ix (i + 2))) (xs (ix (i + 3))) (xs (ix (i + 4)))) fun r2 s2 => if r1 = r2 then nxt s2 i else some 0 else none else none else none else none else none else none else none else none)
set_option maxRecDepth 100000 in
set_option maxHeartbeats 4000000 in
theorem lq_21 {p : Program} {l : Launch} {e : Env} {s : State} {m : MethodId} {below : List Frame} {meth : Method} {c : Code} {b L : Nat} {xs : Nat → Int32} {g : Cx} (C : LC p s m meth c b L xs g) (nxt : Sg → Int32 → Option Int32) (hx : ∀ σ i, nxt σ i = some 1 → VL p l e s m below meth c b g σ 1239 [(0, .ref b), (1, .ref (g.1 0)), (2, .ref (g.1 112)), (3, .int i)] []) (σ : Sg) (i : Int32) (h : lf_21 xs L nxt σ i = some 1) : VL p l e s m below meth c b g σ 779 [(0, .ref b), (1, .ref (g.1 0)), (2, .ref (g.1 112)), (3, .int i)] [] := by
  unfold lf_21 at h
  refine l_aload_n 780 C 1 dL_law_779 rfl rfl rfl ?_
  refine l_aload_n 781 C 0 dL_law_780 rfl rfl rfl ?_
  refine l_iload_n 782 C 3 dL_law_781 rfl rfl rfl ?_
  refine l_iconst 783 C 1 dL_law_782 kc_i_1 rfl ?_
  refine l_iadd 784 C dL_law_783 rfl ?_
  refine l_sld 785 C h dL_law_784 rfl (fun h => ?_)
  refine l_aload_n 786 C 0 dL_law_785 rfl rfl rfl ?_
  refine l_iload_n 787 C 3 dL_law_786 rfl rfl rfl ?_
  refine l_iconst 788 C 2 dL_law_787 kc_i_2 rfl ?_
  refine l_iadd 789 C dL_law_788 rfl ?_
  refine l_sld 790 C h dL_law_789 rfl (fun h => ?_)
  refine l_aload_n 791 C 0 dL_law_790 rfl rfl rfl ?_
  refine l_iload_n 792 C 3 dL_law_791 rfl rfl rfl ?_
  refine l_iconst 793 C 3 dL_law_792 kc_i_3 rfl ?_
  refine l_iadd 794 C dL_law_793 rfl ?_
  refine l_sld 795 C h dL_law_794 rfl (fun h => ?_)
  refine l_aload_n 796 C 0 dL_law_795 rfl rfl rfl ?_
  refine l_iload_n 797 C 3 dL_law_796 rfl rfl rfl ?_
  refine l_iconst 798 C 4 dL_law_797 kc_i_4 rfl ?_
  refine l_iadd 799 C dL_law_798 rfl ?_
  refine l_sld 800 C h dL_law_799 rfl (fun h => ?_)
  obtain ⟨r1, s1, h0, h⟩ := ob2 h
  refine l_call 803 7 C [.int (xs (ix (i + 1))), .int (xs (ix (i + 2))), .int (xs (ix (i + 3))), .int (xs (ix (i + 4)))] (rfl : kK 0 = 7) rfl (fun _ => ⟨_, cel_7 rfl⟩) (c_X11_note (xs (ix (i + 1))) (xs (ix (i + 2))) (xs (ix (i + 3))) (xs (ix (i + 4))) _ _ h0) cl_X11_note gL_law_X11_note rfl ⟨Nat.le_of_ble_eq_true rfl, Nat.le_of_ble_eq_true rfl⟩ rfl rfl (Nat.le_of_ble_eq_true rfl) dL_law_800 rfl ?_
  refine l_aload_n 804 C 2 dL_law_803 rfl rfl rfl ?_
  refine l_aload_n 805 C 0 dL_law_804 rfl rfl rfl ?_
  refine l_iload_n 806 C 3 dL_law_805 rfl rfl rfl ?_
  refine l_iconst 807 C 1 dL_law_806 kc_i_1 rfl ?_
  refine l_iadd 808 C dL_law_807 rfl ?_
  refine l_sld 809 C h dL_law_808 rfl (fun h => ?_)
  refine l_aload_n 810 C 0 dL_law_809 rfl rfl rfl ?_
  refine l_iload_n 811 C 3 dL_law_810 rfl rfl rfl ?_
  refine l_iconst 812 C 2 dL_law_811 kc_i_2 rfl ?_
  refine l_iadd 813 C dL_law_812 rfl ?_
  refine l_sld 814 C h dL_law_813 rfl (fun h => ?_)
  refine l_aload_n 815 C 0 dL_law_814 rfl rfl rfl ?_
  refine l_iload_n 816 C 3 dL_law_815 rfl rfl rfl ?_
  refine l_iconst 817 C 3 dL_law_816 kc_i_3 rfl ?_
  refine l_iadd 818 C dL_law_817 rfl ?_
  refine l_sld 819 C h dL_law_818 rfl (fun h => ?_)
  refine l_aload_n 820 C 0 dL_law_819 rfl rfl rfl ?_
  refine l_iload_n 821 C 3 dL_law_820 rfl rfl rfl ?_
  refine l_iconst 822 C 4 dL_law_821 kc_i_4 rfl ?_
  refine l_iadd 823 C dL_law_822 rfl ?_
  refine l_sld 824 C h dL_law_823 rfl (fun h => ?_)
  obtain ⟨r2, s2, h0, h⟩ := ob2 h
  refine l_call 827 8 C [.int (xs (ix (i + 1))), .int (xs (ix (i + 2))), .int (xs (ix (i + 3))), .int (xs (ix (i + 4)))] (rfl : kK 112 = 8) rfl (fun _ => ⟨_, cel_8 rfl⟩) (c_X12_note (xs (ix (i + 1))) (xs (ix (i + 2))) (xs (ix (i + 3))) (xs (ix (i + 4))) _ _ h0) cl_X12_note gL_law_X12_note rfl ⟨Nat.le_of_ble_eq_true rfl, Nat.le_of_ble_eq_true rfl⟩ rfl rfl (Nat.le_of_ble_eq_true rfl) dL_law_824 rfl ?_
  refine l_icmp_eq 830 1239 C h dL_law_827 rfl (by decide) (fun h => ?_) (fun h => by cases h)
  exact hx s2 i h
def lf_22 (xs : Nat → Int32) (L : Nat) (nxt : Sg → Int32 → Option Int32) (σ : Sg) (i : Int32) : Option Int32 := (if inb (i + 1) L = true then if inb (i + 2) L = true then if inb (i + 3) L = true then if inb (i + 4) L = true then bnd (f_X11_tipped σ (xs (ix (i + 1))) (xs (ix (i + 2))) (xs (ix (i + 3))) (xs (ix (i + 4)))) fun r1 s1 => if inb (i + 1) L = true then if inb (i + 2) L = true then if inb (i + 3) L = true then if inb (i + 4) L = true then bnd (f_X12_tipped s1 (xs (ix (i + 1))) (xs (ix (i + 2))) (xs (ix (i + 3))) (xs (ix (i + 4)))) fun r2 s2 => if r1 = r2 then nxt s2 i else some 0 else none else none else none else none else none else none else none else none)
set_option maxRecDepth 100000 in
set_option maxHeartbeats 4000000 in
theorem lq_22 {p : Program} {l : Launch} {e : Env} {s : State} {m : MethodId} {below : List Frame} {meth : Method} {c : Code} {b L : Nat} {xs : Nat → Int32} {g : Cx} (C : LC p s m meth c b L xs g) (nxt : Sg → Int32 → Option Int32) (hx : ∀ σ i, nxt σ i = some 1 → VL p l e s m below meth c b g σ 1239 [(0, .ref b), (1, .ref (g.1 0)), (2, .ref (g.1 112)), (3, .int i)] []) (σ : Sg) (i : Int32) (h : lf_22 xs L nxt σ i = some 1) : VL p l e s m below meth c b g σ 832 [(0, .ref b), (1, .ref (g.1 0)), (2, .ref (g.1 112)), (3, .int i)] [] := by
  unfold lf_22 at h
  refine l_aload_n 833 C 1 dL_law_832 rfl rfl rfl ?_
  refine l_aload_n 834 C 0 dL_law_833 rfl rfl rfl ?_
  refine l_iload_n 835 C 3 dL_law_834 rfl rfl rfl ?_
  refine l_iconst 836 C 1 dL_law_835 kc_i_1 rfl ?_
  refine l_iadd 837 C dL_law_836 rfl ?_
  refine l_sld 838 C h dL_law_837 rfl (fun h => ?_)
  refine l_aload_n 839 C 0 dL_law_838 rfl rfl rfl ?_
  refine l_iload_n 840 C 3 dL_law_839 rfl rfl rfl ?_
  refine l_iconst 841 C 2 dL_law_840 kc_i_2 rfl ?_
  refine l_iadd 842 C dL_law_841 rfl ?_
  refine l_sld 843 C h dL_law_842 rfl (fun h => ?_)
  refine l_aload_n 844 C 0 dL_law_843 rfl rfl rfl ?_
  refine l_iload_n 845 C 3 dL_law_844 rfl rfl rfl ?_
  refine l_iconst 846 C 3 dL_law_845 kc_i_3 rfl ?_
  refine l_iadd 847 C dL_law_846 rfl ?_
  refine l_sld 848 C h dL_law_847 rfl (fun h => ?_)
  refine l_aload_n 849 C 0 dL_law_848 rfl rfl rfl ?_
  refine l_iload_n 850 C 3 dL_law_849 rfl rfl rfl ?_
  refine l_iconst 851 C 4 dL_law_850 kc_i_4 rfl ?_
  refine l_iadd 852 C dL_law_851 rfl ?_
  refine l_sld 853 C h dL_law_852 rfl (fun h => ?_)
  obtain ⟨r1, s1, h0, h⟩ := ob2 h
  refine l_call 856 7 C [.int (xs (ix (i + 1))), .int (xs (ix (i + 2))), .int (xs (ix (i + 3))), .int (xs (ix (i + 4)))] (rfl : kK 0 = 7) rfl (fun _ => ⟨_, cel_7 rfl⟩) (c_X11_tipped (xs (ix (i + 1))) (xs (ix (i + 2))) (xs (ix (i + 3))) (xs (ix (i + 4))) _ _ h0) cl_X11_tipped gL_law_X11_tipped rfl ⟨Nat.le_of_ble_eq_true rfl, Nat.le_of_ble_eq_true rfl⟩ rfl rfl (Nat.le_of_ble_eq_true rfl) dL_law_853 rfl ?_
  refine l_aload_n 857 C 2 dL_law_856 rfl rfl rfl ?_
  refine l_aload_n 858 C 0 dL_law_857 rfl rfl rfl ?_
  refine l_iload_n 859 C 3 dL_law_858 rfl rfl rfl ?_
  refine l_iconst 860 C 1 dL_law_859 kc_i_1 rfl ?_
  refine l_iadd 861 C dL_law_860 rfl ?_
  refine l_sld 862 C h dL_law_861 rfl (fun h => ?_)
  refine l_aload_n 863 C 0 dL_law_862 rfl rfl rfl ?_
  refine l_iload_n 864 C 3 dL_law_863 rfl rfl rfl ?_
  refine l_iconst 865 C 2 dL_law_864 kc_i_2 rfl ?_
  refine l_iadd 866 C dL_law_865 rfl ?_
  refine l_sld 867 C h dL_law_866 rfl (fun h => ?_)
  refine l_aload_n 868 C 0 dL_law_867 rfl rfl rfl ?_
  refine l_iload_n 869 C 3 dL_law_868 rfl rfl rfl ?_
  refine l_iconst 870 C 3 dL_law_869 kc_i_3 rfl ?_
  refine l_iadd 871 C dL_law_870 rfl ?_
  refine l_sld 872 C h dL_law_871 rfl (fun h => ?_)
  refine l_aload_n 873 C 0 dL_law_872 rfl rfl rfl ?_
  refine l_iload_n 874 C 3 dL_law_873 rfl rfl rfl ?_
  refine l_iconst 875 C 4 dL_law_874 kc_i_4 rfl ?_
  refine l_iadd 876 C dL_law_875 rfl ?_
  refine l_sld 877 C h dL_law_876 rfl (fun h => ?_)
  obtain ⟨r2, s2, h0, h⟩ := ob2 h
  refine l_call 880 8 C [.int (xs (ix (i + 1))), .int (xs (ix (i + 2))), .int (xs (ix (i + 3))), .int (xs (ix (i + 4)))] (rfl : kK 112 = 8) rfl (fun _ => ⟨_, cel_8 rfl⟩) (c_X12_tipped (xs (ix (i + 1))) (xs (ix (i + 2))) (xs (ix (i + 3))) (xs (ix (i + 4))) _ _ h0) cl_X12_tipped gL_law_X12_tipped rfl ⟨Nat.le_of_ble_eq_true rfl, Nat.le_of_ble_eq_true rfl⟩ rfl rfl (Nat.le_of_ble_eq_true rfl) dL_law_877 rfl ?_
  refine l_icmp_eq 883 1239 C h dL_law_880 rfl (by decide) (fun h => ?_) (fun h => by cases h)
  exact hx s2 i h
def lf_23 (xs : Nat → Int32) (L : Nat) (nxt : Sg → Int32 → Option Int32) (σ : Sg) (i : Int32) : Option Int32 := (if inb (i + 1) L = true then bnd (f_X11_forget σ (xs (ix (i + 1)))) fun r1 s1 => if inb (i + 1) L = true then bnd (f_X12_forget s1 (xs (ix (i + 1)))) fun r2 s2 => if r1 = r2 then nxt s2 i else some 0 else none else none)
set_option maxRecDepth 100000 in
set_option maxHeartbeats 4000000 in
theorem lq_23 {p : Program} {l : Launch} {e : Env} {s : State} {m : MethodId} {below : List Frame} {meth : Method} {c : Code} {b L : Nat} {xs : Nat → Int32} {g : Cx} (C : LC p s m meth c b L xs g) (nxt : Sg → Int32 → Option Int32) (hx : ∀ σ i, nxt σ i = some 1 → VL p l e s m below meth c b g σ 1239 [(0, .ref b), (1, .ref (g.1 0)), (2, .ref (g.1 112)), (3, .int i)] []) (σ : Sg) (i : Int32) (h : lf_23 xs L nxt σ i = some 1) : VL p l e s m below meth c b g σ 885 [(0, .ref b), (1, .ref (g.1 0)), (2, .ref (g.1 112)), (3, .int i)] [] := by
  unfold lf_23 at h
  refine l_aload_n 886 C 1 dL_law_885 rfl rfl rfl ?_
  refine l_aload_n 887 C 0 dL_law_886 rfl rfl rfl ?_
  refine l_iload_n 888 C 3 dL_law_887 rfl rfl rfl ?_
  refine l_iconst 889 C 1 dL_law_888 kc_i_1 rfl ?_
  refine l_iadd 890 C dL_law_889 rfl ?_
  refine l_sld 891 C h dL_law_890 rfl (fun h => ?_)
  obtain ⟨r1, s1, h0, h⟩ := ob2 h
  refine l_call 894 7 C [.int (xs (ix (i + 1)))] (rfl : kK 0 = 7) rfl (fun _ => ⟨_, cel_7 rfl⟩) (c_X11_forget (xs (ix (i + 1))) _ _ h0) cl_X11_forget gL_law_X11_forget rfl ⟨Nat.le_of_ble_eq_true rfl, Nat.le_of_ble_eq_true rfl⟩ rfl rfl (Nat.le_of_ble_eq_true rfl) dL_law_891 rfl ?_
  refine l_aload_n 895 C 2 dL_law_894 rfl rfl rfl ?_
  refine l_aload_n 896 C 0 dL_law_895 rfl rfl rfl ?_
  refine l_iload_n 897 C 3 dL_law_896 rfl rfl rfl ?_
  refine l_iconst 898 C 1 dL_law_897 kc_i_1 rfl ?_
  refine l_iadd 899 C dL_law_898 rfl ?_
  refine l_sld 900 C h dL_law_899 rfl (fun h => ?_)
  obtain ⟨r2, s2, h0, h⟩ := ob2 h
  refine l_call 903 8 C [.int (xs (ix (i + 1)))] (rfl : kK 112 = 8) rfl (fun _ => ⟨_, cel_8 rfl⟩) (c_X12_forget (xs (ix (i + 1))) _ _ h0) cl_X12_forget gL_law_X12_forget rfl ⟨Nat.le_of_ble_eq_true rfl, Nat.le_of_ble_eq_true rfl⟩ rfl rfl (Nat.le_of_ble_eq_true rfl) dL_law_900 rfl ?_
  refine l_icmp_eq 906 1239 C h dL_law_903 rfl (by decide) (fun h => ?_) (fun h => by cases h)
  exact hx s2 i h
def lf_24 (xs : Nat → Int32) (L : Nat) (nxt : Sg → Int32 → Option Int32) (σ : Sg) (i : Int32) : Option Int32 := (if inb (i + 1) L = true then bnd (f_X11_is σ (xs (ix (i + 1)))) fun r1 s1 => if inb (i + 1) L = true then bnd (f_X12_is s1 (xs (ix (i + 1)))) fun r2 s2 => if r1 = r2 then nxt s2 i else some 0 else none else none)
set_option maxRecDepth 100000 in
set_option maxHeartbeats 4000000 in
theorem lq_24 {p : Program} {l : Launch} {e : Env} {s : State} {m : MethodId} {below : List Frame} {meth : Method} {c : Code} {b L : Nat} {xs : Nat → Int32} {g : Cx} (C : LC p s m meth c b L xs g) (nxt : Sg → Int32 → Option Int32) (hx : ∀ σ i, nxt σ i = some 1 → VL p l e s m below meth c b g σ 1239 [(0, .ref b), (1, .ref (g.1 0)), (2, .ref (g.1 112)), (3, .int i)] []) (σ : Sg) (i : Int32) (h : lf_24 xs L nxt σ i = some 1) : VL p l e s m below meth c b g σ 908 [(0, .ref b), (1, .ref (g.1 0)), (2, .ref (g.1 112)), (3, .int i)] [] := by
  unfold lf_24 at h
  refine l_aload_n 909 C 1 dL_law_908 rfl rfl rfl ?_
  refine l_aload_n 910 C 0 dL_law_909 rfl rfl rfl ?_
  refine l_iload_n 911 C 3 dL_law_910 rfl rfl rfl ?_
  refine l_iconst 912 C 1 dL_law_911 kc_i_1 rfl ?_
  refine l_iadd 913 C dL_law_912 rfl ?_
  refine l_sld 914 C h dL_law_913 rfl (fun h => ?_)
  obtain ⟨r1, s1, h0, h⟩ := ob2 h
  refine l_call 917 7 C [.int (xs (ix (i + 1)))] (rfl : kK 0 = 7) rfl (fun _ => ⟨_, cel_7 rfl⟩) (c_X11_is (xs (ix (i + 1))) _ _ h0) cl_X11_is gL_law_X11_is rfl ⟨Nat.le_of_ble_eq_true rfl, Nat.le_of_ble_eq_true rfl⟩ rfl rfl (Nat.le_of_ble_eq_true rfl) dL_law_914 rfl ?_
  refine l_aload_n 918 C 2 dL_law_917 rfl rfl rfl ?_
  refine l_aload_n 919 C 0 dL_law_918 rfl rfl rfl ?_
  refine l_iload_n 920 C 3 dL_law_919 rfl rfl rfl ?_
  refine l_iconst 921 C 1 dL_law_920 kc_i_1 rfl ?_
  refine l_iadd 922 C dL_law_921 rfl ?_
  refine l_sld 923 C h dL_law_922 rfl (fun h => ?_)
  obtain ⟨r2, s2, h0, h⟩ := ob2 h
  refine l_call 926 8 C [.int (xs (ix (i + 1)))] (rfl : kK 112 = 8) rfl (fun _ => ⟨_, cel_8 rfl⟩) (c_X12_is (xs (ix (i + 1))) _ _ h0) cl_X12_is gL_law_X12_is rfl ⟨Nat.le_of_ble_eq_true rfl, Nat.le_of_ble_eq_true rfl⟩ rfl rfl (Nat.le_of_ble_eq_true rfl) dL_law_923 rfl ?_
  refine l_icmp_eq 929 1239 C h dL_law_926 rfl (by decide) (fun h => ?_) (fun h => by cases h)
  exact hx s2 i h
def lf_25 (xs : Nat → Int32) (L : Nat) (nxt : Sg → Int32 → Option Int32) (σ : Sg) (i : Int32) : Option Int32 := (if inb (i + 1) L = true then bnd (f_X11_watch σ (xs (ix (i + 1)))) fun r1 s1 => if inb (i + 1) L = true then bnd (f_X12_watch s1 (xs (ix (i + 1)))) fun r2 s2 => if r1 = r2 then nxt s2 i else some 0 else none else none)
set_option maxRecDepth 100000 in
set_option maxHeartbeats 4000000 in
theorem lq_25 {p : Program} {l : Launch} {e : Env} {s : State} {m : MethodId} {below : List Frame} {meth : Method} {c : Code} {b L : Nat} {xs : Nat → Int32} {g : Cx} (C : LC p s m meth c b L xs g) (nxt : Sg → Int32 → Option Int32) (hx : ∀ σ i, nxt σ i = some 1 → VL p l e s m below meth c b g σ 1239 [(0, .ref b), (1, .ref (g.1 0)), (2, .ref (g.1 112)), (3, .int i)] []) (σ : Sg) (i : Int32) (h : lf_25 xs L nxt σ i = some 1) : VL p l e s m below meth c b g σ 931 [(0, .ref b), (1, .ref (g.1 0)), (2, .ref (g.1 112)), (3, .int i)] [] := by
  unfold lf_25 at h
  refine l_aload_n 932 C 1 dL_law_931 rfl rfl rfl ?_
  refine l_aload_n 933 C 0 dL_law_932 rfl rfl rfl ?_
  refine l_iload_n 934 C 3 dL_law_933 rfl rfl rfl ?_
  refine l_iconst 935 C 1 dL_law_934 kc_i_1 rfl ?_
  refine l_iadd 936 C dL_law_935 rfl ?_
  refine l_sld 937 C h dL_law_936 rfl (fun h => ?_)
  obtain ⟨r1, s1, h0, h⟩ := ob2 h
  refine l_call 940 7 C [.int (xs (ix (i + 1)))] (rfl : kK 0 = 7) rfl (fun _ => ⟨_, cel_7 rfl⟩) (c_X11_watch (xs (ix (i + 1))) _ _ h0) cl_X11_watch gL_law_X11_watch rfl ⟨Nat.le_of_ble_eq_true rfl, Nat.le_of_ble_eq_true rfl⟩ rfl rfl (Nat.le_of_ble_eq_true rfl) dL_law_937 rfl ?_
  refine l_aload_n 941 C 2 dL_law_940 rfl rfl rfl ?_
  refine l_aload_n 942 C 0 dL_law_941 rfl rfl rfl ?_
  refine l_iload_n 943 C 3 dL_law_942 rfl rfl rfl ?_
  refine l_iconst 944 C 1 dL_law_943 kc_i_1 rfl ?_
  refine l_iadd 945 C dL_law_944 rfl ?_
  refine l_sld 946 C h dL_law_945 rfl (fun h => ?_)
  obtain ⟨r2, s2, h0, h⟩ := ob2 h
  refine l_call 949 8 C [.int (xs (ix (i + 1)))] (rfl : kK 112 = 8) rfl (fun _ => ⟨_, cel_8 rfl⟩) (c_X12_watch (xs (ix (i + 1))) _ _ h0) cl_X12_watch gL_law_X12_watch rfl ⟨Nat.le_of_ble_eq_true rfl, Nat.le_of_ble_eq_true rfl⟩ rfl rfl (Nat.le_of_ble_eq_true rfl) dL_law_946 rfl ?_
  refine l_icmp_eq 952 1239 C h dL_law_949 rfl (by decide) (fun h => ?_) (fun h => by cases h)
  exact hx s2 i h
def lf_26 (xs : Nat → Int32) (L : Nat) (nxt : Sg → Int32 → Option Int32) (σ : Sg) (i : Int32) : Option Int32 := (if inb (i + 1) L = true then bnd (f_X11_who σ (xs (ix (i + 1)))) fun r1 s1 => if inb (i + 1) L = true then bnd (f_X12_who s1 (xs (ix (i + 1)))) fun r2 s2 => if r1 = r2 then nxt s2 i else some 0 else none else none)
set_option maxRecDepth 100000 in
set_option maxHeartbeats 4000000 in
theorem lq_26 {p : Program} {l : Launch} {e : Env} {s : State} {m : MethodId} {below : List Frame} {meth : Method} {c : Code} {b L : Nat} {xs : Nat → Int32} {g : Cx} (C : LC p s m meth c b L xs g) (nxt : Sg → Int32 → Option Int32) (hx : ∀ σ i, nxt σ i = some 1 → VL p l e s m below meth c b g σ 1239 [(0, .ref b), (1, .ref (g.1 0)), (2, .ref (g.1 112)), (3, .int i)] []) (σ : Sg) (i : Int32) (h : lf_26 xs L nxt σ i = some 1) : VL p l e s m below meth c b g σ 954 [(0, .ref b), (1, .ref (g.1 0)), (2, .ref (g.1 112)), (3, .int i)] [] := by
  unfold lf_26 at h
  refine l_aload_n 955 C 1 dL_law_954 rfl rfl rfl ?_
  refine l_aload_n 956 C 0 dL_law_955 rfl rfl rfl ?_
  refine l_iload_n 957 C 3 dL_law_956 rfl rfl rfl ?_
  refine l_iconst 958 C 1 dL_law_957 kc_i_1 rfl ?_
  refine l_iadd 959 C dL_law_958 rfl ?_
  refine l_sld 960 C h dL_law_959 rfl (fun h => ?_)
  obtain ⟨r1, s1, h0, h⟩ := ob2 h
  refine l_call 963 7 C [.int (xs (ix (i + 1)))] (rfl : kK 0 = 7) rfl (fun _ => ⟨_, cel_7 rfl⟩) (c_X11_who (xs (ix (i + 1))) _ _ h0) cl_X11_who gL_law_X11_who rfl ⟨Nat.le_of_ble_eq_true rfl, Nat.le_of_ble_eq_true rfl⟩ rfl rfl (Nat.le_of_ble_eq_true rfl) dL_law_960 rfl ?_
  refine l_aload_n 964 C 2 dL_law_963 rfl rfl rfl ?_
  refine l_aload_n 965 C 0 dL_law_964 rfl rfl rfl ?_
  refine l_iload_n 966 C 3 dL_law_965 rfl rfl rfl ?_
  refine l_iconst 967 C 1 dL_law_966 kc_i_1 rfl ?_
  refine l_iadd 968 C dL_law_967 rfl ?_
  refine l_sld 969 C h dL_law_968 rfl (fun h => ?_)
  obtain ⟨r2, s2, h0, h⟩ := ob2 h
  refine l_call 972 8 C [.int (xs (ix (i + 1)))] (rfl : kK 112 = 8) rfl (fun _ => ⟨_, cel_8 rfl⟩) (c_X12_who (xs (ix (i + 1))) _ _ h0) cl_X12_who gL_law_X12_who rfl ⟨Nat.le_of_ble_eq_true rfl, Nat.le_of_ble_eq_true rfl⟩ rfl rfl (Nat.le_of_ble_eq_true rfl) dL_law_969 rfl ?_
  refine l_icmp_eq 975 1239 C h dL_law_972 rfl (by decide) (fun h => ?_) (fun h => by cases h)
  exact hx s2 i h
def lf_27 (xs : Nat → Int32) (L : Nat) (nxt : Sg → Int32 → Option Int32) (σ : Sg) (i : Int32) : Option Int32 := (if inb (i + 1) L = true then bnd (f_X11_lay σ (xs (ix (i + 1)))) fun r1 s1 => if inb (i + 1) L = true then bnd (f_X12_lay s1 (xs (ix (i + 1)))) fun r2 s2 => if r1 = r2 then nxt s2 i else some 0 else none else none)
set_option maxRecDepth 100000 in
set_option maxHeartbeats 4000000 in
theorem lq_27 {p : Program} {l : Launch} {e : Env} {s : State} {m : MethodId} {below : List Frame} {meth : Method} {c : Code} {b L : Nat} {xs : Nat → Int32} {g : Cx} (C : LC p s m meth c b L xs g) (nxt : Sg → Int32 → Option Int32) (hx : ∀ σ i, nxt σ i = some 1 → VL p l e s m below meth c b g σ 1239 [(0, .ref b), (1, .ref (g.1 0)), (2, .ref (g.1 112)), (3, .int i)] []) (σ : Sg) (i : Int32) (h : lf_27 xs L nxt σ i = some 1) : VL p l e s m below meth c b g σ 977 [(0, .ref b), (1, .ref (g.1 0)), (2, .ref (g.1 112)), (3, .int i)] [] := by
  unfold lf_27 at h
  refine l_aload_n 978 C 1 dL_law_977 rfl rfl rfl ?_
  refine l_aload_n 979 C 0 dL_law_978 rfl rfl rfl ?_
  refine l_iload_n 980 C 3 dL_law_979 rfl rfl rfl ?_
  refine l_iconst 981 C 1 dL_law_980 kc_i_1 rfl ?_
  refine l_iadd 982 C dL_law_981 rfl ?_
  refine l_sld 983 C h dL_law_982 rfl (fun h => ?_)
  obtain ⟨r1, s1, h0, h⟩ := ob2 h
  refine l_call 986 7 C [.int (xs (ix (i + 1)))] (rfl : kK 0 = 7) rfl (fun _ => ⟨_, cel_7 rfl⟩) (c_X11_lay (xs (ix (i + 1))) _ _ h0) cl_X11_lay gL_law_X11_lay rfl ⟨Nat.le_of_ble_eq_true rfl, Nat.le_of_ble_eq_true rfl⟩ rfl rfl (Nat.le_of_ble_eq_true rfl) dL_law_983 rfl ?_
  refine l_aload_n 987 C 2 dL_law_986 rfl rfl rfl ?_
  refine l_aload_n 988 C 0 dL_law_987 rfl rfl rfl ?_
  refine l_iload_n 989 C 3 dL_law_988 rfl rfl rfl ?_
  refine l_iconst 990 C 1 dL_law_989 kc_i_1 rfl ?_
  refine l_iadd 991 C dL_law_990 rfl ?_
  refine l_sld 992 C h dL_law_991 rfl (fun h => ?_)
  obtain ⟨r2, s2, h0, h⟩ := ob2 h
  refine l_call 995 8 C [.int (xs (ix (i + 1)))] (rfl : kK 112 = 8) rfl (fun _ => ⟨_, cel_8 rfl⟩) (c_X12_lay (xs (ix (i + 1))) _ _ h0) cl_X12_lay gL_law_X12_lay rfl ⟨Nat.le_of_ble_eq_true rfl, Nat.le_of_ble_eq_true rfl⟩ rfl rfl (Nat.le_of_ble_eq_true rfl) dL_law_992 rfl ?_
  refine l_icmp_eq 998 1239 C h dL_law_995 rfl (by decide) (fun h => ?_) (fun h => by cases h)
  exact hx s2 i h
def lf_28 (xs : Nat → Int32) (L : Nat) (nxt : Sg → Int32 → Option Int32) (σ : Sg) (i : Int32) : Option Int32 := (if inb (i + 1) L = true then if inb (i + 2) L = true then bnd (f_X11_buyers σ (xs (ix (i + 1))) (xs (ix (i + 2)))) fun r1 s1 => if inb (i + 1) L = true then if inb (i + 2) L = true then bnd (f_X12_buyers s1 (xs (ix (i + 1))) (xs (ix (i + 2)))) fun r2 s2 => if r1 = r2 then nxt s2 i else some 0 else none else none else none else none)
set_option maxRecDepth 100000 in
set_option maxHeartbeats 4000000 in
theorem lq_28 {p : Program} {l : Launch} {e : Env} {s : State} {m : MethodId} {below : List Frame} {meth : Method} {c : Code} {b L : Nat} {xs : Nat → Int32} {g : Cx} (C : LC p s m meth c b L xs g) (nxt : Sg → Int32 → Option Int32) (hx : ∀ σ i, nxt σ i = some 1 → VL p l e s m below meth c b g σ 1239 [(0, .ref b), (1, .ref (g.1 0)), (2, .ref (g.1 112)), (3, .int i)] []) (σ : Sg) (i : Int32) (h : lf_28 xs L nxt σ i = some 1) : VL p l e s m below meth c b g σ 1000 [(0, .ref b), (1, .ref (g.1 0)), (2, .ref (g.1 112)), (3, .int i)] [] := by
  unfold lf_28 at h
  refine l_aload_n 1001 C 1 dL_law_1000 rfl rfl rfl ?_
  refine l_aload_n 1002 C 0 dL_law_1001 rfl rfl rfl ?_
  refine l_iload_n 1003 C 3 dL_law_1002 rfl rfl rfl ?_
  refine l_iconst 1004 C 1 dL_law_1003 kc_i_1 rfl ?_
  refine l_iadd 1005 C dL_law_1004 rfl ?_
  refine l_sld 1006 C h dL_law_1005 rfl (fun h => ?_)
  refine l_aload_n 1007 C 0 dL_law_1006 rfl rfl rfl ?_
  refine l_iload_n 1008 C 3 dL_law_1007 rfl rfl rfl ?_
  refine l_iconst 1009 C 2 dL_law_1008 kc_i_2 rfl ?_
  refine l_iadd 1010 C dL_law_1009 rfl ?_
  refine l_sld 1011 C h dL_law_1010 rfl (fun h => ?_)
  obtain ⟨r1, s1, h0, h⟩ := ob2 h
  refine l_call 1014 7 C [.int (xs (ix (i + 1))), .int (xs (ix (i + 2)))] (rfl : kK 0 = 7) rfl (fun _ => ⟨_, cel_7 rfl⟩) (c_X11_buyers (xs (ix (i + 1))) (xs (ix (i + 2))) _ _ h0) cl_X11_buyers gL_law_X11_buyers rfl ⟨Nat.le_of_ble_eq_true rfl, Nat.le_of_ble_eq_true rfl⟩ rfl rfl (Nat.le_of_ble_eq_true rfl) dL_law_1011 rfl ?_
  refine l_aload_n 1015 C 2 dL_law_1014 rfl rfl rfl ?_
  refine l_aload_n 1016 C 0 dL_law_1015 rfl rfl rfl ?_
  refine l_iload_n 1017 C 3 dL_law_1016 rfl rfl rfl ?_
  refine l_iconst 1018 C 1 dL_law_1017 kc_i_1 rfl ?_
  refine l_iadd 1019 C dL_law_1018 rfl ?_
  refine l_sld 1020 C h dL_law_1019 rfl (fun h => ?_)
  refine l_aload_n 1021 C 0 dL_law_1020 rfl rfl rfl ?_
  refine l_iload_n 1022 C 3 dL_law_1021 rfl rfl rfl ?_
  refine l_iconst 1023 C 2 dL_law_1022 kc_i_2 rfl ?_
  refine l_iadd 1024 C dL_law_1023 rfl ?_
  refine l_sld 1025 C h dL_law_1024 rfl (fun h => ?_)
  obtain ⟨r2, s2, h0, h⟩ := ob2 h
  refine l_call 1028 8 C [.int (xs (ix (i + 1))), .int (xs (ix (i + 2)))] (rfl : kK 112 = 8) rfl (fun _ => ⟨_, cel_8 rfl⟩) (c_X12_buyers (xs (ix (i + 1))) (xs (ix (i + 2))) _ _ h0) cl_X12_buyers gL_law_X12_buyers rfl ⟨Nat.le_of_ble_eq_true rfl, Nat.le_of_ble_eq_true rfl⟩ rfl rfl (Nat.le_of_ble_eq_true rfl) dL_law_1025 rfl ?_
  refine l_icmp_eq 1031 1239 C h dL_law_1028 rfl (by decide) (fun h => ?_) (fun h => by cases h)
  exact hx s2 i h
def lf_29 (xs : Nat → Int32) (L : Nat) (nxt : Sg → Int32 → Option Int32) (σ : Sg) (i : Int32) : Option Int32 := (if inb (i + 1) L = true then if inb (i + 2) L = true then if inb (i + 3) L = true then bnd (f_X11_refusals σ (xs (ix (i + 1))) (xs (ix (i + 2))) (xs (ix (i + 3)))) fun r1 s1 => if inb (i + 1) L = true then if inb (i + 2) L = true then if inb (i + 3) L = true then bnd (f_X12_refusals s1 (xs (ix (i + 1))) (xs (ix (i + 2))) (xs (ix (i + 3)))) fun r2 s2 => if r1 = r2 then nxt s2 i else some 0 else none else none else none else none else none else none)
set_option maxRecDepth 100000 in
set_option maxHeartbeats 4000000 in
theorem lq_29 {p : Program} {l : Launch} {e : Env} {s : State} {m : MethodId} {below : List Frame} {meth : Method} {c : Code} {b L : Nat} {xs : Nat → Int32} {g : Cx} (C : LC p s m meth c b L xs g) (nxt : Sg → Int32 → Option Int32) (hx : ∀ σ i, nxt σ i = some 1 → VL p l e s m below meth c b g σ 1239 [(0, .ref b), (1, .ref (g.1 0)), (2, .ref (g.1 112)), (3, .int i)] []) (σ : Sg) (i : Int32) (h : lf_29 xs L nxt σ i = some 1) : VL p l e s m below meth c b g σ 1033 [(0, .ref b), (1, .ref (g.1 0)), (2, .ref (g.1 112)), (3, .int i)] [] := by
  unfold lf_29 at h
  refine l_aload_n 1034 C 1 dL_law_1033 rfl rfl rfl ?_
  refine l_aload_n 1035 C 0 dL_law_1034 rfl rfl rfl ?_
  refine l_iload_n 1036 C 3 dL_law_1035 rfl rfl rfl ?_
  refine l_iconst 1037 C 1 dL_law_1036 kc_i_1 rfl ?_
  refine l_iadd 1038 C dL_law_1037 rfl ?_
  refine l_sld 1039 C h dL_law_1038 rfl (fun h => ?_)
  refine l_aload_n 1040 C 0 dL_law_1039 rfl rfl rfl ?_
  refine l_iload_n 1041 C 3 dL_law_1040 rfl rfl rfl ?_
  refine l_iconst 1042 C 2 dL_law_1041 kc_i_2 rfl ?_
  refine l_iadd 1043 C dL_law_1042 rfl ?_
  refine l_sld 1044 C h dL_law_1043 rfl (fun h => ?_)
  refine l_aload_n 1045 C 0 dL_law_1044 rfl rfl rfl ?_
  refine l_iload_n 1046 C 3 dL_law_1045 rfl rfl rfl ?_
  refine l_iconst 1047 C 3 dL_law_1046 kc_i_3 rfl ?_
  refine l_iadd 1048 C dL_law_1047 rfl ?_
  refine l_sld 1049 C h dL_law_1048 rfl (fun h => ?_)
  obtain ⟨r1, s1, h0, h⟩ := ob2 h
  refine l_call 1052 7 C [.int (xs (ix (i + 1))), .int (xs (ix (i + 2))), .int (xs (ix (i + 3)))] (rfl : kK 0 = 7) rfl (fun _ => ⟨_, cel_7 rfl⟩) (c_X11_refusals (xs (ix (i + 1))) (xs (ix (i + 2))) (xs (ix (i + 3))) _ _ h0) cl_X11_refusals gL_law_X11_refusals rfl ⟨Nat.le_of_ble_eq_true rfl, Nat.le_of_ble_eq_true rfl⟩ rfl rfl (Nat.le_of_ble_eq_true rfl) dL_law_1049 rfl ?_
  refine l_aload_n 1053 C 2 dL_law_1052 rfl rfl rfl ?_
  refine l_aload_n 1054 C 0 dL_law_1053 rfl rfl rfl ?_
  refine l_iload_n 1055 C 3 dL_law_1054 rfl rfl rfl ?_
  refine l_iconst 1056 C 1 dL_law_1055 kc_i_1 rfl ?_
  refine l_iadd 1057 C dL_law_1056 rfl ?_
  refine l_sld 1058 C h dL_law_1057 rfl (fun h => ?_)
  refine l_aload_n 1059 C 0 dL_law_1058 rfl rfl rfl ?_
  refine l_iload_n 1060 C 3 dL_law_1059 rfl rfl rfl ?_
  refine l_iconst 1061 C 2 dL_law_1060 kc_i_2 rfl ?_
  refine l_iadd 1062 C dL_law_1061 rfl ?_
  refine l_sld 1063 C h dL_law_1062 rfl (fun h => ?_)
  refine l_aload_n 1064 C 0 dL_law_1063 rfl rfl rfl ?_
  refine l_iload_n 1065 C 3 dL_law_1064 rfl rfl rfl ?_
  refine l_iconst 1066 C 3 dL_law_1065 kc_i_3 rfl ?_
  refine l_iadd 1067 C dL_law_1066 rfl ?_
  refine l_sld 1068 C h dL_law_1067 rfl (fun h => ?_)
  obtain ⟨r2, s2, h0, h⟩ := ob2 h
  refine l_call 1071 8 C [.int (xs (ix (i + 1))), .int (xs (ix (i + 2))), .int (xs (ix (i + 3)))] (rfl : kK 112 = 8) rfl (fun _ => ⟨_, cel_8 rfl⟩) (c_X12_refusals (xs (ix (i + 1))) (xs (ix (i + 2))) (xs (ix (i + 3))) _ _ h0) cl_X12_refusals gL_law_X12_refusals rfl ⟨Nat.le_of_ble_eq_true rfl, Nat.le_of_ble_eq_true rfl⟩ rfl rfl (Nat.le_of_ble_eq_true rfl) dL_law_1068 rfl ?_
  refine l_icmp_eq 1074 1239 C h dL_law_1071 rfl (by decide) (fun h => ?_) (fun h => by cases h)
  exact hx s2 i h
def lf_30 (xs : Nat → Int32) (L : Nat) (nxt : Sg → Int32 → Option Int32) (σ : Sg) (i : Int32) : Option Int32 := (if inb (i + 1) L = true then if inb (i + 2) L = true then bnd (f_X11_years σ (xs (ix (i + 1))) (xs (ix (i + 2)))) fun r1 s1 => if inb (i + 1) L = true then if inb (i + 2) L = true then bnd (f_X12_years s1 (xs (ix (i + 1))) (xs (ix (i + 2)))) fun r2 s2 => if r1 = r2 then nxt s2 i else some 0 else none else none else none else none)
set_option maxRecDepth 100000 in
set_option maxHeartbeats 4000000 in
theorem lq_30 {p : Program} {l : Launch} {e : Env} {s : State} {m : MethodId} {below : List Frame} {meth : Method} {c : Code} {b L : Nat} {xs : Nat → Int32} {g : Cx} (C : LC p s m meth c b L xs g) (nxt : Sg → Int32 → Option Int32) (hx : ∀ σ i, nxt σ i = some 1 → VL p l e s m below meth c b g σ 1239 [(0, .ref b), (1, .ref (g.1 0)), (2, .ref (g.1 112)), (3, .int i)] []) (σ : Sg) (i : Int32) (h : lf_30 xs L nxt σ i = some 1) : VL p l e s m below meth c b g σ 1076 [(0, .ref b), (1, .ref (g.1 0)), (2, .ref (g.1 112)), (3, .int i)] [] := by
  unfold lf_30 at h
  refine l_aload_n 1077 C 1 dL_law_1076 rfl rfl rfl ?_
  refine l_aload_n 1078 C 0 dL_law_1077 rfl rfl rfl ?_
  refine l_iload_n 1079 C 3 dL_law_1078 rfl rfl rfl ?_
  refine l_iconst 1080 C 1 dL_law_1079 kc_i_1 rfl ?_
  refine l_iadd 1081 C dL_law_1080 rfl ?_
  refine l_sld 1082 C h dL_law_1081 rfl (fun h => ?_)
  refine l_aload_n 1083 C 0 dL_law_1082 rfl rfl rfl ?_
  refine l_iload_n 1084 C 3 dL_law_1083 rfl rfl rfl ?_
  refine l_iconst 1085 C 2 dL_law_1084 kc_i_2 rfl ?_
  refine l_iadd 1086 C dL_law_1085 rfl ?_
  refine l_sld 1087 C h dL_law_1086 rfl (fun h => ?_)
  obtain ⟨r1, s1, h0, h⟩ := ob2 h
  refine l_call 1090 7 C [.int (xs (ix (i + 1))), .int (xs (ix (i + 2)))] (rfl : kK 0 = 7) rfl (fun _ => ⟨_, cel_7 rfl⟩) (c_X11_years (xs (ix (i + 1))) (xs (ix (i + 2))) _ _ h0) cl_X11_years gL_law_X11_years rfl ⟨Nat.le_of_ble_eq_true rfl, Nat.le_of_ble_eq_true rfl⟩ rfl rfl (Nat.le_of_ble_eq_true rfl) dL_law_1087 rfl ?_
  refine l_aload_n 1091 C 2 dL_law_1090 rfl rfl rfl ?_
  refine l_aload_n 1092 C 0 dL_law_1091 rfl rfl rfl ?_
  refine l_iload_n 1093 C 3 dL_law_1092 rfl rfl rfl ?_
  refine l_iconst 1094 C 1 dL_law_1093 kc_i_1 rfl ?_
  refine l_iadd 1095 C dL_law_1094 rfl ?_
  refine l_sld 1096 C h dL_law_1095 rfl (fun h => ?_)
  refine l_aload_n 1097 C 0 dL_law_1096 rfl rfl rfl ?_
  refine l_iload_n 1098 C 3 dL_law_1097 rfl rfl rfl ?_
  refine l_iconst 1099 C 2 dL_law_1098 kc_i_2 rfl ?_
  refine l_iadd 1100 C dL_law_1099 rfl ?_
  refine l_sld 1101 C h dL_law_1100 rfl (fun h => ?_)
  obtain ⟨r2, s2, h0, h⟩ := ob2 h
  refine l_call 1104 8 C [.int (xs (ix (i + 1))), .int (xs (ix (i + 2)))] (rfl : kK 112 = 8) rfl (fun _ => ⟨_, cel_8 rfl⟩) (c_X12_years (xs (ix (i + 1))) (xs (ix (i + 2))) _ _ h0) cl_X12_years gL_law_X12_years rfl ⟨Nat.le_of_ble_eq_true rfl, Nat.le_of_ble_eq_true rfl⟩ rfl rfl (Nat.le_of_ble_eq_true rfl) dL_law_1101 rfl ?_
  refine l_icmp_eq 1107 1239 C h dL_law_1104 rfl (by decide) (fun h => ?_) (fun h => by cases h)
  exact hx s2 i h
def lf_31 (xs : Nat → Int32) (L : Nat) (nxt : Sg → Int32 → Option Int32) (σ : Sg) (i : Int32) : Option Int32 := (if inb (i + 1) L = true then bnd (f_X11_part σ (xs (ix (i + 1)))) fun r1 s1 => if inb (i + 1) L = true then bnd (f_X12_part s1 (xs (ix (i + 1)))) fun r2 s2 => if lg_cmp r1 r2 = 0 then nxt s2 i else some 0 else none else none)
set_option maxRecDepth 100000 in
set_option maxHeartbeats 4000000 in
theorem lq_31 {p : Program} {l : Launch} {e : Env} {s : State} {m : MethodId} {below : List Frame} {meth : Method} {c : Code} {b L : Nat} {xs : Nat → Int32} {g : Cx} (C : LC p s m meth c b L xs g) (nxt : Sg → Int32 → Option Int32) (hx : ∀ σ i, nxt σ i = some 1 → VL p l e s m below meth c b g σ 1239 [(0, .ref b), (1, .ref (g.1 0)), (2, .ref (g.1 112)), (3, .int i)] []) (σ : Sg) (i : Int32) (h : lf_31 xs L nxt σ i = some 1) : VL p l e s m below meth c b g σ 1109 [(0, .ref b), (1, .ref (g.1 0)), (2, .ref (g.1 112)), (3, .int i)] [] := by
  unfold lf_31 at h
  refine l_aload_n 1110 C 1 dL_law_1109 rfl rfl rfl ?_
  refine l_aload_n 1111 C 0 dL_law_1110 rfl rfl rfl ?_
  refine l_iload_n 1112 C 3 dL_law_1111 rfl rfl rfl ?_
  refine l_iconst 1113 C 1 dL_law_1112 kc_i_1 rfl ?_
  refine l_iadd 1114 C dL_law_1113 rfl ?_
  refine l_sld 1115 C h dL_law_1114 rfl (fun h => ?_)
  obtain ⟨r1, s1, h0, h⟩ := ob2 h
  refine l_call 1118 7 C [.int (xs (ix (i + 1)))] (rfl : kK 0 = 7) rfl (fun _ => ⟨_, cel_7 rfl⟩) (c_X11_part (xs (ix (i + 1))) _ _ h0) cl_X11_part gL_law_X11_part rfl ⟨Nat.le_of_ble_eq_true rfl, Nat.le_of_ble_eq_true rfl⟩ rfl rfl (Nat.le_of_ble_eq_true rfl) dL_law_1115 rfl ?_
  refine l_aload_n 1119 C 2 dL_law_1118 rfl rfl rfl ?_
  refine l_aload_n 1120 C 0 dL_law_1119 rfl rfl rfl ?_
  refine l_iload_n 1121 C 3 dL_law_1120 rfl rfl rfl ?_
  refine l_iconst 1122 C 1 dL_law_1121 kc_i_1 rfl ?_
  refine l_iadd 1123 C dL_law_1122 rfl ?_
  refine l_sld 1124 C h dL_law_1123 rfl (fun h => ?_)
  obtain ⟨r2, s2, h0, h⟩ := ob2 h
  refine l_call 1127 8 C [.int (xs (ix (i + 1)))] (rfl : kK 112 = 8) rfl (fun _ => ⟨_, cel_8 rfl⟩) (c_X12_part (xs (ix (i + 1))) _ _ h0) cl_X12_part gL_law_X12_part rfl ⟨Nat.le_of_ble_eq_true rfl, Nat.le_of_ble_eq_true rfl⟩ rfl rfl (Nat.le_of_ble_eq_true rfl) dL_law_1124 rfl ?_
  refine l_lcmp 1128 C dL_law_1127 rfl ?_
  refine l_if_eq 1131 1239 C h dL_law_1128 rfl (by decide) (fun h => ?_) (fun h => by cases h)
  exact hx s2 i h
def lf_32 (xs : Nat → Int32) (L : Nat) (nxt : Sg → Int32 → Option Int32) (σ : Sg) (i : Int32) : Option Int32 := (if inb (i + 1) L = true then bnd (f_X11_image σ (xs (ix (i + 1)))) fun r1 s1 => if inb (i + 1) L = true then bnd (f_X12_image s1 (xs (ix (i + 1)))) fun r2 s2 => if r1 = r2 then nxt s2 i else some 0 else none else none)
set_option maxRecDepth 100000 in
set_option maxHeartbeats 4000000 in
theorem lq_32 {p : Program} {l : Launch} {e : Env} {s : State} {m : MethodId} {below : List Frame} {meth : Method} {c : Code} {b L : Nat} {xs : Nat → Int32} {g : Cx} (C : LC p s m meth c b L xs g) (nxt : Sg → Int32 → Option Int32) (hx : ∀ σ i, nxt σ i = some 1 → VL p l e s m below meth c b g σ 1239 [(0, .ref b), (1, .ref (g.1 0)), (2, .ref (g.1 112)), (3, .int i)] []) (σ : Sg) (i : Int32) (h : lf_32 xs L nxt σ i = some 1) : VL p l e s m below meth c b g σ 1133 [(0, .ref b), (1, .ref (g.1 0)), (2, .ref (g.1 112)), (3, .int i)] [] := by
  unfold lf_32 at h
  refine l_aload_n 1134 C 1 dL_law_1133 rfl rfl rfl ?_
  refine l_aload_n 1135 C 0 dL_law_1134 rfl rfl rfl ?_
  refine l_iload_n 1136 C 3 dL_law_1135 rfl rfl rfl ?_
  refine l_iconst 1137 C 1 dL_law_1136 kc_i_1 rfl ?_
  refine l_iadd 1138 C dL_law_1137 rfl ?_
  refine l_sld 1139 C h dL_law_1138 rfl (fun h => ?_)
  obtain ⟨r1, s1, h0, h⟩ := ob2 h
  refine l_call 1142 7 C [.int (xs (ix (i + 1)))] (rfl : kK 0 = 7) rfl (fun _ => ⟨_, cel_7 rfl⟩) (c_X11_image (xs (ix (i + 1))) _ _ h0) cl_X11_image gL_law_X11_image rfl ⟨Nat.le_of_ble_eq_true rfl, Nat.le_of_ble_eq_true rfl⟩ rfl rfl (Nat.le_of_ble_eq_true rfl) dL_law_1139 rfl ?_
  refine l_aload_n 1143 C 2 dL_law_1142 rfl rfl rfl ?_
  refine l_aload_n 1144 C 0 dL_law_1143 rfl rfl rfl ?_
  refine l_iload_n 1145 C 3 dL_law_1144 rfl rfl rfl ?_
  refine l_iconst 1146 C 1 dL_law_1145 kc_i_1 rfl ?_
  refine l_iadd 1147 C dL_law_1146 rfl ?_
  refine l_sld 1148 C h dL_law_1147 rfl (fun h => ?_)
  obtain ⟨r2, s2, h0, h⟩ := ob2 h
  refine l_call 1151 8 C [.int (xs (ix (i + 1)))] (rfl : kK 112 = 8) rfl (fun _ => ⟨_, cel_8 rfl⟩) (c_X12_image (xs (ix (i + 1))) _ _ h0) cl_X12_image gL_law_X12_image rfl ⟨Nat.le_of_ble_eq_true rfl, Nat.le_of_ble_eq_true rfl⟩ rfl rfl (Nat.le_of_ble_eq_true rfl) dL_law_1148 rfl ?_
  refine l_icmp_eq 1154 1239 C h dL_law_1151 rfl (by decide) (fun h => ?_) (fun h => by cases h)
  exact hx s2 i h
def lf_33 (xs : Nat → Int32) (L : Nat) (nxt : Sg → Int32 → Option Int32) (σ : Sg) (i : Int32) : Option Int32 := (if inb (i + 1) L = true then bnd (f_X11_from σ (xs (ix (i + 1)))) fun r1 s1 => if inb (i + 1) L = true then bnd (f_X12_from s1 (xs (ix (i + 1)))) fun r2 s2 => if r1 = r2 then nxt s2 i else some 0 else none else none)
set_option maxRecDepth 100000 in
set_option maxHeartbeats 4000000 in
theorem lq_33 {p : Program} {l : Launch} {e : Env} {s : State} {m : MethodId} {below : List Frame} {meth : Method} {c : Code} {b L : Nat} {xs : Nat → Int32} {g : Cx} (C : LC p s m meth c b L xs g) (nxt : Sg → Int32 → Option Int32) (hx : ∀ σ i, nxt σ i = some 1 → VL p l e s m below meth c b g σ 1239 [(0, .ref b), (1, .ref (g.1 0)), (2, .ref (g.1 112)), (3, .int i)] []) (σ : Sg) (i : Int32) (h : lf_33 xs L nxt σ i = some 1) : VL p l e s m below meth c b g σ 1156 [(0, .ref b), (1, .ref (g.1 0)), (2, .ref (g.1 112)), (3, .int i)] [] := by
  unfold lf_33 at h
  refine l_aload_n 1157 C 1 dL_law_1156 rfl rfl rfl ?_
  refine l_aload_n 1158 C 0 dL_law_1157 rfl rfl rfl ?_
  refine l_iload_n 1159 C 3 dL_law_1158 rfl rfl rfl ?_
  refine l_iconst 1160 C 1 dL_law_1159 kc_i_1 rfl ?_
  refine l_iadd 1161 C dL_law_1160 rfl ?_
  refine l_sld 1162 C h dL_law_1161 rfl (fun h => ?_)
  obtain ⟨r1, s1, h0, h⟩ := ob2 h
  refine l_call 1165 7 C [.int (xs (ix (i + 1)))] (rfl : kK 0 = 7) rfl (fun _ => ⟨_, cel_7 rfl⟩) (c_X11_from (xs (ix (i + 1))) _ _ h0) cl_X11_from gL_law_X11_from rfl ⟨Nat.le_of_ble_eq_true rfl, Nat.le_of_ble_eq_true rfl⟩ rfl rfl (Nat.le_of_ble_eq_true rfl) dL_law_1162 rfl ?_
  refine l_aload_n 1166 C 2 dL_law_1165 rfl rfl rfl ?_
  refine l_aload_n 1167 C 0 dL_law_1166 rfl rfl rfl ?_
  refine l_iload_n 1168 C 3 dL_law_1167 rfl rfl rfl ?_
  refine l_iconst 1169 C 1 dL_law_1168 kc_i_1 rfl ?_
  refine l_iadd 1170 C dL_law_1169 rfl ?_
  refine l_sld 1171 C h dL_law_1170 rfl (fun h => ?_)
  obtain ⟨r2, s2, h0, h⟩ := ob2 h
  refine l_call 1174 8 C [.int (xs (ix (i + 1)))] (rfl : kK 112 = 8) rfl (fun _ => ⟨_, cel_8 rfl⟩) (c_X12_from (xs (ix (i + 1))) _ _ h0) cl_X12_from gL_law_X12_from rfl ⟨Nat.le_of_ble_eq_true rfl, Nat.le_of_ble_eq_true rfl⟩ rfl rfl (Nat.le_of_ble_eq_true rfl) dL_law_1171 rfl ?_
  refine l_icmp_eq 1177 1239 C h dL_law_1174 rfl (by decide) (fun h => ?_) (fun h => by cases h)
  exact hx s2 i h
def lf_34 (xs : Nat → Int32) (L : Nat) (nxt : Sg → Int32 → Option Int32) (σ : Sg) (i : Int32) : Option Int32 := (if inb (i + 1) L = true then bnd (f_X11_status σ (xs (ix (i + 1)))) fun r1 s1 => if inb (i + 1) L = true then bnd (f_X12_status s1 (xs (ix (i + 1)))) fun r2 s2 => if r1 = r2 then nxt s2 i else some 0 else none else none)
set_option maxRecDepth 100000 in
set_option maxHeartbeats 4000000 in
theorem lq_34 {p : Program} {l : Launch} {e : Env} {s : State} {m : MethodId} {below : List Frame} {meth : Method} {c : Code} {b L : Nat} {xs : Nat → Int32} {g : Cx} (C : LC p s m meth c b L xs g) (nxt : Sg → Int32 → Option Int32) (hx : ∀ σ i, nxt σ i = some 1 → VL p l e s m below meth c b g σ 1239 [(0, .ref b), (1, .ref (g.1 0)), (2, .ref (g.1 112)), (3, .int i)] []) (σ : Sg) (i : Int32) (h : lf_34 xs L nxt σ i = some 1) : VL p l e s m below meth c b g σ 1179 [(0, .ref b), (1, .ref (g.1 0)), (2, .ref (g.1 112)), (3, .int i)] [] := by
  unfold lf_34 at h
  refine l_aload_n 1180 C 1 dL_law_1179 rfl rfl rfl ?_
  refine l_aload_n 1181 C 0 dL_law_1180 rfl rfl rfl ?_
  refine l_iload_n 1182 C 3 dL_law_1181 rfl rfl rfl ?_
  refine l_iconst 1183 C 1 dL_law_1182 kc_i_1 rfl ?_
  refine l_iadd 1184 C dL_law_1183 rfl ?_
  refine l_sld 1185 C h dL_law_1184 rfl (fun h => ?_)
  obtain ⟨r1, s1, h0, h⟩ := ob2 h
  refine l_call 1188 7 C [.int (xs (ix (i + 1)))] (rfl : kK 0 = 7) rfl (fun _ => ⟨_, cel_7 rfl⟩) (c_X11_status (xs (ix (i + 1))) _ _ h0) cl_X11_status gL_law_X11_status rfl ⟨Nat.le_of_ble_eq_true rfl, Nat.le_of_ble_eq_true rfl⟩ rfl rfl (Nat.le_of_ble_eq_true rfl) dL_law_1185 rfl ?_
  refine l_aload_n 1189 C 2 dL_law_1188 rfl rfl rfl ?_
  refine l_aload_n 1190 C 0 dL_law_1189 rfl rfl rfl ?_
  refine l_iload_n 1191 C 3 dL_law_1190 rfl rfl rfl ?_
  refine l_iconst 1192 C 1 dL_law_1191 kc_i_1 rfl ?_
  refine l_iadd 1193 C dL_law_1192 rfl ?_
  refine l_sld 1194 C h dL_law_1193 rfl (fun h => ?_)
  obtain ⟨r2, s2, h0, h⟩ := ob2 h
  refine l_call 1197 8 C [.int (xs (ix (i + 1)))] (rfl : kK 112 = 8) rfl (fun _ => ⟨_, cel_8 rfl⟩) (c_X12_status (xs (ix (i + 1))) _ _ h0) cl_X12_status gL_law_X12_status rfl ⟨Nat.le_of_ble_eq_true rfl, Nat.le_of_ble_eq_true rfl⟩ rfl rfl (Nat.le_of_ble_eq_true rfl) dL_law_1194 rfl ?_
  refine l_icmp_eq 1200 1239 C h dL_law_1197 rfl (by decide) (fun h => ?_) (fun h => by cases h)
  exact hx s2 i h
def lf_35 (xs : Nat → Int32) (L : Nat) (nxt : Sg → Int32 → Option Int32) (σ : Sg) (i : Int32) : Option Int32 := (if inb (i + 1) L = true then bnd (f_X11_count σ (xs (ix (i + 1)))) fun r1 s1 => if inb (i + 1) L = true then bnd (f_X12_count s1 (xs (ix (i + 1)))) fun r2 s2 => if r1 = r2 then nxt s2 i else some 0 else none else none)
set_option maxRecDepth 100000 in
set_option maxHeartbeats 4000000 in
theorem lq_35 {p : Program} {l : Launch} {e : Env} {s : State} {m : MethodId} {below : List Frame} {meth : Method} {c : Code} {b L : Nat} {xs : Nat → Int32} {g : Cx} (C : LC p s m meth c b L xs g) (nxt : Sg → Int32 → Option Int32) (hx : ∀ σ i, nxt σ i = some 1 → VL p l e s m below meth c b g σ 1239 [(0, .ref b), (1, .ref (g.1 0)), (2, .ref (g.1 112)), (3, .int i)] []) (σ : Sg) (i : Int32) (h : lf_35 xs L nxt σ i = some 1) : VL p l e s m below meth c b g σ 1202 [(0, .ref b), (1, .ref (g.1 0)), (2, .ref (g.1 112)), (3, .int i)] [] := by
  unfold lf_35 at h
  refine l_aload_n 1203 C 1 dL_law_1202 rfl rfl rfl ?_
  refine l_aload_n 1204 C 0 dL_law_1203 rfl rfl rfl ?_
  refine l_iload_n 1205 C 3 dL_law_1204 rfl rfl rfl ?_
  refine l_iconst 1206 C 1 dL_law_1205 kc_i_1 rfl ?_
  refine l_iadd 1207 C dL_law_1206 rfl ?_
  refine l_sld 1208 C h dL_law_1207 rfl (fun h => ?_)
  obtain ⟨r1, s1, h0, h⟩ := ob2 h
  refine l_call 1211 7 C [.int (xs (ix (i + 1)))] (rfl : kK 0 = 7) rfl (fun _ => ⟨_, cel_7 rfl⟩) (c_X11_count (xs (ix (i + 1))) _ _ h0) cl_X11_count gL_law_X11_count rfl ⟨Nat.le_of_ble_eq_true rfl, Nat.le_of_ble_eq_true rfl⟩ rfl rfl (Nat.le_of_ble_eq_true rfl) dL_law_1208 rfl ?_
  refine l_aload_n 1212 C 2 dL_law_1211 rfl rfl rfl ?_
  refine l_aload_n 1213 C 0 dL_law_1212 rfl rfl rfl ?_
  refine l_iload_n 1214 C 3 dL_law_1213 rfl rfl rfl ?_
  refine l_iconst 1215 C 1 dL_law_1214 kc_i_1 rfl ?_
  refine l_iadd 1216 C dL_law_1215 rfl ?_
  refine l_sld 1217 C h dL_law_1216 rfl (fun h => ?_)
  obtain ⟨r2, s2, h0, h⟩ := ob2 h
  refine l_call 1220 8 C [.int (xs (ix (i + 1)))] (rfl : kK 112 = 8) rfl (fun _ => ⟨_, cel_8 rfl⟩) (c_X12_count (xs (ix (i + 1))) _ _ h0) cl_X12_count gL_law_X12_count rfl ⟨Nat.le_of_ble_eq_true rfl, Nat.le_of_ble_eq_true rfl⟩ rfl rfl (Nat.le_of_ble_eq_true rfl) dL_law_1217 rfl ?_
  refine l_icmp_eq 1223 1239 C h dL_law_1220 rfl (by decide) (fun h => ?_) (fun h => by cases h)
  exact hx s2 i h
def lf_36 (xs : Nat → Int32) (L : Nat) (nxt : Sg → Int32 → Option Int32) (σ : Sg) (i : Int32) : Option Int32 := ((f_X11_digest σ).bind fun r1 => bnd (f_X12_digest σ) fun r2 s2 => if lg_cmp r1 r2 = 0 then nxt s2 i else some 0)
set_option maxRecDepth 100000 in
set_option maxHeartbeats 4000000 in
theorem lq_36 {p : Program} {l : Launch} {e : Env} {s : State} {m : MethodId} {below : List Frame} {meth : Method} {c : Code} {b L : Nat} {xs : Nat → Int32} {g : Cx} (C : LC p s m meth c b L xs g) (nxt : Sg → Int32 → Option Int32) (hx : ∀ σ i, nxt σ i = some 1 → VL p l e s m below meth c b g σ 1239 [(0, .ref b), (1, .ref (g.1 0)), (2, .ref (g.1 112)), (3, .int i)] []) (σ : Sg) (i : Int32) (h : lf_36 xs L nxt σ i = some 1) : VL p l e s m below meth c b g σ 1225 [(0, .ref b), (1, .ref (g.1 0)), (2, .ref (g.1 112)), (3, .int i)] [] := by
  unfold lf_36 at h
  refine l_aload_n 1226 C 1 dL_law_1225 rfl rfl rfl ?_
  obtain ⟨r1, h0, h⟩ := ob h
  refine l_call 1229 7 C [] (rfl : kK 0 = 7) rfl (fun _ => ⟨_, cel_7 rfl⟩) (c_X11_digest _ h0) cl_X11_digest gL_law_X11_digest rfl ⟨Nat.le_of_ble_eq_true rfl, Nat.le_of_ble_eq_true rfl⟩ rfl rfl (Nat.le_of_ble_eq_true rfl) dL_law_1226 rfl ?_
  refine l_aload_n 1230 C 2 dL_law_1229 rfl rfl rfl ?_
  obtain ⟨r2, s2, h0, h⟩ := ob2 h
  refine l_call 1233 8 C [] (rfl : kK 112 = 8) rfl (fun _ => ⟨_, cel_8 rfl⟩) (c_X12_digest _ _ h0) cl_X12_digest gL_law_X12_digest rfl ⟨Nat.le_of_ble_eq_true rfl, Nat.le_of_ble_eq_true rfl⟩ rfl rfl (Nat.le_of_ble_eq_true rfl) dL_law_1230 rfl ?_
  refine l_lcmp 1234 C dL_law_1233 rfl ?_
  refine l_if_eq 1237 1239 C h dL_law_1234 rfl (by decide) (fun h => ?_) (fun h => by cases h)
  exact hx s2 i h
def lf_sw (xs : Nat → Int32) (L : Nat) (nxt : Sg → Int32 → Option Int32) (σ : Sg) (i x : Int32) : Option Int32 := (if x = 0 then lf_0 xs L nxt σ i else (if x = 1 then lf_1 xs L nxt σ i else (if x = 2 then lf_2 xs L nxt σ i else (if x = 3 then lf_3 xs L nxt σ i else (if x = 4 then lf_4 xs L nxt σ i else (if x = 5 then lf_5 xs L nxt σ i else (if x = 6 then lf_6 xs L nxt σ i else (if x = 7 then lf_7 xs L nxt σ i else (if x = 8 then lf_8 xs L nxt σ i else (if x = 9 then lf_9 xs L nxt σ i else (if x = 10 then lf_10 xs L nxt σ i else (if x = 11 then lf_11 xs L nxt σ i else (if x = 12 then lf_12 xs L nxt σ i else (if x = 13 then lf_13 xs L nxt σ i else (if x = 14 then lf_14 xs L nxt σ i else (if x = 15 then lf_15 xs L nxt σ i else (if x = 16 then lf_16 xs L nxt σ i else (if x = 17 then lf_17 xs L nxt σ i else (if x = 18 then lf_18 xs L nxt σ i else (if x = 19 then lf_19 xs L nxt σ i else (if x = 20 then lf_20 xs L nxt σ i else (if x = 21 then lf_21 xs L nxt σ i else (if x = 22 then lf_22 xs L nxt σ i else (if x = 23 then lf_23 xs L nxt σ i else (if x = 24 then lf_24 xs L nxt σ i else (if x = 25 then lf_25 xs L nxt σ i else (if x = 26 then lf_26 xs L nxt σ i else (if x = 27 then lf_27 xs L nxt σ i else (if x = 28 then lf_28 xs L nxt σ i else (if x = 29 then lf_29 xs L nxt σ i else (if x = 30 then lf_30 xs L nxt σ i else (if x = 31 then lf_31 xs L nxt σ i else (if x = 32 then lf_32 xs L nxt σ i else (if x = 33 then lf_33 xs L nxt σ i else (if x = 34 then lf_34 xs L nxt σ i else (if x = 35 then lf_35 xs L nxt σ i else (if x = 36 then lf_36 xs L nxt σ i else nxt σ i)))))))))))))))))))))))))))))))))))))
set_option maxRecDepth 100000 in
set_option maxHeartbeats 4000000 in
theorem lq_sw {p : Program} {l : Launch} {e : Env} {s : State} {m : MethodId} {below : List Frame} {meth : Method} {c : Code} {b L : Nat} {xs : Nat → Int32} {g : Cx} (C : LC p s m meth c b L xs g) (nxt : Sg → Int32 → Option Int32) (hx : ∀ σ i, nxt σ i = some 1 → VL p l e s m below meth c b g σ 1239 [(0, .ref b), (1, .ref (g.1 0)), (2, .ref (g.1 112)), (3, .int i)] []) (σ : Sg) (i x : Int32) (h : lf_sw xs L nxt σ i x = some 1) : VL p l e s m below meth c b g σ 32 [(0, .ref b), (1, .ref (g.1 0)), (2, .ref (g.1 112)), (3, .int i)] [.int x] := by
  unfold lf_sw at h
  refine v_ite h (fun q h => ?_) (fun q0 h => ?_)
  · exact l_tabIn 196 0 C dL_law_32 (ti_of q (by decide)) (by decide) (by decide) rfl (by decide) (lq_0 C nxt hx σ i h)
  refine v_ite h (fun q h => ?_) (fun q1 h => ?_)
  · exact l_tabIn 209 1 C dL_law_32 (ti_of q (by decide)) (by decide) (by decide) rfl (by decide) (lq_1 C nxt hx σ i h)
  refine v_ite h (fun q h => ?_) (fun q2 h => ?_)
  · exact l_tabIn 252 2 C dL_law_32 (ti_of q (by decide)) (by decide) (by decide) rfl (by decide) (lq_2 C nxt hx σ i h)
  refine v_ite h (fun q h => ?_) (fun q3 h => ?_)
  · exact l_tabIn 285 3 C dL_law_32 (ti_of q (by decide)) (by decide) (by decide) rfl (by decide) (lq_3 C nxt hx σ i h)
  refine v_ite h (fun q h => ?_) (fun q4 h => ?_)
  · exact l_tabIn 308 4 C dL_law_32 (ti_of q (by decide)) (by decide) (by decide) rfl (by decide) (lq_4 C nxt hx σ i h)
  refine v_ite h (fun q h => ?_) (fun q5 h => ?_)
  · exact l_tabIn 331 5 C dL_law_32 (ti_of q (by decide)) (by decide) (by decide) rfl (by decide) (lq_5 C nxt hx σ i h)
  refine v_ite h (fun q h => ?_) (fun q6 h => ?_)
  · exact l_tabIn 344 6 C dL_law_32 (ti_of q (by decide)) (by decide) (by decide) rfl (by decide) (lq_6 C nxt hx σ i h)
  refine v_ite h (fun q h => ?_) (fun q7 h => ?_)
  · exact l_tabIn 357 7 C dL_law_32 (ti_of q (by decide)) (by decide) (by decide) rfl (by decide) (lq_7 C nxt hx σ i h)
  refine v_ite h (fun q h => ?_) (fun q8 h => ?_)
  · exact l_tabIn 390 8 C dL_law_32 (ti_of q (by decide)) (by decide) (by decide) rfl (by decide) (lq_8 C nxt hx σ i h)
  refine v_ite h (fun q h => ?_) (fun q9 h => ?_)
  · exact l_tabIn 413 9 C dL_law_32 (ti_of q (by decide)) (by decide) (by decide) rfl (by decide) (lq_9 C nxt hx σ i h)
  refine v_ite h (fun q h => ?_) (fun q10 h => ?_)
  · exact l_tabIn 426 10 C dL_law_32 (ti_of q (by decide)) (by decide) (by decide) rfl (by decide) (lq_10 C nxt hx σ i h)
  refine v_ite h (fun q h => ?_) (fun q11 h => ?_)
  · exact l_tabIn 459 11 C dL_law_32 (ti_of q (by decide)) (by decide) (by decide) rfl (by decide) (lq_11 C nxt hx σ i h)
  refine v_ite h (fun q h => ?_) (fun q12 h => ?_)
  · exact l_tabIn 492 12 C dL_law_32 (ti_of q (by decide)) (by decide) (by decide) rfl (by decide) (lq_12 C nxt hx σ i h)
  refine v_ite h (fun q h => ?_) (fun q13 h => ?_)
  · exact l_tabIn 525 13 C dL_law_32 (ti_of q (by decide)) (by decide) (by decide) rfl (by decide) (lq_13 C nxt hx σ i h)
  refine v_ite h (fun q h => ?_) (fun q14 h => ?_)
  · exact l_tabIn 568 14 C dL_law_32 (ti_of q (by decide)) (by decide) (by decide) rfl (by decide) (lq_14 C nxt hx σ i h)
  refine v_ite h (fun q h => ?_) (fun q15 h => ?_)
  · exact l_tabIn 601 15 C dL_law_32 (ti_of q (by decide)) (by decide) (by decide) rfl (by decide) (lq_15 C nxt hx σ i h)
  refine v_ite h (fun q h => ?_) (fun q16 h => ?_)
  · exact l_tabIn 634 16 C dL_law_32 (ti_of q (by decide)) (by decide) (by decide) rfl (by decide) (lq_16 C nxt hx σ i h)
  refine v_ite h (fun q h => ?_) (fun q17 h => ?_)
  · exact l_tabIn 657 17 C dL_law_32 (ti_of q (by decide)) (by decide) (by decide) rfl (by decide) (lq_17 C nxt hx σ i h)
  refine v_ite h (fun q h => ?_) (fun q18 h => ?_)
  · exact l_tabIn 700 18 C dL_law_32 (ti_of q (by decide)) (by decide) (by decide) rfl (by decide) (lq_18 C nxt hx σ i h)
  refine v_ite h (fun q h => ?_) (fun q19 h => ?_)
  · exact l_tabIn 743 19 C dL_law_32 (ti_of q (by decide)) (by decide) (by decide) rfl (by decide) (lq_19 C nxt hx σ i h)
  refine v_ite h (fun q h => ?_) (fun q20 h => ?_)
  · exact l_tabIn 766 20 C dL_law_32 (ti_of q (by decide)) (by decide) (by decide) rfl (by decide) (lq_20 C nxt hx σ i h)
  refine v_ite h (fun q h => ?_) (fun q21 h => ?_)
  · exact l_tabIn 779 21 C dL_law_32 (ti_of q (by decide)) (by decide) (by decide) rfl (by decide) (lq_21 C nxt hx σ i h)
  refine v_ite h (fun q h => ?_) (fun q22 h => ?_)
  · exact l_tabIn 832 22 C dL_law_32 (ti_of q (by decide)) (by decide) (by decide) rfl (by decide) (lq_22 C nxt hx σ i h)
  refine v_ite h (fun q h => ?_) (fun q23 h => ?_)
  · exact l_tabIn 885 23 C dL_law_32 (ti_of q (by decide)) (by decide) (by decide) rfl (by decide) (lq_23 C nxt hx σ i h)
  refine v_ite h (fun q h => ?_) (fun q24 h => ?_)
  · exact l_tabIn 908 24 C dL_law_32 (ti_of q (by decide)) (by decide) (by decide) rfl (by decide) (lq_24 C nxt hx σ i h)
  refine v_ite h (fun q h => ?_) (fun q25 h => ?_)
  · exact l_tabIn 931 25 C dL_law_32 (ti_of q (by decide)) (by decide) (by decide) rfl (by decide) (lq_25 C nxt hx σ i h)
  refine v_ite h (fun q h => ?_) (fun q26 h => ?_)
  · exact l_tabIn 954 26 C dL_law_32 (ti_of q (by decide)) (by decide) (by decide) rfl (by decide) (lq_26 C nxt hx σ i h)
  refine v_ite h (fun q h => ?_) (fun q27 h => ?_)
  · exact l_tabIn 977 27 C dL_law_32 (ti_of q (by decide)) (by decide) (by decide) rfl (by decide) (lq_27 C nxt hx σ i h)
  refine v_ite h (fun q h => ?_) (fun q28 h => ?_)
  · exact l_tabIn 1000 28 C dL_law_32 (ti_of q (by decide)) (by decide) (by decide) rfl (by decide) (lq_28 C nxt hx σ i h)
  refine v_ite h (fun q h => ?_) (fun q29 h => ?_)
  · exact l_tabIn 1033 29 C dL_law_32 (ti_of q (by decide)) (by decide) (by decide) rfl (by decide) (lq_29 C nxt hx σ i h)
  refine v_ite h (fun q h => ?_) (fun q30 h => ?_)
  · exact l_tabIn 1076 30 C dL_law_32 (ti_of q (by decide)) (by decide) (by decide) rfl (by decide) (lq_30 C nxt hx σ i h)
  refine v_ite h (fun q h => ?_) (fun q31 h => ?_)
  · exact l_tabIn 1109 31 C dL_law_32 (ti_of q (by decide)) (by decide) (by decide) rfl (by decide) (lq_31 C nxt hx σ i h)
  refine v_ite h (fun q h => ?_) (fun q32 h => ?_)
  · exact l_tabIn 1133 32 C dL_law_32 (ti_of q (by decide)) (by decide) (by decide) rfl (by decide) (lq_32 C nxt hx σ i h)
  refine v_ite h (fun q h => ?_) (fun q33 h => ?_)
  · exact l_tabIn 1156 33 C dL_law_32 (ti_of q (by decide)) (by decide) (by decide) rfl (by decide) (lq_33 C nxt hx σ i h)
  refine v_ite h (fun q h => ?_) (fun q34 h => ?_)
  · exact l_tabIn 1179 34 C dL_law_32 (ti_of q (by decide)) (by decide) (by decide) rfl (by decide) (lq_34 C nxt hx σ i h)
  refine v_ite h (fun q h => ?_) (fun q35 h => ?_)
  · exact l_tabIn 1202 35 C dL_law_32 (ti_of q (by decide)) (by decide) (by decide) rfl (by decide) (lq_35 C nxt hx σ i h)
  refine v_ite h (fun q h => ?_) (fun q36 h => ?_)
  · exact l_tabIn 1225 36 C dL_law_32 (ti_of q (by decide)) (by decide) (by decide) rfl (by decide) (lq_36 C nxt hx σ i h)
  have a0 := ne_lit (n := 0) q0 (by decide)
  have a1 := ne_lit (n := 1) q1 (by decide)
  have a2 := ne_lit (n := 2) q2 (by decide)
  have a3 := ne_lit (n := 3) q3 (by decide)
  have a4 := ne_lit (n := 4) q4 (by decide)
  have a5 := ne_lit (n := 5) q5 (by decide)
  have a6 := ne_lit (n := 6) q6 (by decide)
  have a7 := ne_lit (n := 7) q7 (by decide)
  have a8 := ne_lit (n := 8) q8 (by decide)
  have a9 := ne_lit (n := 9) q9 (by decide)
  have a10 := ne_lit (n := 10) q10 (by decide)
  have a11 := ne_lit (n := 11) q11 (by decide)
  have a12 := ne_lit (n := 12) q12 (by decide)
  have a13 := ne_lit (n := 13) q13 (by decide)
  have a14 := ne_lit (n := 14) q14 (by decide)
  have a15 := ne_lit (n := 15) q15 (by decide)
  have a16 := ne_lit (n := 16) q16 (by decide)
  have a17 := ne_lit (n := 17) q17 (by decide)
  have a18 := ne_lit (n := 18) q18 (by decide)
  have a19 := ne_lit (n := 19) q19 (by decide)
  have a20 := ne_lit (n := 20) q20 (by decide)
  have a21 := ne_lit (n := 21) q21 (by decide)
  have a22 := ne_lit (n := 22) q22 (by decide)
  have a23 := ne_lit (n := 23) q23 (by decide)
  have a24 := ne_lit (n := 24) q24 (by decide)
  have a25 := ne_lit (n := 25) q25 (by decide)
  have a26 := ne_lit (n := 26) q26 (by decide)
  have a27 := ne_lit (n := 27) q27 (by decide)
  have a28 := ne_lit (n := 28) q28 (by decide)
  have a29 := ne_lit (n := 29) q29 (by decide)
  have a30 := ne_lit (n := 30) q30 (by decide)
  have a31 := ne_lit (n := 31) q31 (by decide)
  have a32 := ne_lit (n := 32) q32 (by decide)
  have a33 := ne_lit (n := 33) q33 (by decide)
  have a34 := ne_lit (n := 34) q34 (by decide)
  have a35 := ne_lit (n := 35) q35 (by decide)
  have a36 := ne_lit (n := 36) q36 (by decide)
  exact l_tabOut 1239 C dL_law_32 (by omega) (by decide) (hx σ i h)
def lawF (xs : Nat → Int32) (L : Nat) : Nat → Sg → Int32 → Option Int32
  | 0, _, _ => none
  | f + 1, σ, i => if (nI L - 5) < i then some 1 else (if inb i L = true then nam (xs (ix i) &&& 63) fun x => lf_sw xs L (fun τ j => nam (j + 5) fun k => lawF xs L f τ k) σ i x else none)
set_option maxRecDepth 100000 in
set_option maxHeartbeats 4000000 in
theorem law_loop {p : Program} {l : Launch} {e : Env} {s : State} {m : MethodId} {below : List Frame} {meth : Method} {c : Code} {b L : Nat} {xs : Nat → Int32} {g : Cx} (C : LC p s m meth c b L xs g) : ∀ (f : Nat) (σ : Sg) (i : Int32), lawF xs L f σ i = some 1 → VL p l e s m below meth c b g σ 18 [(0, .ref b), (1, .ref (g.1 0)), (2, .ref (g.1 112)), (3, .int i)] [] := by
  intro f
  induction f with
  | zero =>
    intro σ i h
    cases h
  | succ f ih =>
    intro σ i h
    rw [lawF] at h
    refine l_iload_n 19 C 3 dL_law_18 rfl rfl rfl ?_
    refine l_aload_n 20 C 0 dL_law_19 rfl rfl rfl ?_
    refine l_slen 21 C dL_law_20 rfl ?_
    refine l_iconst 22 C 5 dL_law_21 kc_i_5 rfl ?_
    refine l_isub 23 C dL_law_22 rfl ?_
    refine l_icmp_gt 26 1245 C h dL_law_23 rfl (by decide) (fun h => ?_) (fun h => ?_)
    · refine l_iconst 1246 C 1 dL_law_1245 kc_i_1 rfl ?_
      exact l_end C dL_law_1246
    · refine l_aload_n 27 C 0 dL_law_26 rfl rfl rfl ?_
      refine l_iload_n 28 C 3 dL_law_27 rfl rfl rfl ?_
      refine l_sld 29 C h dL_law_28 rfl (fun h => ?_)
      refine l_bipush 31 C 63 dL_law_29 (by decide) rfl ?_
      refine l_iand 32 C dL_law_31 rfl ?_
      refine l_namI h (fun x h => ?_)
      refine lq_sw C _ (fun σ i h => ?_) σ i x h
      refine l_iincN 1242 3 C h dL_law_1239 rfl kc_i_5 (by decide) rfl (fun _ => rfl) (fun k h => ?_)
      refine l_goto 18 C dL_law_1242 (by decide) ?_
      refine l_sub [1, 2, 3, 0] rfl ?_
      exact ih σ k h
