abbrev vwCl : List vw_C := [(RX3, TX3, 9), (RX4, TX4, 4), (RX5, TX5, 10), (RX6, TX6, 3), (RX7, TX7, 2), (RX8, TX8, 9), (RX10, TX10, 3), (RX11, TX11, 15), (RX12, TX12, 20)]
/-! ===== all objects of the class and of the reference, by index; the judgement V over them ===== -/
abbrev Sg : Type := (Nat → Nat → Int32) × (Nat → Nat → Int64)
/-- addresses, classes, the arrays' classes, the five texts' addresses and their byte rows' -/
abbrev Cx : Type := (Nat → Nat) × va_G × ClassId × ClassId × (Nat → Nat) × (Nat → Nat)
def rI (σ : Sg) (k j : Nat) : Int32 := σ.1 k j
def rL (σ : Sg) (k j : Nat) : Int64 := σ.2 k j
def stI (σ : Sg) (k j : Nat) (v : Int32) : Sg := (fun a => if a = k then upd (σ.1 k) j v else σ.1 a, σ.2)
def stL (σ : Sg) (k j : Nat) (v : Int64) : Sg := (σ.1, fun a => if a = k then vp_updL (σ.2 k) j v else σ.2 a)
def ix (i : Int32) : Nat := i.toNatClampNeg
def inb (i : Int32) (n : Nat) : Bool := decide (¬ (i < 0 ∨ n ≤ i.toNatClampNeg))
def nam {α β : Type} (e : α) (K : α → β) : β := K e
theorem rI_stI (σ : Sg) (k j : Nat) (v : Int32) (a b : Nat) : rI (stI σ k j v) a b = if a = k ∧ b = j then v else rI σ a b := by
  unfold rI stI
  by_cases h : a = k
  · subst h
    by_cases h2 : b = j <;> simp [upd, h2]
  · simp [h]
theorem rI_stL (σ : Sg) (k j : Nat) (v : Int64) (a b : Nat) : rI (stL σ k j v) a b = rI σ a b := rfl
theorem rL_stI (σ : Sg) (k j : Nat) (v : Int32) (a b : Nat) : rL (stI σ k j v) a b = rL σ a b := rfl
theorem rL_stL (σ : Sg) (k j : Nat) (v : Int64) (a b : Nat) : rL (stL σ k j v) a b = if a = k ∧ b = j then v else rL σ a b := by
  unfold rL stL
  by_cases h : a = k
  · subst h
    by_cases h2 : b = j <;> simp [vp_updL, h2]
  · simp [h]
theorem Sg_ext {σ τ : Sg} (h : ∀ a b, rI σ a b = rI τ a b) (h2 : ∀ a b, rL σ a b = rL τ a b) : σ = τ := Prod.ext (funext fun a => funext fun b => h a b) (funext fun a => funext fun b => h2 a b)
def FU : Nat := 1000000
def kTab : List Nat := [7, 0, 4, 9, 4, 9, 4, 9, 4, 9, 4, 9, 4, 9, 4, 9, 4, 9, 1, 4, 9, 4, 9, 0, 4, 9, 4, 9, 4, 9, 4, 9, 4, 9, 4, 9, 4, 9, 4, 9, 1, 4, 9, 4, 9, 0, 4, 9, 4, 9, 4, 9, 4, 9, 4, 9, 4, 9, 4, 9, 4, 9, 1, 4, 9, 4, 9, 4, 9, 5, 0, 4, 9, 4, 9, 4, 9, 4, 9, 4, 9, 4, 9, 4, 9, 4, 9, 1, 4, 9, 4, 9, 4, 9, 1, 4, 9, 4, 9, 2, 4, 9, 6, 4, 9, 4, 9, 3, 4, 9, 4, 9, 8, 9, 10, 9, 9, 9, 9, 9, 9, 9]
def lTab : List Nat := [0, 0, 0, 7, 0, 7, 0, 7, 0, 4, 0, 18, 0, 24, 0, 24, 0, 128, 0, 0, 7, 0, 7, 0, 0, 7, 0, 7, 0, 7, 0, 4, 0, 18, 0, 24, 0, 24, 0, 128, 0, 0, 7, 0, 7, 0, 0, 7, 0, 7, 0, 7, 0, 4, 0, 18, 0, 24, 0, 24, 0, 128, 0, 0, 7, 0, 7, 0, 150, 0, 0, 0, 7, 0, 7, 0, 7, 0, 4, 0, 18, 0, 24, 0, 24, 0, 128, 0, 0, 7, 0, 7, 0, 3, 0, 0, 7, 0, 7, 0, 0, 7, 0, 0, 1024, 0, 8, 0, 0, 14, 0, 14, 0, 964, 2, 150, 3, 8, 8, 7, 300, 7]
def kK (k : Nat) : Nat := kTab.getD k 99
def kLen (k : Nat) : Nat := lTab.getD k 0
theorem kK_lt {k c : Nat} (h : kK k = c) (hc : c ≠ 99) : k < 122 := by
  by_cases q : k < 122
  · exact q
  · exfalso
    apply hc
    rw [← h]
    unfold kK
    rw [List.getD_eq_getElem?_getD, List.getElem?_eq_none (Nat.le_trans (by decide +kernel : kTab.length ≤ 122) (Nat.not_lt.mp q))]
    rfl
/-- a fact of all indices, looked at one by one -/
theorem kAll (P : Nat → Bool) (h : (List.range 122).all P = true) {k : Nat} (hk : k < 122) : P k = true := List.all_eq_true.mp h k (List.mem_range.mpr hk)
theorem kf_0_0 {k : Nat} (h : kK k = 0) : kK (k + 1) = 4 := by
  have h2 := kAll (fun k => !(kK k == 0) || kK (k + 1) == 4) (by decide +kernel) (kK_lt h (by decide))
  simpa [h] using h2
theorem kf_0_1 {k : Nat} (h : kK k = 0) : kK (k + 3) = 4 := by
  have h2 := kAll (fun k => !(kK k == 0) || kK (k + 3) == 4) (by decide +kernel) (kK_lt h (by decide))
  simpa [h] using h2
theorem kf_0_2 {k : Nat} (h : kK k = 0) : kK (k + 5) = 4 := by
  have h2 := kAll (fun k => !(kK k == 0) || kK (k + 5) == 4) (by decide +kernel) (kK_lt h (by decide))
  simpa [h] using h2
theorem kf_0_3 {k : Nat} (h : kK k = 0) : kK (k + 7) = 4 := by
  have h2 := kAll (fun k => !(kK k == 0) || kK (k + 7) == 4) (by decide +kernel) (kK_lt h (by decide))
  simpa [h] using h2
theorem kf_0_4 {k : Nat} (h : kK k = 0) : kK (k + 9) = 4 := by
  have h2 := kAll (fun k => !(kK k == 0) || kK (k + 9) == 4) (by decide +kernel) (kK_lt h (by decide))
  simpa [h] using h2
theorem kf_0_5 {k : Nat} (h : kK k = 0) : kK (k + 11) = 4 := by
  have h2 := kAll (fun k => !(kK k == 0) || kK (k + 11) == 4) (by decide +kernel) (kK_lt h (by decide))
  simpa [h] using h2
theorem kf_0_6 {k : Nat} (h : kK k = 0) : kK (k + 13) = 4 := by
  have h2 := kAll (fun k => !(kK k == 0) || kK (k + 13) == 4) (by decide +kernel) (kK_lt h (by decide))
  simpa [h] using h2
theorem kf_0_7 {k : Nat} (h : kK k = 0) : kK (k + 15) = 4 := by
  have h2 := kAll (fun k => !(kK k == 0) || kK (k + 15) == 4) (by decide +kernel) (kK_lt h (by decide))
  simpa [h] using h2
theorem kf_0_8 {k : Nat} (h : kK k = 0) : kK (k + 17) = 1 := by
  have h2 := kAll (fun k => !(kK k == 0) || kK (k + 17) == 1) (by decide +kernel) (kK_lt h (by decide))
  simpa [h] using h2
theorem kf_1_2 {k : Nat} (h : kK k = 1) : kK (k + 1) = 4 := by
  have h2 := kAll (fun k => !(kK k == 1) || kK (k + 1) == 4) (by decide +kernel) (kK_lt h (by decide))
  simpa [h] using h2
theorem kf_1_3 {k : Nat} (h : kK k = 1) : kK (k + 3) = 4 := by
  have h2 := kAll (fun k => !(kK k == 1) || kK (k + 3) == 4) (by decide +kernel) (kK_lt h (by decide))
  simpa [h] using h2
theorem kf_2_5 {k : Nat} (h : kK k = 2) : kK (k + 1) = 4 := by
  have h2 := kAll (fun k => !(kK k == 2) || kK (k + 1) == 4) (by decide +kernel) (kK_lt h (by decide))
  simpa [h] using h2
theorem kf_3_0 {k : Nat} (h : kK k = 3) : kK (k + 1) = 4 := by
  have h2 := kAll (fun k => !(kK k == 3) || kK (k + 1) == 4) (by decide +kernel) (kK_lt h (by decide))
  simpa [h] using h2
theorem kf_3_1 {k : Nat} (h : kK k = 3) : kK (k + 3) = 4 := by
  have h2 := kAll (fun k => !(kK k == 3) || kK (k + 3) == 4) (by decide +kernel) (kK_lt h (by decide))
  simpa [h] using h2
theorem kf_4_0 {k : Nat} (h : kK k = 4) : kK (k + 1) = 9 := by
  have h2 := kAll (fun k => !(kK k == 4) || kK (k + 1) == 9) (by decide +kernel) (kK_lt h (by decide))
  simpa [h] using h2
theorem kf_5_0 {k : Nat} (h : kK k = 5) : kK (k + 1) = 0 := by
  have h2 := kAll (fun k => !(kK k == 5) || kK (k + 1) == 0) (by decide +kernel) (kK_lt h (by decide))
  simpa [h] using h2
theorem kf_5_2 {k : Nat} (h : kK k = 5) : kK (k + 23) = 4 := by
  have h2 := kAll (fun k => !(kK k == 5) || kK (k + 23) == 4) (by decide +kernel) (kK_lt h (by decide))
  simpa [h] using h2
theorem kf_6_0 {k : Nat} (h : kK k = 6) : kK (k + 1) = 4 := by
  have h2 := kAll (fun k => !(kK k == 6) || kK (k + 1) == 4) (by decide +kernel) (kK_lt h (by decide))
  simpa [h] using h2
theorem kf_6_1 {k : Nat} (h : kK k = 6) : kK (k + 3) = 4 := by
  have h2 := kAll (fun k => !(kK k == 6) || kK (k + 3) == 4) (by decide +kernel) (kK_lt h (by decide))
  simpa [h] using h2
def cel (g : Cx) (σ : Sg) (k : Nat) : va_E := match kK k with
  | 0 => .inr (0, [.ref (g.1 (k + 1)), .ref (g.1 (k + 3)), .ref (g.1 (k + 5)), .ref (g.1 (k + 7)), .ref (g.1 (k + 9)), .ref (g.1 (k + 11)), .ref (g.1 (k + 13)), .ref (g.1 (k + 15)), .ref (g.1 (k + 17))])
  | 1 => .inr (1, [.int (rI σ k 0), .int (rI σ k 1), .ref (g.1 (k + 1)), .ref (g.1 (k + 3))])
  | 2 => .inr (2, [.int (rI σ k 0), .int (rI σ k 1), .int (rI σ k 2), .int (rI σ k 3), .int (rI σ k 4), .ref (g.1 (k + 1)), .int (rI σ k 6), .int (rI σ k 7), .int (rI σ k 8), .int (rI σ k 9)])
  | 3 => .inr (3, [.ref (g.1 (k + 1)), .ref (g.1 (k + 3)), .int (rI σ k 2)])
  | 4 => .inr (4, [.ref (g.1 (k + 1)), .int (rI σ k 1)])
  | 5 => .inr (5, [.ref (g.1 (k + 1)), .ref (g.1 67), .ref (g.1 (k + 23)), .int (rI σ k 3), .int (rI σ k 4), .int (rI σ k 5), .int (rI σ k 6), .int (rI σ k 7), .int (rI σ k 8)])
  | 6 => .inr (6, [.ref (g.1 (k + 1)), .ref (g.1 (k + 3)), .int (rI σ k 2)])
  | 7 => .inr (7, [.ref (g.1 1), .ref (g.1 23), .ref (g.1 45), .int (rI σ k 3), .ref (g.1 67), .ref (g.1 69), .ref (g.1 94), .ref (g.1 99), .ref (g.1 102), .ref (g.1 107), .long (rL σ k 10), .long (rL σ k 11), .int (rI σ k 12), .int (rI σ k 13), .int (rI σ k 14)])
  | 8 => .inr (8, [.ref (g.1 113), .ref (g.1 114), .ref (g.1 115), .int (rI σ k 3), .long (rL σ k 4), .long (rL σ k 5), .ref (g.1 116), .int (rI σ k 7), .int (rI σ k 8), .int (rI σ k 9), .int (rI σ k 10), .int (rI σ k 11), .int (rI σ k 12), .int (rI σ k 13), .ref (g.1 117), .ref (g.1 118), .ref (g.1 119), .ref (g.1 120), .ref (g.1 121), .long (rL σ k 19)])
  | 9 => .inl (g.2.2.1, kLen k, .inl (rI σ k))
  | 10 => .inl (g.2.2.2.1, kLen k, .inl (rI σ k))
  | _ => .inl (g.2.2.1, 0, .inl (fun _ => 0))
theorem cel_0 {g : Cx} {σ : Sg} {k : Nat} (h : kK k = 0) : cel g σ k = .inr (0, [.ref (g.1 (k + 1)), .ref (g.1 (k + 3)), .ref (g.1 (k + 5)), .ref (g.1 (k + 7)), .ref (g.1 (k + 9)), .ref (g.1 (k + 11)), .ref (g.1 (k + 13)), .ref (g.1 (k + 15)), .ref (g.1 (k + 17))]) := by unfold cel; simp only [h]
theorem cel_1 {g : Cx} {σ : Sg} {k : Nat} (h : kK k = 1) : cel g σ k = .inr (1, [.int (rI σ k 0), .int (rI σ k 1), .ref (g.1 (k + 1)), .ref (g.1 (k + 3))]) := by unfold cel; simp only [h]
theorem cel_2 {g : Cx} {σ : Sg} {k : Nat} (h : kK k = 2) : cel g σ k = .inr (2, [.int (rI σ k 0), .int (rI σ k 1), .int (rI σ k 2), .int (rI σ k 3), .int (rI σ k 4), .ref (g.1 (k + 1)), .int (rI σ k 6), .int (rI σ k 7), .int (rI σ k 8), .int (rI σ k 9)]) := by unfold cel; simp only [h]
theorem cel_3 {g : Cx} {σ : Sg} {k : Nat} (h : kK k = 3) : cel g σ k = .inr (3, [.ref (g.1 (k + 1)), .ref (g.1 (k + 3)), .int (rI σ k 2)]) := by unfold cel; simp only [h]
theorem cel_4 {g : Cx} {σ : Sg} {k : Nat} (h : kK k = 4) : cel g σ k = .inr (4, [.ref (g.1 (k + 1)), .int (rI σ k 1)]) := by unfold cel; simp only [h]
theorem cel_5 {g : Cx} {σ : Sg} {k : Nat} (h : kK k = 5) : cel g σ k = .inr (5, [.ref (g.1 (k + 1)), .ref (g.1 67), .ref (g.1 (k + 23)), .int (rI σ k 3), .int (rI σ k 4), .int (rI σ k 5), .int (rI σ k 6), .int (rI σ k 7), .int (rI σ k 8)]) := by unfold cel; simp only [h]
theorem cel_6 {g : Cx} {σ : Sg} {k : Nat} (h : kK k = 6) : cel g σ k = .inr (6, [.ref (g.1 (k + 1)), .ref (g.1 (k + 3)), .int (rI σ k 2)]) := by unfold cel; simp only [h]
theorem cel_7 {g : Cx} {σ : Sg} {k : Nat} (h : kK k = 7) : cel g σ k = .inr (7, [.ref (g.1 1), .ref (g.1 23), .ref (g.1 45), .int (rI σ k 3), .ref (g.1 67), .ref (g.1 69), .ref (g.1 94), .ref (g.1 99), .ref (g.1 102), .ref (g.1 107), .long (rL σ k 10), .long (rL σ k 11), .int (rI σ k 12), .int (rI σ k 13), .int (rI σ k 14)]) := by unfold cel; simp only [h]
theorem cel_8 {g : Cx} {σ : Sg} {k : Nat} (h : kK k = 8) : cel g σ k = .inr (8, [.ref (g.1 113), .ref (g.1 114), .ref (g.1 115), .int (rI σ k 3), .long (rL σ k 4), .long (rL σ k 5), .ref (g.1 116), .int (rI σ k 7), .int (rI σ k 8), .int (rI σ k 9), .int (rI σ k 10), .int (rI σ k 11), .int (rI σ k 12), .int (rI σ k 13), .ref (g.1 117), .ref (g.1 118), .ref (g.1 119), .ref (g.1 120), .ref (g.1 121), .long (rL σ k 19)]) := by unfold cel; simp only [h]
theorem cel_9 {g : Cx} {σ : Sg} {k : Nat} (h : kK k = 9) : cel g σ k = .inl (g.2.2.1, kLen k, .inl (rI σ k)) := by unfold cel; simp only [h]
theorem cel_10 {g : Cx} {σ : Sg} {k : Nat} (h : kK k = 10) : cel g σ k = .inl (g.2.2.2.1, kLen k, .inl (rI σ k)) := by unfold cel; simp only [h]
theorem cel_cong {g : Cx} {σ τ : Sg} {k : Nat} (h1 : τ.1 k = σ.1 k) (h2 : τ.2 k = σ.2 k) : cel g τ k = cel g σ k := by
  unfold cel
  unfold rI rL
  rw [h1, h2]
def WL (g : Cx) (σ : Sg) : va_W := (List.range 122).map (fun k => (g.1 k, cel g σ k))
theorem WL_get {g : Cx} {σ : Sg} {k : Nat} (h : k < 122) : (WL g σ)[k]? = some (g.1 k, cel g σ k) := by
  unfold WL
  rw [List.getElem?_map, List.getElem?_range h]
  rfl
theorem WL_len (g : Cx) (σ : Sg) : (WL g σ).length = 122 := by simp [WL]
def Aw (g : Cx) : Nat → Prop := fun q => ∃ k, k < 122 ∧ q = g.1 k
def Inj (g : Cx) : Prop := ∀ i j : Nat, i < 122 → j < 122 → g.1 i = g.1 j → i = j
theorem WL_lt {g : Cx} {σ : Sg} {k : Nat} {q : Nat × va_E} (h : (WL g σ)[k]? = some q) : k < 122 ∧ q = (g.1 k, cel g σ k) := by
  have hk : k < 122 := by
    have := (List.getElem?_eq_some_iff.mp h).1
    rwa [WL_len] at this
  rw [WL_get hk] at h
  exact ⟨hk, (Option.some.inj h).symm⟩
theorem WL_D {g : Cx} (hj : Inj g) (σ : Sg) : va_D (Aw g) (WL g σ) := by
  refine ⟨fun i j p q hi hk e => ?_, fun k q hk => ?_⟩
  · obtain ⟨h1, rfl⟩ := WL_lt hi
    obtain ⟨h2, rfl⟩ := WL_lt hk
    exact hj i j h1 h2 e
  · obtain ⟨h1, rfl⟩ := WL_lt hk
    exact ⟨k, h1, rfl⟩
theorem WL_set {g : Cx} {σ τ : Sg} {k : Nat} {e : va_E} (hk : k < 122) (he : cel g τ k = e) (h1 : ∀ a, a ≠ k → τ.1 a = σ.1 a) (h2 : ∀ a, a ≠ k → τ.2 a = σ.2 a) : (WL g σ).set k (g.1 k, e) = WL g τ := by
  apply List.ext_getElem?
  intro j
  by_cases hj : j = k
  · subst hj
    rw [List.getElem?_set_self (by rw [WL_len]; exact hk), WL_get hk, he]
  · rw [List.getElem?_set_ne (Ne.symm hj)]
    by_cases hl : j < 122
    · rw [WL_get hl, WL_get hl, cel_cong (h1 j hj) (h2 j hj)]
    · rw [List.getElem?_eq_none (by rw [WL_len]; omega), List.getElem?_eq_none (by rw [WL_len]; omega)]
theorem stI_1 (σ : Sg) (k j : Nat) (v : Int32) : (stI σ k j v).1 k = upd (σ.1 k) j v := by simp [stI]
theorem stI_n (σ : Sg) (k j : Nat) (v : Int32) : ∀ a, a ≠ k → (stI σ k j v).1 a = σ.1 a := fun a h => by simp [stI, h]
theorem stI_2 (σ : Sg) (k j : Nat) (v : Int32) : ∀ a, a ≠ k → (stI σ k j v).2 a = σ.2 a := fun a h => rfl
theorem stL_n (σ : Sg) (k j : Nat) (v : Int64) : ∀ a, a ≠ k → (stL σ k j v).2 a = σ.2 a := fun a h => by simp [stL, h]
theorem stL_2 (σ : Sg) (k j : Nat) (v : Int64) : ∀ a, a ≠ k → (stL σ k j v).1 a = σ.1 a := fun a h => rfl

/-! ===== what else stays as it is: the tables' rows of nest mates, the five texts, two statics ===== -/
def nestW : List Cond := [.methodLinkNest "WidowWeight" 9 ({ cls := "WidowWeight$Market", name := "<init>", desc := "()V" } : Jvm.MethodName) "WidowWeight", .methodLinkNest "WidowWeight$Market" 43 ({ cls := "WidowWeight$Moment", name := "<init>", desc := "()V" } : Jvm.MethodName) "WidowWeight", .methodLinkNest "WidowWeight$TextReader" 11 ({ cls := "WidowWeight$Market", name := "<init>", desc := "()V" } : Jvm.MethodName) "WidowWeight", .methodLinkNest "WidowWeight" 42 ({ cls := "WidowWeight$Moment", name := "<init>", desc := "()V" } : Jvm.MethodName) "WidowWeight", .methodLinkNest "WidowWeight" 49 ({ cls := "WidowWeight$Pans", name := "<init>", desc := "()V" } : Jvm.MethodName) "WidowWeight", .methodLinkNest "WidowWeight" 56 ({ cls := "WidowWeight$Walk", name := "<init>", desc := "()V" } : Jvm.MethodName) "WidowWeight", .methodLinkNest "WidowWeight" 63 ({ cls := "WidowWeight$Parts", name := "<init>", desc := "()V" } : Jvm.MethodName) "WidowWeight", .methodLinkNest "WidowWeight$Market" 66 ({ cls := "WidowWeight", name := "between", desc := "(III)Z" } : Jvm.MethodName) "WidowWeight", .methodLinkNest "WidowWeight$TextReader" 113 ({ cls := "WidowWeight", name := "isKind", desc := "(I)Z" } : Jvm.MethodName) "WidowWeight", .methodLinkNest "WidowWeight$TextReader" 116 ({ cls := "WidowWeight", name := "between", desc := "(III)Z" } : Jvm.MethodName) "WidowWeight", .methodLinkNest "WidowWeight$Moment" 37 ({ cls := "WidowWeight", name := "hasBit", desc := "(II)Z" } : Jvm.MethodName) "WidowWeight", .methodLinkNest "WidowWeight$Row" 41 ({ cls := "WidowWeight", name := "hasBit", desc := "(II)Z" } : Jvm.MethodName) "WidowWeight", .methodLinkNest "WidowWeight$Pans" 77 ({ cls := "WidowWeight", name := "hasBit", desc := "(II)Z" } : Jvm.MethodName) "WidowWeight", .methodLinkNest "WidowWeight$Walk" 62 ({ cls := "WidowWeight", name := "hasBit", desc := "(II)Z" } : Jvm.MethodName) "WidowWeight", .methodLinkNest "WidowWeight$Doubts" 41 ({ cls := "WidowWeight", name := "hasBit", desc := "(II)Z" } : Jvm.MethodName) "WidowWeight", .methodLinkNest "WidowWeight$Trade" 26 ({ cls := "WidowWeight", name := "hasBit", desc := "(II)Z" } : Jvm.MethodName) "WidowWeight"]
def tLen : List Nat := [6, 6, 4, 7, 4]
def tByt : List (List Int32) := [[109, 97, 114, 107, 101, 116], [107, 101, 101, 112, 101, 114], [109, 111, 111, 100], [98, 97, 108, 97, 110, 99, 101], [100, 97, 121, 115]]
def GK (g : Cx) (U : State) : Prop := va_K g.2.1 vwCl [(g.2.2.1, .int), (g.2.2.2.1, .boolean)] U ∧ (∀ w ∈ nestW, va_Nw w U) ∧ (vk_R RX8 123 "market" (g.2.2.2.2.1 0) U ∧ vk_R RX8 129 "keeper" (g.2.2.2.2.1 1) U ∧ vk_R RX8 131 "mood" (g.2.2.2.2.1 2) U ∧ vk_R RX8 133 "balance" (g.2.2.2.2.1 3) U ∧ vk_R RX8 135 "days" (g.2.2.2.2.1 4) U)
def XF (g : Cx) (U : State) (H : Heap) : Prop := vk_S 5 tLen tByt g.2.2.2.2.1 g.2.2.2.2.2 (Aw g) U H ∧ va_Z "java/lang/String" "COMPACT_STRINGS" "Z" (.int 1) (Aw g) U H ∧ va_Zq "jdk/internal/util/Preconditions" "SIOOBE_FORMATTER" "Ljava/util/function/BiFunction;" (Aw g) U H
theorem XF.moved {g : Cx} {u U : State} {H : Heap} (hvm : u.vm.Alike U.vm) (h : XF g u H) : XF g U H := ⟨h.1.moved hvm, h.2.1.moved hvm, h.2.2.moved hvm⟩
theorem XF.kept {g : Cx} {U : State} {H H1 : Heap} (h : XF g U H) (hq : ∀ a : Nat, a < H.size → ¬ Aw g a → H1[a]? = H[a]?) : XF g U H1 := ⟨h.1.kept hq, h.2.1.kept hq, h.2.2.kept hq⟩
theorem nest_warm {s U : State} (hW : s.WarmedH U.vm) (h : ∀ w ∈ nestW, va_Nw w s) : ∀ w ∈ nestW, va_Nw w U := by
  intro w hw
  have h1 := h w hw
  simp only [nestW, List.mem_cons, List.not_mem_nil, or_false] at hw
  rcases hw with rfl | rfl | rfl | rfl | rfl | rfl | rfl | rfl | rfl | rfl | rfl | rfl | rfl | rfl | rfl | rfl <;> exact va_Nw.warmM hW h1
theorem nest_same {u U : State} (hv : u.vm = U.vm) (h : ∀ w ∈ nestW, va_Nw w u) : ∀ w ∈ nestW, va_Nw w U := by
  intro w hw
  have h1 := h w hw
  simp only [nestW, List.mem_cons, List.not_mem_nil, or_false] at hw
  rcases hw with rfl | rfl | rfl | rfl | rfl | rfl | rfl | rfl | rfl | rfl | rfl | rfl | rfl | rfl | rfl | rfl <;> exact va_Nw.same rfl hv h1
theorem GK.warm {g : Cx} {s U : State} (hW : s.WarmedH U.vm) (h : GK g s) : GK g U := ⟨va_K.moved hW.alike h.1, nest_warm hW h.2.1, h.2.2.1.warm hW, h.2.2.2.1.warm hW, h.2.2.2.2.1.warm hW, h.2.2.2.2.2.1.warm hW, h.2.2.2.2.2.2.warm hW⟩
theorem GK.same {g : Cx} {u U : State} (hv : u.vm = U.vm) (h : GK g u) : GK g U := ⟨va_K.moved (hv ▸ Vm.Alike.refl u.vm) h.1, nest_same hv h.2.1, h.2.2.1.same hv.symm, h.2.2.2.1.same hv.symm, h.2.2.2.2.1.same hv.symm, h.2.2.2.2.2.1.same hv.symm, h.2.2.2.2.2.2.same hv.symm⟩
/-- the world in state σ -/
def GW (g : Cx) (σ : Sg) (U : State) : Prop := GK g U ∧ XF g U U.heap ∧ Inj g ∧ va_P g.2.1 vwCl (WL g σ) U.heap
/-- a method's end: its answer, the world in state σ, nothing else changed -/
def QF (g : Cx) (r : Option Value) (σ : Sg) : Array Value → State → Outcome → State → Prop := fun _ st oc t => oc = .returned r ∧ GW g σ t ∧ va_F (Aw g) st t
/-- a method's contract: from the world in state σ it returns r, the world in state τ; no cell is made -/
def MetF (l : Launch) (y : MethodName) (ws : List Cond) (rm : Room) (g : Cx) (av : List Value) (σ : Sg) (r : Option Value) (τ : Sg) : Prop := Met l y ws rm (va_Pc av (GW g σ)) (QF g r τ) 0 0 (Aw g)
theorem GW.blind {g : Cx} {σ : Sg} {av : List Value} : FrameBlind (va_Pc av (GW g σ)) := fun a U gg mk q => ⟨q.1, GK.same (u := U) rfl q.2.1, XF.moved (u := U) (Vm.Alike.refl U.vm) q.2.2.1, q.2.2.2.1, q.2.2.2.2⟩
def CT (g : Cx) (cc : ByteArray) (own : String) (Ts : List Cond) (nL : Nat) (ret : Option FieldType) (p : Program) (s : State) (m : MethodId) (args : Array Value) (meth : Method) (c : Code) : Prop :=
  p.tables.exec = Jvm.exec ∧ c.code = cc ∧ c.maxLocals = nL ∧ meth.sig.returnType = ret ∧ meth.locks = false ∧ s.vm.findClass own = some m.cls ∧ (∀ w ∈ Ts, w.before args s = true) ∧ GK g s ∧ XF g s s.heap ∧ Inj g
/-- from the world in state σ, at pc, with the locals lv and the stack st, the method ends with ro, the world in state σo -/
def V (g : Cx) (cc : ByteArray) (own : String) (Ts : List Cond) (nL : Nat) (ret : Option FieldType) (R : Room) (ro : Option Value) (σo : Sg) (σ : Sg) (pc : Nat) (lv : List (Nat × Value)) (st : List Value) : Prop :=
  ∀ (p : Program) (l : Launch) (e : Env) (s : State) (m : MethodId) (args : Array Value) (below : List Frame) (meth : Method) (c : Code), CT g cc own Ts nL ret p s m args meth c → ∀ (H : Heap) (locs : List Loc) (ls : Array Slot), va_P g.2.1 vwCl (WL g σ) H → va_S (Aw g) s.heap H locs → lv_has ls nL lv → W p l e R s m args below meth c H locs 0 0 (MQ below (QF g ro σo) args s 0 0 (Aw g)) (F0 m pc ls st)
section VROWS
variable {g : Cx} {cc : ByteArray} {own : String} {Ts : List Cond} {nL : Nat} {ret : Option FieldType} {R : Room} {ro : Option Value} {σo σ : Sg} {pc : Nat} {lv : List (Nat × Value)} {rest : List Value}
theorem v_iadd (n : Nat) {x y : Int32} (d : decode cc pc = .ok (.iadd, 1)) (hn : pc + 1 = n) (kk : V g cc own Ts nL ret R ro σo σ n lv (.int (x + y) :: rest)) : V g cc own Ts nL ret R ro σo σ pc lv (.int y :: .int x :: rest) := by
  subst hn
  exact fun p l e s m args below meth c C H locs ls hP hS hl => lv_iadd C.1 C.2.1 d (kk p l e s m args below meth c C H locs ls hP hS hl)
theorem v_isub (n : Nat) {x y : Int32} (d : decode cc pc = .ok (.isub, 1)) (hn : pc + 1 = n) (kk : V g cc own Ts nL ret R ro σo σ n lv (.int (x - y) :: rest)) : V g cc own Ts nL ret R ro σo σ pc lv (.int y :: .int x :: rest) := by
  subst hn
  exact fun p l e s m args below meth c C H locs ls hP hS hl => lv_isub C.1 C.2.1 d (kk p l e s m args below meth c C H locs ls hP hS hl)
theorem v_imul (n : Nat) {x y : Int32} (d : decode cc pc = .ok (.imul, 1)) (hn : pc + 1 = n) (kk : V g cc own Ts nL ret R ro σo σ n lv (.int (x * y) :: rest)) : V g cc own Ts nL ret R ro σo σ pc lv (.int y :: .int x :: rest) := by
  subst hn
  exact fun p l e s m args below meth c C H locs ls hP hS hl => lv_imul C.1 C.2.1 d (kk p l e s m args below meth c C H locs ls hP hS hl)
theorem v_iand (n : Nat) {x y : Int32} (d : decode cc pc = .ok (.iand, 1)) (hn : pc + 1 = n) (kk : V g cc own Ts nL ret R ro σo σ n lv (.int (x &&& y) :: rest)) : V g cc own Ts nL ret R ro σo σ pc lv (.int y :: .int x :: rest) := by
  subst hn
  exact fun p l e s m args below meth c C H locs ls hP hS hl => lv_iand C.1 C.2.1 d (kk p l e s m args below meth c C H locs ls hP hS hl)
theorem v_ior (n : Nat) {x y : Int32} (d : decode cc pc = .ok (.ior, 1)) (hn : pc + 1 = n) (kk : V g cc own Ts nL ret R ro σo σ n lv (.int (x ||| y) :: rest)) : V g cc own Ts nL ret R ro σo σ pc lv (.int y :: .int x :: rest) := by
  subst hn
  exact fun p l e s m args below meth c C H locs ls hP hS hl => lv_ior C.1 C.2.1 d (kk p l e s m args below meth c C H locs ls hP hS hl)
theorem v_ixor (n : Nat) {x y : Int32} (d : decode cc pc = .ok (.ixor, 1)) (hn : pc + 1 = n) (kk : V g cc own Ts nL ret R ro σo σ n lv (.int (x ^^^ y) :: rest)) : V g cc own Ts nL ret R ro σo σ pc lv (.int y :: .int x :: rest) := by
  subst hn
  exact fun p l e s m args below meth c C H locs ls hP hS hl => lv_ixor C.1 C.2.1 d (kk p l e s m args below meth c C H locs ls hP hS hl)
theorem v_ishl (n : Nat) {x y : Int32} (d : decode cc pc = .ok (.ishl, 1)) (hn : pc + 1 = n) (kk : V g cc own Ts nL ret R ro σo σ n lv (.int (x <<< (y &&& 31)) :: rest)) : V g cc own Ts nL ret R ro σo σ pc lv (.int y :: .int x :: rest) := by
  subst hn
  exact fun p l e s m args below meth c C H locs ls hP hS hl => lv_ishl C.1 C.2.1 d (kk p l e s m args below meth c C H locs ls hP hS hl)
theorem v_ishr (n : Nat) {x y : Int32} (d : decode cc pc = .ok (.ishr, 1)) (hn : pc + 1 = n) (kk : V g cc own Ts nL ret R ro σo σ n lv (.int (x >>> (y &&& 31)) :: rest)) : V g cc own Ts nL ret R ro σo σ pc lv (.int y :: .int x :: rest) := by
  subst hn
  exact fun p l e s m args below meth c C H locs ls hP hS hl => lv_ishr C.1 C.2.1 d (kk p l e s m args below meth c C H locs ls hP hS hl)
theorem v_iushr (n : Nat) {x y : Int32} (d : decode cc pc = .ok (.iushr, 1)) (hn : pc + 1 = n) (kk : V g cc own Ts nL ret R ro σo σ n lv (.int ((x.toUInt32 >>> (y.toUInt32 &&& Int32.toUInt32 31)).toInt32) :: rest)) : V g cc own Ts nL ret R ro σo σ pc lv (.int y :: .int x :: rest) := by
  subst hn
  exact fun p l e s m args below meth c C H locs ls hP hS hl => lv_iushr C.1 C.2.1 d rfl (kk p l e s m args below meth c C H locs ls hP hS hl)
theorem v_idiv (n : Nat) {x y : Int32} (hne : ¬ y = 0) (d : decode cc pc = .ok (.idiv, 1)) (hn : pc + 1 = n) (kk : V g cc own Ts nL ret R ro σo σ n lv (.int (x / y) :: rest)) : V g cc own Ts nL ret R ro σo σ pc lv (.int y :: .int x :: rest) := by
  subst hn
  exact fun p l e s m args below meth c C H locs ls hP hS hl => lv_idiv C.1 C.2.1 d hne (kk p l e s m args below meth c C H locs ls hP hS hl)
theorem v_irem (n : Nat) {x y : Int32} (hne : ¬ y = 0) (d : decode cc pc = .ok (.irem, 1)) (hn : pc + 1 = n) (kk : V g cc own Ts nL ret R ro σo σ n lv (.int (x - x / y * y) :: rest)) : V g cc own Ts nL ret R ro σo σ pc lv (.int y :: .int x :: rest) := by
  subst hn
  exact fun p l e s m args below meth c C H locs ls hP hS hl => lv_irem C.1 C.2.1 d hne (kk p l e s m args below meth c C H locs ls hP hS hl)
theorem v_ineg (n : Nat) {x : Int32} (d : decode cc pc = .ok (.ineg, 1)) (hn : pc + 1 = n) (kk : V g cc own Ts nL ret R ro σo σ n lv (.int (-x) :: rest)) : V g cc own Ts nL ret R ro σo σ pc lv (.int x :: rest) := by
  subst hn
  exact fun p l e s m args below meth c C H locs ls hP hS hl => lv_ineg C.1 C.2.1 d (kk p l e s m args below meth c C H locs ls hP hS hl)
theorem v_ladd (n : Nat) {x y : Int64} (d : decode cc pc = .ok (.ladd, 1)) (hn : pc + 1 = n) (kk : V g cc own Ts nL ret R ro σo σ n lv (.long (x + y) :: rest)) : V g cc own Ts nL ret R ro σo σ pc lv (.long y :: .long x :: rest) := by
  subst hn
  exact fun p l e s m args below meth c C H locs ls hP hS hl => lv_ladd C.1 C.2.1 d (kk p l e s m args below meth c C H locs ls hP hS hl)
theorem v_lmul (n : Nat) {x y : Int64} (d : decode cc pc = .ok (.lmul, 1)) (hn : pc + 1 = n) (kk : V g cc own Ts nL ret R ro σo σ n lv (.long (x * y) :: rest)) : V g cc own Ts nL ret R ro σo σ pc lv (.long y :: .long x :: rest) := by
  subst hn
  exact fun p l e s m args below meth c C H locs ls hP hS hl => lv_lmul C.1 C.2.1 d (kk p l e s m args below meth c C H locs ls hP hS hl)
theorem v_ldiv (n : Nat) {x y : Int64} (hne : ¬ y = 0) (d : decode cc pc = .ok (.ldiv, 1)) (hn : pc + 1 = n) (kk : V g cc own Ts nL ret R ro σo σ n lv (.long (x / y) :: rest)) : V g cc own Ts nL ret R ro σo σ pc lv (.long y :: .long x :: rest) := by
  subst hn
  exact fun p l e s m args below meth c C H locs ls hP hS hl => lv_ldiv C.1 C.2.1 d hne (kk p l e s m args below meth c C H locs ls hP hS hl)
theorem v_lrem (n : Nat) {x y : Int64} (hne : ¬ y = 0) (d : decode cc pc = .ok (.lrem, 1)) (hn : pc + 1 = n) (kk : V g cc own Ts nL ret R ro σo σ n lv (.long (x - x / y * y) :: rest)) : V g cc own Ts nL ret R ro σo σ pc lv (.long y :: .long x :: rest) := by
  subst hn
  exact fun p l e s m args below meth c C H locs ls hP hS hl => lv_lrem C.1 C.2.1 d hne (kk p l e s m args below meth c C H locs ls hP hS hl)
theorem v_lcmp (n : Nat) {x y : Int64} (d : decode cc pc = .ok (.lcmp, 1)) (hn : pc + 1 = n) (kk : V g cc own Ts nL ret R ro σo σ n lv (.int (lg_cmp x y) :: rest)) : V g cc own Ts nL ret R ro σo σ pc lv (.long y :: .long x :: rest) := by
  subst hn
  exact fun p l e s m args below meth c C H locs ls hP hS hl => W.lcmp C.1 C.2.1 d (kk p l e s m args below meth c C H locs ls hP hS hl)
theorem v_i2l (n : Nat) {x : Int32} (d : decode cc pc = .ok (.i2l, 1)) (hn : pc + 1 = n) (kk : V g cc own Ts nL ret R ro σo σ n lv (.long (x.toInt64) :: rest)) : V g cc own Ts nL ret R ro σo σ pc lv (.int x :: rest) := by
  subst hn
  exact fun p l e s m args below meth c C H locs ls hP hS hl => lv_i2l C.1 C.2.1 d rfl (kk p l e s m args below meth c C H locs ls hP hS hl)
theorem v_l2i (n : Nat) {x : Int64} (d : decode cc pc = .ok (.l2i, 1)) (hn : pc + 1 = n) (kk : V g cc own Ts nL ret R ro σo σ n lv (.int (x.toInt32) :: rest)) : V g cc own Ts nL ret R ro σo σ pc lv (.long x :: rest) := by
  subst hn
  exact fun p l e s m args below meth c C H locs ls hP hS hl => lv_l2i C.1 C.2.1 d rfl (kk p l e s m args below meth c C H locs ls hP hS hl)
theorem v_dup (n : Nat) {va : Value} (d : decode cc pc = .ok (.dup, 1)) (hva : va.category = 1) (hn : pc + 1 = n) (kk : V g cc own Ts nL ret R ro σo σ n lv (va :: va :: rest)) : V g cc own Ts nL ret R ro σo σ pc lv (va :: rest) := by
  subst hn
  exact fun p l e s m args below meth c C H locs ls hP hS hl => lv_dup C.1 C.2.1 d hva (kk p l e s m args below meth c C H locs ls hP hS hl)
theorem v_pop (n : Nat) {va : Value} (d : decode cc pc = .ok (.pop, 1)) (hva : va.category = 1) (hn : pc + 1 = n) (kk : V g cc own Ts nL ret R ro σo σ n lv (rest)) : V g cc own Ts nL ret R ro σo σ pc lv (va :: rest) := by
  subst hn
  exact fun p l e s m args below meth c C H locs ls hP hS hl => lv_pop C.1 C.2.1 d hva (kk p l e s m args below meth c C H locs ls hP hS hl)
theorem v_dup2 (n : Nat) {va vb : Value} (d : decode cc pc = .ok (.dup2, 1)) (hva : va.category = 1) (hvb : vb.category = 1) (hn : pc + 1 = n) (kk : V g cc own Ts nL ret R ro σo σ n lv (va :: vb :: va :: vb :: rest)) : V g cc own Ts nL ret R ro σo σ pc lv (va :: vb :: rest) := by
  subst hn
  exact fun p l e s m args below meth c C H locs ls hP hS hl => lv_dup2_11 C.1 C.2.1 d hva hvb (kk p l e s m args below meth c C H locs ls hP hS hl)
theorem v_iconst (n : Nat) {i : Int} (v : Int32) (d : decode cc pc = .ok (.iconst i, 1)) (hv : Int32.ofInt i = v) (hn : pc + 1 = n) (kk : V g cc own Ts nL ret R ro σo σ n lv (.int v :: rest)) : V g cc own Ts nL ret R ro σo σ pc lv (rest) := by
  subst hn
  exact fun p l e s m args below meth c C H locs ls hP hS hl => lv_iconst C.1 C.2.1 d hv (kk p l e s m args below meth c C H locs ls hP hS hl)
theorem v_bipush (n : Nat) {i : Int} (v : Int32) (d : decode cc pc = .ok (.bipush i, 2)) (hv : (Int8.ofInt i).toInt32 = v) (hn : pc + 2 = n) (kk : V g cc own Ts nL ret R ro σo σ n lv (.int v :: rest)) : V g cc own Ts nL ret R ro σo σ pc lv (rest) := by
  subst hn
  exact fun p l e s m args below meth c C H locs ls hP hS hl => lv_bipush C.1 C.2.1 d hv (kk p l e s m args below meth c C H locs ls hP hS hl)
theorem v_sipush (n : Nat) {i : Int} (v : Int32) (d : decode cc pc = .ok (.sipush i, 3)) (hv : (Int16.ofInt i).toInt32 = v) (hn : pc + 3 = n) (kk : V g cc own Ts nL ret R ro σo σ n lv (.int v :: rest)) : V g cc own Ts nL ret R ro σo σ pc lv (rest) := by
  subst hn
  exact fun p l e s m args below meth c C H locs ls hP hS hl => lv_sipush C.1 C.2.1 d hv (kk p l e s m args below meth c C H locs ls hP hS hl)
theorem v_lconst (n : Nat) {i : Fin 2} (v : Int64) (d : decode cc pc = .ok (.lconst i, 1)) (hv : Int64.ofNat (i : Nat) = v) (hn : pc + 1 = n) (kk : V g cc own Ts nL ret R ro σo σ n lv (.long v :: rest)) : V g cc own Ts nL ret R ro σo σ pc lv (rest) := by
  subst hn
  exact fun p l e s m args below meth c C H locs ls hP hS hl => lv_lconst C.1 C.2.1 d hv (kk p l e s m args below meth c C H locs ls hP hS hl)
theorem v_ldc (n : Nat) {i : Nat} (v : Int32) (d : decode cc pc = .ok (.ldc i, 2)) (hc : Cond.constant own i v ∈ Ts) (hn : pc + 2 = n) (kk : V g cc own Ts nL ret R ro σo σ n lv (.int v :: rest)) : V g cc own Ts nL ret R ro σo σ pc lv (rest) := by
  subst hn
  exact fun p l e s m args below meth c C H locs ls hP hS hl => lv_ldc C.1 C.2.1 C.2.2.2.2.2.1 (C.2.2.2.2.2.2.1 _ hc) d (kk p l e s m args below meth c C H locs ls hP hS hl)
theorem v_ldc_w (n : Nat) {i : Nat} (v : Int32) (d : decode cc pc = .ok (.ldc_w i, 3)) (hc : Cond.constant own i v ∈ Ts) (hn : pc + 3 = n) (kk : V g cc own Ts nL ret R ro σo σ n lv (.int v :: rest)) : V g cc own Ts nL ret R ro σo σ pc lv (rest) := by
  subst hn
  exact fun p l e s m args below meth c C H locs ls hP hS hl => lv_ldcw C.1 C.2.1 C.2.2.2.2.2.1 (C.2.2.2.2.2.2.1 _ hc) d (kk p l e s m args below meth c C H locs ls hP hS hl)
theorem v_ldc2 (n : Nat) {i : Nat} (v : Int64) (d : decode cc pc = .ok (.ldc2_w i, 3)) (hc : Cond.constantLong own i v ∈ Ts) (hn : pc + 3 = n) (kk : V g cc own Ts nL ret R ro σo σ n lv (.long v :: rest)) : V g cc own Ts nL ret R ro σo σ pc lv (rest) := by
  subst hn
  exact fun p l e s m args below meth c C H locs ls hP hS hl => lv_ldc2 C.1 C.2.1 C.2.2.2.2.2.1 (C.2.2.2.2.2.2.1 _ hc) d (kk p l e s m args below meth c C H locs ls hP hS hl)
theorem v_iload_n (n : Nat) (j : Nat) {k : Fin 4} {i : Nat} {x : Int32} (d : decode cc pc = .ok (.iload_n k, 1)) (hi : (k : Nat) = i) (hk : lv[j]? = some (i, .int x)) (hn : pc + 1 = n) (kk : V g cc own Ts nL ret R ro σo σ n lv (.int x :: rest)) : V g cc own Ts nL ret R ro σo σ pc lv (rest) := by
  subst hn
  exact fun p l e s m args below meth c C H locs ls hP hS hl => lv_iload_n C.1 C.2.1 d hi (lv_at hl j hk) (kk p l e s m args below meth c C H locs ls hP hS hl)
theorem v_iload (n : Nat) (j : Nat) {i : Nat} {x : Int32} (d : decode cc pc = .ok (.iload i, 2)) (hk : lv[j]? = some (i, .int x)) (hn : pc + 2 = n) (kk : V g cc own Ts nL ret R ro σo σ n lv (.int x :: rest)) : V g cc own Ts nL ret R ro σo σ pc lv (rest) := by
  subst hn
  exact fun p l e s m args below meth c C H locs ls hP hS hl => lv_iload C.1 C.2.1 d (lv_at hl j hk) (kk p l e s m args below meth c C H locs ls hP hS hl)
theorem v_lload_n (n : Nat) (j : Nat) {k : Fin 4} {i : Nat} {x : Int64} (d : decode cc pc = .ok (.lload_n k, 1)) (hi : (k : Nat) = i) (hk : lv[j]? = some (i, .long x)) (hn : pc + 1 = n) (kk : V g cc own Ts nL ret R ro σo σ n lv (.long x :: rest)) : V g cc own Ts nL ret R ro σo σ pc lv (rest) := by
  subst hn
  exact fun p l e s m args below meth c C H locs ls hP hS hl => lv_lload_n C.1 C.2.1 d hi (lv_at hl j hk) (kk p l e s m args below meth c C H locs ls hP hS hl)
theorem v_lload (n : Nat) (j : Nat) {i : Nat} {x : Int64} (d : decode cc pc = .ok (.lload i, 2)) (hk : lv[j]? = some (i, .long x)) (hn : pc + 2 = n) (kk : V g cc own Ts nL ret R ro σo σ n lv (.long x :: rest)) : V g cc own Ts nL ret R ro σo σ pc lv (rest) := by
  subst hn
  exact fun p l e s m args below meth c C H locs ls hP hS hl => lv_lload C.1 C.2.1 d (lv_at hl j hk) (kk p l e s m args below meth c C H locs ls hP hS hl)
theorem v_aload_n (n : Nat) (j : Nat) {k : Fin 4} {i : Nat} {x : Nat} (d : decode cc pc = .ok (.aload_n k, 1)) (hi : (k : Nat) = i) (hk : lv[j]? = some (i, .ref x)) (hn : pc + 1 = n) (kk : V g cc own Ts nL ret R ro σo σ n lv (.ref x :: rest)) : V g cc own Ts nL ret R ro σo σ pc lv (rest) := by
  subst hn
  exact fun p l e s m args below meth c C H locs ls hP hS hl => lv_aload_n C.1 C.2.1 d hi (lv_at hl j hk) (kk p l e s m args below meth c C H locs ls hP hS hl)
theorem v_aload (n : Nat) (j : Nat) {i : Nat} {x : Nat} (d : decode cc pc = .ok (.aload i, 2)) (hk : lv[j]? = some (i, .ref x)) (hn : pc + 2 = n) (kk : V g cc own Ts nL ret R ro σo σ n lv (.ref x :: rest)) : V g cc own Ts nL ret R ro σo σ pc lv (rest) := by
  subst hn
  exact fun p l e s m args below meth c C H locs ls hP hS hl => lv_aload C.1 C.2.1 d (lv_at hl j hk) (kk p l e s m args below meth c C H locs ls hP hS hl)
theorem v_istore_n (n : Nat) {k : Fin 4} {i : Nat} {x : Int32} {lv1 : List (Nat × Value)} (d : decode cc pc = .ok (.istore_n k, 1)) (hi : (k : Nat) = i) (hb : i < nL) (hn : pc + 1 = n) (hl1 : (i, .int x) :: lv.filter (fun q => !(q.1 == i) && !(q.1 + 1 == i && q.2.category == 2)) = lv1) (kk : V g cc own Ts nL ret R ro σo σ n lv1 rest) : V g cc own Ts nL ret R ro σo σ pc lv (.int x :: rest) := by
  subst hn
  subst hl1
  exact fun p l e s m args below meth c C H locs ls hP hS hl => lv_istore_n C.1 C.2.1 d hi hl hb rfl (fun ls hl => kk p l e s m args below meth c C H locs ls hP hS hl)
theorem v_istoreN_n (n : Nat) {k : Fin 4} {i : Nat} {x : Int32} {lv1 : Int32 → List (Nat × Value)} {β : Type} {K : Int32 → β} {oo : β} (h : nam x K = oo) (d : decode cc pc = .ok (.istore_n k, 1)) (hi : (k : Nat) = i) (hb : i < nL) (hn : pc + 1 = n) (hl1 : ∀ y : Int32, (i, .int y) :: lv.filter (fun q => !(q.1 == i) && !(q.1 + 1 == i && q.2.category == 2)) = lv1 y) (kk : ∀ y : Int32, K y = oo → V g cc own Ts nL ret R ro σo σ n (lv1 y) rest) : V g cc own Ts nL ret R ro σo σ pc lv (.int x :: rest) :=
  v_istore_n n d hi hb hn (hl1 x) (kk x h)
theorem v_istore (n : Nat) {i : Nat} {x : Int32} {lv1 : List (Nat × Value)} (d : decode cc pc = .ok (.istore i, 2)) (hb : i < nL) (hn : pc + 2 = n) (hl1 : (i, .int x) :: lv.filter (fun q => !(q.1 == i) && !(q.1 + 1 == i && q.2.category == 2)) = lv1) (kk : V g cc own Ts nL ret R ro σo σ n lv1 rest) : V g cc own Ts nL ret R ro σo σ pc lv (.int x :: rest) := by
  subst hn
  subst hl1
  exact fun p l e s m args below meth c C H locs ls hP hS hl => lv_istore C.1 C.2.1 d hl hb rfl (fun ls hl => kk p l e s m args below meth c C H locs ls hP hS hl)
theorem v_istoreN (n : Nat) {i : Nat} {x : Int32} {lv1 : Int32 → List (Nat × Value)} {β : Type} {K : Int32 → β} {oo : β} (h : nam x K = oo) (d : decode cc pc = .ok (.istore i, 2)) (hb : i < nL) (hn : pc + 2 = n) (hl1 : ∀ y : Int32, (i, .int y) :: lv.filter (fun q => !(q.1 == i) && !(q.1 + 1 == i && q.2.category == 2)) = lv1 y) (kk : ∀ y : Int32, K y = oo → V g cc own Ts nL ret R ro σo σ n (lv1 y) rest) : V g cc own Ts nL ret R ro σo σ pc lv (.int x :: rest) :=
  v_istore n d hb hn (hl1 x) (kk x h)
theorem v_lstore_n (n : Nat) {k : Fin 4} {i : Nat} {x : Int64} {lv1 : List (Nat × Value)} (d : decode cc pc = .ok (.lstore_n k, 1)) (hi : (k : Nat) = i) (hb : i + 1 < nL) (hn : pc + 1 = n) (hl1 : (i, .long x) :: lv.filter (fun q => !(q.1 == i) && (!(q.1 == i + 1) && !(q.1 + 1 == i && q.2.category == 2))) = lv1) (kk : V g cc own Ts nL ret R ro σo σ n lv1 rest) : V g cc own Ts nL ret R ro σo σ pc lv (.long x :: rest) := by
  subst hn
  subst hl1
  exact fun p l e s m args below meth c C H locs ls hP hS hl => lv_lstore_n C.1 C.2.1 d hi hl hb rfl (fun ls hl => kk p l e s m args below meth c C H locs ls hP hS hl)
theorem v_lstoreN_n (n : Nat) {k : Fin 4} {i : Nat} {x : Int64} {lv1 : Int64 → List (Nat × Value)} {β : Type} {K : Int64 → β} {oo : β} (h : nam x K = oo) (d : decode cc pc = .ok (.lstore_n k, 1)) (hi : (k : Nat) = i) (hb : i + 1 < nL) (hn : pc + 1 = n) (hl1 : ∀ y : Int64, (i, .long y) :: lv.filter (fun q => !(q.1 == i) && (!(q.1 == i + 1) && !(q.1 + 1 == i && q.2.category == 2))) = lv1 y) (kk : ∀ y : Int64, K y = oo → V g cc own Ts nL ret R ro σo σ n (lv1 y) rest) : V g cc own Ts nL ret R ro σo σ pc lv (.long x :: rest) :=
  v_lstore_n n d hi hb hn (hl1 x) (kk x h)
theorem v_lstore (n : Nat) {i : Nat} {x : Int64} {lv1 : List (Nat × Value)} (d : decode cc pc = .ok (.lstore i, 2)) (hb : i + 1 < nL) (hn : pc + 2 = n) (hl1 : (i, .long x) :: lv.filter (fun q => !(q.1 == i) && (!(q.1 == i + 1) && !(q.1 + 1 == i && q.2.category == 2))) = lv1) (kk : V g cc own Ts nL ret R ro σo σ n lv1 rest) : V g cc own Ts nL ret R ro σo σ pc lv (.long x :: rest) := by
  subst hn
  subst hl1
  exact fun p l e s m args below meth c C H locs ls hP hS hl => lv_lstore C.1 C.2.1 d hl hb rfl (fun ls hl => kk p l e s m args below meth c C H locs ls hP hS hl)
theorem v_lstoreN (n : Nat) {i : Nat} {x : Int64} {lv1 : Int64 → List (Nat × Value)} {β : Type} {K : Int64 → β} {oo : β} (h : nam x K = oo) (d : decode cc pc = .ok (.lstore i, 2)) (hb : i + 1 < nL) (hn : pc + 2 = n) (hl1 : ∀ y : Int64, (i, .long y) :: lv.filter (fun q => !(q.1 == i) && (!(q.1 == i + 1) && !(q.1 + 1 == i && q.2.category == 2))) = lv1 y) (kk : ∀ y : Int64, K y = oo → V g cc own Ts nL ret R ro σo σ n (lv1 y) rest) : V g cc own Ts nL ret R ro σo σ pc lv (.long x :: rest) :=
  v_lstore n d hb hn (hl1 x) (kk x h)
theorem v_astore_n (n : Nat) {k : Fin 4} {i : Nat} {x : Nat} {lv1 : List (Nat × Value)} (d : decode cc pc = .ok (.astore_n k, 1)) (hi : (k : Nat) = i) (hb : i < nL) (hn : pc + 1 = n) (hl1 : (i, .ref x) :: lv.filter (fun q => !(q.1 == i) && !(q.1 + 1 == i && q.2.category == 2)) = lv1) (kk : V g cc own Ts nL ret R ro σo σ n lv1 rest) : V g cc own Ts nL ret R ro σo σ pc lv (.ref x :: rest) := by
  subst hn
  subst hl1
  exact fun p l e s m args below meth c C H locs ls hP hS hl => lv_astore_n C.1 C.2.1 d hi hl hb rfl (fun ls hl => kk p l e s m args below meth c C H locs ls hP hS hl)
theorem v_astore (n : Nat) {i : Nat} {x : Nat} {lv1 : List (Nat × Value)} (d : decode cc pc = .ok (.astore i, 2)) (hb : i < nL) (hn : pc + 2 = n) (hl1 : (i, .ref x) :: lv.filter (fun q => !(q.1 == i) && !(q.1 + 1 == i && q.2.category == 2)) = lv1) (kk : V g cc own Ts nL ret R ro σo σ n lv1 rest) : V g cc own Ts nL ret R ro σo σ pc lv (.ref x :: rest) := by
  subst hn
  subst hl1
  exact fun p l e s m args below meth c C H locs ls hP hS hl => lv_astore C.1 C.2.1 d hl hb rfl (fun ls hl => kk p l e s m args below meth c C H locs ls hP hS hl)
theorem v_iincN (n j : Nat) {i : Nat} {z : Int} {x c : Int32} {lv1 : Int32 → List (Nat × Value)} {β : Type} {K : Int32 → β} {oo : β} (h : nam (x + c) K = oo) (d : decode cc pc = .ok (.iinc i z, 3)) (hk : lv[j]? = some (i, .int x)) (hc : Int32.ofInt z = c) (hb : i < nL) (hn : pc + 3 = n) (hl1 : ∀ y : Int32, (i, Value.int y) :: lv.filter (fun q => !(q.1 == i) && !(q.1 + 1 == i && q.2.category == 2)) = lv1 y) (kk : ∀ y : Int32, K y = oo → V g cc own Ts nL ret R ro σo σ n (lv1 y) rest) : V g cc own Ts nL ret R ro σo σ pc lv rest := by
  subst hn
  subst hc
  have kk := kk _ h
  rw [← hl1 (x + Int32.ofInt z)] at kk
  exact fun p l e s m args below meth c C H locs ls hP hS hl => lv_iinc C.1 C.2.1 d hl hk rfl hb rfl (fun ls hl => kk p l e s m args below meth c C H locs ls hP hS hl)
theorem v_if_eq (n t : Nat) {x : Int32} {off : Int} {β : Type} {A B oo : β} (h : (if x = 0 then A else B) = oo) (d : decode cc pc = .ok (.ifCond .eq off, 3)) (hn : pc + 3 = n) (ht : (pc : Int) + off = (t : Int)) (kt : A = oo → V g cc own Ts nL ret R ro σo σ t lv rest) (kf : B = oo → V g cc own Ts nL ret R ro σo σ n lv rest) : V g cc own Ts nL ret R ro σo σ pc lv (.int x :: rest) := by
  subst hn
  exact fun p l e s m args below meth c C H locs ls hP hS hl => lv_if_eq C.1 C.2.1 d ht (fun q => kt (by rw [if_pos q] at h; exact h) p l e s m args below meth c C H locs ls hP hS hl) (fun q => kf (by rw [if_neg q] at h; exact h) p l e s m args below meth c C H locs ls hP hS hl)
theorem v_if_ne (n t : Nat) {x : Int32} {off : Int} {β : Type} {A B oo : β} (h : (if x = 0 then B else A) = oo) (d : decode cc pc = .ok (.ifCond .ne off, 3)) (hn : pc + 3 = n) (ht : (pc : Int) + off = (t : Int)) (kt : A = oo → V g cc own Ts nL ret R ro σo σ t lv rest) (kf : B = oo → V g cc own Ts nL ret R ro σo σ n lv rest) : V g cc own Ts nL ret R ro σo σ pc lv (.int x :: rest) := by
  subst hn
  exact fun p l e s m args below meth c C H locs ls hP hS hl => lv_if_ne C.1 C.2.1 d ht (fun q => kt (by rw [if_neg q] at h; exact h) p l e s m args below meth c C H locs ls hP hS hl) (fun q => kf (by rw [if_pos q] at h; exact h) p l e s m args below meth c C H locs ls hP hS hl)
theorem v_if_lt (n t : Nat) {x : Int32} {off : Int} {β : Type} {A B oo : β} (h : (if x < 0 then A else B) = oo) (d : decode cc pc = .ok (.ifCond .lt off, 3)) (hn : pc + 3 = n) (ht : (pc : Int) + off = (t : Int)) (kt : A = oo → V g cc own Ts nL ret R ro σo σ t lv rest) (kf : B = oo → V g cc own Ts nL ret R ro σo σ n lv rest) : V g cc own Ts nL ret R ro σo σ pc lv (.int x :: rest) := by
  subst hn
  exact fun p l e s m args below meth c C H locs ls hP hS hl => lv_if_lt C.1 C.2.1 d ht (fun q => kt (by rw [if_pos q] at h; exact h) p l e s m args below meth c C H locs ls hP hS hl) (fun q => kf (by rw [if_neg q] at h; exact h) p l e s m args below meth c C H locs ls hP hS hl)
theorem v_if_ge (n t : Nat) {x : Int32} {off : Int} {β : Type} {A B oo : β} (h : (if 0 ≤ x then A else B) = oo) (d : decode cc pc = .ok (.ifCond .ge off, 3)) (hn : pc + 3 = n) (ht : (pc : Int) + off = (t : Int)) (kt : A = oo → V g cc own Ts nL ret R ro σo σ t lv rest) (kf : B = oo → V g cc own Ts nL ret R ro σo σ n lv rest) : V g cc own Ts nL ret R ro σo σ pc lv (.int x :: rest) := by
  subst hn
  exact fun p l e s m args below meth c C H locs ls hP hS hl => lv_if_ge C.1 C.2.1 d ht (fun q => kt (by rw [if_pos q] at h; exact h) p l e s m args below meth c C H locs ls hP hS hl) (fun q => kf (by rw [if_neg q] at h; exact h) p l e s m args below meth c C H locs ls hP hS hl)
theorem v_if_gt (n t : Nat) {x : Int32} {off : Int} {β : Type} {A B oo : β} (h : (if 0 < x then A else B) = oo) (d : decode cc pc = .ok (.ifCond .gt off, 3)) (hn : pc + 3 = n) (ht : (pc : Int) + off = (t : Int)) (kt : A = oo → V g cc own Ts nL ret R ro σo σ t lv rest) (kf : B = oo → V g cc own Ts nL ret R ro σo σ n lv rest) : V g cc own Ts nL ret R ro σo σ pc lv (.int x :: rest) := by
  subst hn
  exact fun p l e s m args below meth c C H locs ls hP hS hl => lv_if_gt C.1 C.2.1 d ht (fun q => kt (by rw [if_pos q] at h; exact h) p l e s m args below meth c C H locs ls hP hS hl) (fun q => kf (by rw [if_neg q] at h; exact h) p l e s m args below meth c C H locs ls hP hS hl)
theorem v_if_le (n t : Nat) {x : Int32} {off : Int} {β : Type} {A B oo : β} (h : (if x ≤ 0 then A else B) = oo) (d : decode cc pc = .ok (.ifCond .le off, 3)) (hn : pc + 3 = n) (ht : (pc : Int) + off = (t : Int)) (kt : A = oo → V g cc own Ts nL ret R ro σo σ t lv rest) (kf : B = oo → V g cc own Ts nL ret R ro σo σ n lv rest) : V g cc own Ts nL ret R ro σo σ pc lv (.int x :: rest) := by
  subst hn
  exact fun p l e s m args below meth c C H locs ls hP hS hl => lv_if_le C.1 C.2.1 d ht (fun q => kt (by rw [if_pos q] at h; exact h) p l e s m args below meth c C H locs ls hP hS hl) (fun q => kf (by rw [if_neg q] at h; exact h) p l e s m args below meth c C H locs ls hP hS hl)
theorem v_icmp_eq (n t : Nat) {x y : Int32} {off : Int} {β : Type} {A B oo : β} (h : (if x = y then A else B) = oo) (d : decode cc pc = .ok (.if_icmp .eq off, 3)) (hn : pc + 3 = n) (ht : (pc : Int) + off = (t : Int)) (kt : A = oo → V g cc own Ts nL ret R ro σo σ t lv rest) (kf : B = oo → V g cc own Ts nL ret R ro σo σ n lv rest) : V g cc own Ts nL ret R ro σo σ pc lv (.int y :: .int x :: rest) := by
  subst hn
  exact fun p l e s m args below meth c C H locs ls hP hS hl => lv_icmp_eq C.1 C.2.1 d ht (fun q => kt (by rw [if_pos q] at h; exact h) p l e s m args below meth c C H locs ls hP hS hl) (fun q => kf (by rw [if_neg q] at h; exact h) p l e s m args below meth c C H locs ls hP hS hl)
theorem v_icmp_ne (n t : Nat) {x y : Int32} {off : Int} {β : Type} {A B oo : β} (h : (if x = y then B else A) = oo) (d : decode cc pc = .ok (.if_icmp .ne off, 3)) (hn : pc + 3 = n) (ht : (pc : Int) + off = (t : Int)) (kt : A = oo → V g cc own Ts nL ret R ro σo σ t lv rest) (kf : B = oo → V g cc own Ts nL ret R ro σo σ n lv rest) : V g cc own Ts nL ret R ro σo σ pc lv (.int y :: .int x :: rest) := by
  subst hn
  exact fun p l e s m args below meth c C H locs ls hP hS hl => lv_icmp_ne C.1 C.2.1 d ht (fun q => kt (by rw [if_neg q] at h; exact h) p l e s m args below meth c C H locs ls hP hS hl) (fun q => kf (by rw [if_pos q] at h; exact h) p l e s m args below meth c C H locs ls hP hS hl)
theorem v_icmp_lt (n t : Nat) {x y : Int32} {off : Int} {β : Type} {A B oo : β} (h : (if x < y then A else B) = oo) (d : decode cc pc = .ok (.if_icmp .lt off, 3)) (hn : pc + 3 = n) (ht : (pc : Int) + off = (t : Int)) (kt : A = oo → V g cc own Ts nL ret R ro σo σ t lv rest) (kf : B = oo → V g cc own Ts nL ret R ro σo σ n lv rest) : V g cc own Ts nL ret R ro σo σ pc lv (.int y :: .int x :: rest) := by
  subst hn
  exact fun p l e s m args below meth c C H locs ls hP hS hl => lv_icmp_lt C.1 C.2.1 d ht (fun q => kt (by rw [if_pos q] at h; exact h) p l e s m args below meth c C H locs ls hP hS hl) (fun q => kf (by rw [if_neg q] at h; exact h) p l e s m args below meth c C H locs ls hP hS hl)
theorem v_icmp_ge (n t : Nat) {x y : Int32} {off : Int} {β : Type} {A B oo : β} (h : (if y ≤ x then A else B) = oo) (d : decode cc pc = .ok (.if_icmp .ge off, 3)) (hn : pc + 3 = n) (ht : (pc : Int) + off = (t : Int)) (kt : A = oo → V g cc own Ts nL ret R ro σo σ t lv rest) (kf : B = oo → V g cc own Ts nL ret R ro σo σ n lv rest) : V g cc own Ts nL ret R ro σo σ pc lv (.int y :: .int x :: rest) := by
  subst hn
  exact fun p l e s m args below meth c C H locs ls hP hS hl => lv_icmp_ge C.1 C.2.1 d ht (fun q => kt (by rw [if_pos q] at h; exact h) p l e s m args below meth c C H locs ls hP hS hl) (fun q => kf (by rw [if_neg q] at h; exact h) p l e s m args below meth c C H locs ls hP hS hl)
theorem v_icmp_gt (n t : Nat) {x y : Int32} {off : Int} {β : Type} {A B oo : β} (h : (if y < x then A else B) = oo) (d : decode cc pc = .ok (.if_icmp .gt off, 3)) (hn : pc + 3 = n) (ht : (pc : Int) + off = (t : Int)) (kt : A = oo → V g cc own Ts nL ret R ro σo σ t lv rest) (kf : B = oo → V g cc own Ts nL ret R ro σo σ n lv rest) : V g cc own Ts nL ret R ro σo σ pc lv (.int y :: .int x :: rest) := by
  subst hn
  exact fun p l e s m args below meth c C H locs ls hP hS hl => lv_icmp_gt C.1 C.2.1 d ht (fun q => kt (by rw [if_pos q] at h; exact h) p l e s m args below meth c C H locs ls hP hS hl) (fun q => kf (by rw [if_neg q] at h; exact h) p l e s m args below meth c C H locs ls hP hS hl)
theorem v_icmp_le (n t : Nat) {x y : Int32} {off : Int} {β : Type} {A B oo : β} (h : (if x ≤ y then A else B) = oo) (d : decode cc pc = .ok (.if_icmp .le off, 3)) (hn : pc + 3 = n) (ht : (pc : Int) + off = (t : Int)) (kt : A = oo → V g cc own Ts nL ret R ro σo σ t lv rest) (kf : B = oo → V g cc own Ts nL ret R ro σo σ n lv rest) : V g cc own Ts nL ret R ro σo σ pc lv (.int y :: .int x :: rest) := by
  subst hn
  exact fun p l e s m args below meth c C H locs ls hP hS hl => lv_icmp_le C.1 C.2.1 d ht (fun q => kt (by rw [if_pos q] at h; exact h) p l e s m args below meth c C H locs ls hP hS hl) (fun q => kf (by rw [if_neg q] at h; exact h) p l e s m args below meth c C H locs ls hP hS hl)
theorem v_goto (t : Nat) {off : Int} (d : decode cc pc = .ok (.goto off, 3)) (ht : (pc : Int) + off = (t : Int)) (kk : V g cc own Ts nL ret R ro σo σ t lv rest) : V g cc own Ts nL ret R ro σo σ pc lv rest := fun p l e s m args below meth c C H locs ls hP hS hl => lv_goto C.1 C.2.1 d ht (kk p l e s m args below meth c C H locs ls hP hS hl)
theorem v_ite {c : Prop} {hc : Decidable c} {β : Type} {A B oo : β} (h : @ite β c hc A B = oo) {X : Prop} (kt : c → A = oo → X) (kf : ¬ c → B = oo → X) : X := by
  by_cases q : c
  · rw [if_pos q] at h; exact kt q h
  · rw [if_neg q] at h; exact kf q h
theorem v_tabIn (t : Nat) {dflt lo hi : Int} {offs : Array Int} {len : Nat} {x : Int32} {off : Int} (d : decode cc pc = .ok (.tableswitch dflt lo hi offs, len)) (h1 : ¬ x.toInt < lo) (h2 : ¬ hi < x.toInt) (ho : offs[(x.toInt - lo).toNat]? = some off) (ht : (pc : Int) + off = (t : Int)) (kk : V g cc own Ts nL ret R ro σo σ t lv rest) : V g cc own Ts nL ret R ro σo σ pc lv (.int x :: rest) := fun p l e s m args below meth c C H locs ls hP hS hl => lv_tableIn C.1 C.2.1 d h1 h2 ho ht (kk p l e s m args below meth c C H locs ls hP hS hl)
theorem ti_of {x z : Int32} {n : Int} (q : x = z) (h : z.toInt = n) : x.toInt = n := q ▸ h
theorem v_tabInZ (t : Nat) (z : Int) {dflt lo hi : Int} {offs : Array Int} {len : Nat} {x : Int32} {off : Int} (d : decode cc pc = .ok (.tableswitch dflt lo hi offs, len)) (hx : x.toInt = z) (h1 : ¬ z < lo) (h2 : ¬ hi < z) (ho : offs[(z - lo).toNat]? = some off) (ht : (pc : Int) + off = (t : Int)) (kk : V g cc own Ts nL ret R ro σo σ t lv rest) : V g cc own Ts nL ret R ro σo σ pc lv (.int x :: rest) := by
  subst hx
  exact v_tabIn t d h1 h2 ho ht kk
theorem v_tabOut (t : Nat) {dflt lo hi : Int} {offs : Array Int} {len : Nat} {x : Int32} (d : decode cc pc = .ok (.tableswitch dflt lo hi offs, len)) (h : x.toInt < lo ∨ hi < x.toInt) (ht : (pc : Int) + dflt = (t : Int)) (kk : V g cc own Ts nL ret R ro σo σ t lv rest) : V g cc own Ts nL ret R ro σo σ pc lv (.int x :: rest) := fun p l e s m args below meth c C H locs ls hP hS hl => lv_tableOut C.1 C.2.1 d h ht (kk p l e s m args below meth c C H locs ls hP hS hl)
theorem ne_toInt {x y : Int32} (h : ¬ x = y) : x.toInt ≠ y.toInt := fun q => h (Int32.toInt_inj.mp q)
theorem v_sub {lv1 : List (Nat × Value)} (ks : List Nat) (hl1 : lv_pick lv ks = lv1) (kk : V g cc own Ts nL ret R ro σo σ pc lv1 rest) : V g cc own Ts nL ret R ro σo σ pc lv rest := fun p l e s m args below meth c C H locs ls hP hS hl => kk p l e s m args below meth c C H locs ls hP hS (lv_sub hl ks hl1)
theorem v_alen (n : Nat) {k : Nat} (hk : kK k = 9) (d : decode cc pc = .ok (.arraylength, 1)) (hn : pc + 1 = n) (kk : V g cc own Ts nL ret R ro σo σ n lv (.int (nI (kLen k)) :: rest)) : V g cc own Ts nL ret R ro σo σ pc lv (.ref (g.1 k) :: rest) := by
  subst hn
  exact fun p l e s m args below meth c C H locs ls hP hS hl => va_alen (x := (kLen k, .inl (rI σ k))) C.1 C.2.1 C.2.2.2.2.2.2.2.1.1 hP k 0 (by rw [WL_get (kK_lt hk (by decide)), cel_9 hk]) rfl rfl d (kk p l e s m args below meth c C H locs ls hP hS hl)
theorem inb_in {i : Int32} {n : Nat} (h : inb i n = true) : vp_in i n := by
  unfold inb at h
  exact of_decide_eq_true (p := ¬ (i < 0 ∨ n ≤ i.toNatClampNeg)) h
theorem v_iald (n : Nat) {k : Nat} {i : Int32} {γ : Type} {A : Option γ} {oo : γ} (h : (if inb i (kLen k) = true then A else none) = some oo) (hk : kK k = 9) (d : decode cc pc = .ok (.iaload, 1)) (hn : pc + 1 = n) (kk : A = some oo → V g cc own Ts nL ret R ro σo σ n lv (.int (rI σ k (ix i)) :: rest)) : V g cc own Ts nL ret R ro σo σ pc lv (.int i :: .ref (g.1 k) :: rest) := by
  subst hn
  refine v_ite h (fun q h => ?_) (fun q h => by cases h)
  exact fun p l e s m args below meth c C H locs ls hP hS hl => va_iald C.1 C.2.1 C.2.2.2.2.2.2.2.1.1 hP k 0 (by rw [WL_get (kK_lt hk (by decide)), cel_9 hk]) rfl (inb_in q) d (kk h p l e s m args below meth c C H locs ls hP hS hl)
theorem v_zald (n : Nat) {k : Nat} {i : Int32} {γ : Type} {A : Option γ} {oo : γ} (h : (if inb i (kLen k) = true then A else none) = some oo) (hk : kK k = 10) (d : decode cc pc = .ok (.baload, 1)) (hn : pc + 1 = n) (kk : A = some oo → V g cc own Ts nL ret R ro σo σ n lv (.int (rI σ k (ix i)) :: rest)) : V g cc own Ts nL ret R ro σo σ pc lv (.int i :: .ref (g.1 k) :: rest) := by
  subst hn
  refine v_ite h (fun q h => ?_) (fun q h => by cases h)
  exact fun p l e s m args below meth c C H locs ls hP hS hl => va_zald C.1 C.2.1 C.2.2.2.2.2.2.2.1.1 hP k 1 (by rw [WL_get (kK_lt hk (by decide)), cel_10 hk]) rfl (inb_in q) d (kk h p l e s m args below meth c C H locs ls hP hS hl)
theorem v_iast (n : Nat) {k : Nat} {i x : Int32} {γ : Type} {K : Sg → Option γ} {oo : γ} (h : (if inb i (kLen k) = true then nam (stI σ k (ix i) x) K else none) = some oo) (hk : kK k = 9) (d : decode cc pc = .ok (.iastore, 1)) (hn : pc + 1 = n) (kk : ∀ τ : Sg, K τ = some oo → V g cc own Ts nL ret R ro σo τ n lv rest) : V g cc own Ts nL ret R ro σo σ pc lv (.int x :: .int i :: .ref (g.1 k) :: rest) := by
  subst hn
  refine v_ite h (fun q h => ?_) (fun q h => by cases h)
  refine fun p l e s m args below meth c C H locs ls hP hS hl => va_iast C.1 C.2.1 C.2.2.2.2.2.2.2.1.1 hP (WL_D C.2.2.2.2.2.2.2.2.2 σ) hS k 0 (by rw [WL_get (kK_lt hk (by decide)), cel_9 hk]) rfl (inb_in q) d (fun H1 locs1 hP1 hD1 hS1 => kk (stI σ k (ix i) x) h p l e s m args below meth c C H1 locs1 ls ?_ hS1 hl)
  rw [WL_set (τ := stI σ k (ix i) x) (kK_lt hk (by decide)) (by rw [cel_9 hk]; unfold rI; rw [stI_1]; rfl) (stI_n _ _ _ _) (stI_2 _ _ _ _)] at hP1
  exact hP1
theorem v_zast (n : Nat) {k : Nat} {i x : Int32} {γ : Type} {K : Sg → Option γ} {oo : γ} (h : (if inb i (kLen k) = true then nam (stI σ k (ix i) (vp_nar .boolean x)) K else none) = some oo) (hk : kK k = 10) (d : decode cc pc = .ok (.bastore, 1)) (hn : pc + 1 = n) (kk : ∀ τ : Sg, K τ = some oo → V g cc own Ts nL ret R ro σo τ n lv rest) : V g cc own Ts nL ret R ro σo σ pc lv (.int x :: .int i :: .ref (g.1 k) :: rest) := by
  subst hn
  refine v_ite h (fun q h => ?_) (fun q h => by cases h)
  refine fun p l e s m args below meth c C H locs ls hP hS hl => va_zast C.1 C.2.1 C.2.2.2.2.2.2.2.1.1 hP (WL_D C.2.2.2.2.2.2.2.2.2 σ) hS k 1 (by rw [WL_get (kK_lt hk (by decide)), cel_10 hk]) rfl (inb_in q) d (fun H1 locs1 hP1 hD1 hS1 => kk (stI σ k (ix i) (vp_nar .boolean x)) h p l e s m args below meth c C H1 locs1 ls ?_ hS1 hl)
  rw [WL_set (τ := stI σ k (ix i) (vp_nar .boolean x)) (kK_lt hk (by decide)) (by rw [cel_10 hk]; unfold rI; rw [stI_1]; rfl) (stI_n _ _ _ _) (stI_2 _ _ _ _)] at hP1
  exact hP1
theorem vg_0_0 (n : Nat) {k idx : Nat} (k1 : Nat) (hk : kK k = 0) (hin : ∀ w ∈ wsX30, w ∈ Ts) (hm : Cond.fieldLink own idx "WidowWeight$Market" "kinds" "LWidowWeight$Row;" ∈ Ts) (hk1 : k + 1 = k1) (d : decode cc pc = .ok (.getfield idx, 3)) (hn : pc + 3 = n) (kk : V g cc own Ts nL ret R ro σo σ n lv (.ref (g.1 k1) :: rest)) : V g cc own Ts nL ret R ro σo σ pc lv (.ref (g.1 k) :: rest) := by
  subst hn
  subst hk1
  exact fun p l e s m args below meth c C H locs ls hP hS hl => va_get (C := RX3) (T := TX3) (N := 9) C.1 C.2.1 C.2.2.2.2.2.2.1 hin C.2.2.2.2.2.1 C.2.2.2.2.2.2.2.1.1 hP k (by rw [WL_get (kK_lt hk (by decide)), cel_0 hk]) rfl 0 (by decide) (C.2.2.2.2.2.2.1 _ hm) (fun _ h9 => h9) rfl d (kk p l e s m args below meth c C H locs ls hP hS hl)
theorem vg_0_1 (n : Nat) {k idx : Nat} (k1 : Nat) (hk : kK k = 0) (hin : ∀ w ∈ wsX30, w ∈ Ts) (hm : Cond.fieldLink own idx "WidowWeight$Market" "houses" "LWidowWeight$Row;" ∈ Ts) (hk1 : k + 3 = k1) (d : decode cc pc = .ok (.getfield idx, 3)) (hn : pc + 3 = n) (kk : V g cc own Ts nL ret R ro σo σ n lv (.ref (g.1 k1) :: rest)) : V g cc own Ts nL ret R ro σo σ pc lv (.ref (g.1 k) :: rest) := by
  subst hn
  subst hk1
  exact fun p l e s m args below meth c C H locs ls hP hS hl => va_get (C := RX3) (T := TX3) (N := 9) C.1 C.2.1 C.2.2.2.2.2.2.1 hin C.2.2.2.2.2.1 C.2.2.2.2.2.2.2.1.1 hP k (by rw [WL_get (kK_lt hk (by decide)), cel_0 hk]) rfl 1 (by decide) (C.2.2.2.2.2.2.1 _ hm) (fun _ h9 => h9) rfl d (kk p l e s m args below meth c C H locs ls hP hS hl)
theorem vg_0_2 (n : Nat) {k idx : Nat} (k1 : Nat) (hk : kK k = 0) (hin : ∀ w ∈ wsX30, w ∈ Ts) (hm : Cond.fieldLink own idx "WidowWeight$Market" "helds" "LWidowWeight$Row;" ∈ Ts) (hk1 : k + 5 = k1) (d : decode cc pc = .ok (.getfield idx, 3)) (hn : pc + 3 = n) (kk : V g cc own Ts nL ret R ro σo σ n lv (.ref (g.1 k1) :: rest)) : V g cc own Ts nL ret R ro σo σ pc lv (.ref (g.1 k) :: rest) := by
  subst hn
  subst hk1
  exact fun p l e s m args below meth c C H locs ls hP hS hl => va_get (C := RX3) (T := TX3) (N := 9) C.1 C.2.1 C.2.2.2.2.2.2.1 hin C.2.2.2.2.2.1 C.2.2.2.2.2.2.2.1.1 hP k (by rw [WL_get (kK_lt hk (by decide)), cel_0 hk]) rfl 2 (by decide) (C.2.2.2.2.2.2.1 _ hm) (fun _ h9 => h9) rfl d (kk p l e s m args below meth c C H locs ls hP hS hl)
theorem vg_0_3 (n : Nat) {k idx : Nat} (k1 : Nat) (hk : kK k = 0) (hin : ∀ w ∈ wsX30, w ∈ Ts) (hm : Cond.fieldLink own idx "WidowWeight$Market" "balances" "LWidowWeight$Row;" ∈ Ts) (hk1 : k + 7 = k1) (d : decode cc pc = .ok (.getfield idx, 3)) (hn : pc + 3 = n) (kk : V g cc own Ts nL ret R ro σo σ n lv (.ref (g.1 k1) :: rest)) : V g cc own Ts nL ret R ro σo σ pc lv (.ref (g.1 k) :: rest) := by
  subst hn
  subst hk1
  exact fun p l e s m args below meth c C H locs ls hP hS hl => va_get (C := RX3) (T := TX3) (N := 9) C.1 C.2.1 C.2.2.2.2.2.2.1 hin C.2.2.2.2.2.1 C.2.2.2.2.2.2.2.1.1 hP k (by rw [WL_get (kK_lt hk (by decide)), cel_0 hk]) rfl 3 (by decide) (C.2.2.2.2.2.2.1 _ hm) (fun _ h9 => h9) rfl d (kk p l e s m args below meth c C H locs ls hP hS hl)
theorem vg_0_4 (n : Nat) {k idx : Nat} (k1 : Nat) (hk : kK k = 0) (hin : ∀ w ∈ wsX30, w ∈ Ts) (hm : Cond.fieldLink own idx "WidowWeight$Market" "readings" "LWidowWeight$Row;" ∈ Ts) (hk1 : k + 9 = k1) (d : decode cc pc = .ok (.getfield idx, 3)) (hn : pc + 3 = n) (kk : V g cc own Ts nL ret R ro σo σ n lv (.ref (g.1 k1) :: rest)) : V g cc own Ts nL ret R ro σo σ pc lv (.ref (g.1 k) :: rest) := by
  subst hn
  subst hk1
  exact fun p l e s m args below meth c C H locs ls hP hS hl => va_get (C := RX3) (T := TX3) (N := 9) C.1 C.2.1 C.2.2.2.2.2.2.1 hin C.2.2.2.2.2.1 C.2.2.2.2.2.2.2.1.1 hP k (by rw [WL_get (kK_lt hk (by decide)), cel_0 hk]) rfl 4 (by decide) (C.2.2.2.2.2.2.1 _ hm) (fun _ h9 => h9) rfl d (kk p l e s m args below meth c C H locs ls hP hS hl)
theorem vg_0_5 (n : Nat) {k idx : Nat} (k1 : Nat) (hk : kK k = 0) (hin : ∀ w ∈ wsX30, w ∈ Ts) (hm : Cond.fieldLink own idx "WidowWeight$Market" "notes" "LWidowWeight$Row;" ∈ Ts) (hk1 : k + 11 = k1) (d : decode cc pc = .ok (.getfield idx, 3)) (hn : pc + 3 = n) (kk : V g cc own Ts nL ret R ro σo σ n lv (.ref (g.1 k1) :: rest)) : V g cc own Ts nL ret R ro σo σ pc lv (.ref (g.1 k) :: rest) := by
  subst hn
  subst hk1
  exact fun p l e s m args below meth c C H locs ls hP hS hl => va_get (C := RX3) (T := TX3) (N := 9) C.1 C.2.1 C.2.2.2.2.2.2.1 hin C.2.2.2.2.2.1 C.2.2.2.2.2.2.2.1.1 hP k (by rw [WL_get (kK_lt hk (by decide)), cel_0 hk]) rfl 5 (by decide) (C.2.2.2.2.2.2.1 _ hm) (fun _ h9 => h9) rfl d (kk p l e s m args below meth c C H locs ls hP hS hl)
theorem vg_0_6 (n : Nat) {k idx : Nat} (k1 : Nat) (hk : kK k = 0) (hin : ∀ w ∈ wsX30, w ∈ Ts) (hm : Cond.fieldLink own idx "WidowWeight$Market" "tippings" "LWidowWeight$Row;" ∈ Ts) (hk1 : k + 13 = k1) (d : decode cc pc = .ok (.getfield idx, 3)) (hn : pc + 3 = n) (kk : V g cc own Ts nL ret R ro σo σ n lv (.ref (g.1 k1) :: rest)) : V g cc own Ts nL ret R ro σo σ pc lv (.ref (g.1 k) :: rest) := by
  subst hn
  subst hk1
  exact fun p l e s m args below meth c C H locs ls hP hS hl => va_get (C := RX3) (T := TX3) (N := 9) C.1 C.2.1 C.2.2.2.2.2.2.1 hin C.2.2.2.2.2.1 C.2.2.2.2.2.2.2.1.1 hP k (by rw [WL_get (kK_lt hk (by decide)), cel_0 hk]) rfl 6 (by decide) (C.2.2.2.2.2.2.1 _ hm) (fun _ h9 => h9) rfl d (kk p l e s m args below meth c C H locs ls hP hS hl)
theorem vg_0_7 (n : Nat) {k idx : Nat} (k1 : Nat) (hk : kK k = 0) (hin : ∀ w ∈ wsX30, w ∈ Ts) (hm : Cond.fieldLink own idx "WidowWeight$Market" "past" "LWidowWeight$Row;" ∈ Ts) (hk1 : k + 15 = k1) (d : decode cc pc = .ok (.getfield idx, 3)) (hn : pc + 3 = n) (kk : V g cc own Ts nL ret R ro σo σ n lv (.ref (g.1 k1) :: rest)) : V g cc own Ts nL ret R ro σo σ pc lv (.ref (g.1 k) :: rest) := by
  subst hn
  subst hk1
  exact fun p l e s m args below meth c C H locs ls hP hS hl => va_get (C := RX3) (T := TX3) (N := 9) C.1 C.2.1 C.2.2.2.2.2.2.1 hin C.2.2.2.2.2.1 C.2.2.2.2.2.2.2.1.1 hP k (by rw [WL_get (kK_lt hk (by decide)), cel_0 hk]) rfl 7 (by decide) (C.2.2.2.2.2.2.1 _ hm) (fun _ h9 => h9) rfl d (kk p l e s m args below meth c C H locs ls hP hS hl)
theorem vg_0_8 (n : Nat) {k idx : Nat} (k1 : Nat) (hk : kK k = 0) (hin : ∀ w ∈ wsX30, w ∈ Ts) (hm : Cond.fieldLink own idx "WidowWeight$Market" "now" "LWidowWeight$Moment;" ∈ Ts) (hk1 : k + 17 = k1) (d : decode cc pc = .ok (.getfield idx, 3)) (hn : pc + 3 = n) (kk : V g cc own Ts nL ret R ro σo σ n lv (.ref (g.1 k1) :: rest)) : V g cc own Ts nL ret R ro σo σ pc lv (.ref (g.1 k) :: rest) := by
  subst hn
  subst hk1
  exact fun p l e s m args below meth c C H locs ls hP hS hl => va_get (C := RX3) (T := TX3) (N := 9) C.1 C.2.1 C.2.2.2.2.2.2.1 hin C.2.2.2.2.2.1 C.2.2.2.2.2.2.2.1.1 hP k (by rw [WL_get (kK_lt hk (by decide)), cel_0 hk]) rfl 8 (by decide) (C.2.2.2.2.2.2.1 _ hm) (fun _ h9 => h9) rfl d (kk p l e s m args below meth c C H locs ls hP hS hl)
theorem vg_1_0 (n : Nat) {k idx : Nat} (hk : kK k = 1) (hin : ∀ w ∈ wsX40, w ∈ Ts) (hm : Cond.fieldLink own idx "WidowWeight$Moment" "day" "I" ∈ Ts) (d : decode cc pc = .ok (.getfield idx, 3)) (hn : pc + 3 = n) (kk : V g cc own Ts nL ret R ro σo σ n lv (.int (rI σ k 0) :: rest)) : V g cc own Ts nL ret R ro σo σ pc lv (.ref (g.1 k) :: rest) := by
  subst hn
  exact fun p l e s m args below meth c C H locs ls hP hS hl => va_get (C := RX4) (T := TX4) (N := 4) C.1 C.2.1 C.2.2.2.2.2.2.1 hin C.2.2.2.2.2.1 C.2.2.2.2.2.2.2.1.1 hP k (by rw [WL_get (kK_lt hk (by decide)), cel_1 hk]) rfl 0 (by decide) (C.2.2.2.2.2.2.1 _ hm) (fun _ h9 => h9) rfl d (kk p l e s m args below meth c C H locs ls hP hS hl)
theorem vp_1_0 (n : Nat) {k idx : Nat} {x : Int32} {β : Type} {K : Sg → β} {oo : β} (h : nam (stI σ k 0 x) K = oo) (hk : kK k = 1) (hin : ∀ w ∈ wsX40, w ∈ Ts) (hm : Cond.fieldLink own idx "WidowWeight$Moment" "day" "I" ∈ Ts) (d : decode cc pc = .ok (.putfield idx, 3)) (hn : pc + 3 = n) (kk : ∀ τ : Sg, K τ = oo → V g cc own Ts nL ret R ro σo τ n lv rest) : V g cc own Ts nL ret R ro σo σ pc lv (.int x :: .ref (g.1 k) :: rest) := by
  subst hn
  refine fun p l e s m args below meth c C H locs ls hP hS hl => va_put (C := RX4) (T := TX4) (N := 4) (ty := .int) C.1 C.2.1 C.2.2.2.2.2.2.1 hin tyX4 tyX4_ok nmX4 C.2.2.2.2.2.1 C.2.2.2.2.2.2.2.1.1 hP (WL_D C.2.2.2.2.2.2.2.2.2 σ) hS k (by rw [WL_get (kK_lt hk (by decide)), cel_1 hk]) rfl 0 (by decide) (C.2.2.2.2.2.2.1 _ hm) (fun _ h9 => h9) rfl (by decide +kernel) rfl rfl (Nat.le_of_ble_eq_true rfl) d (fun H1 locs1 hP1 hD1 hS1 => kk (stI σ k 0 x) h p l e s m args below meth c C H1 locs1 ls ?_ hS1 hl)
  rw [WL_set (τ := stI σ k 0 x) (kK_lt hk (by decide)) (by rw [cel_1 hk]; simp [rI_stI, rI_stL, rL_stI, rL_stL]) (stI_n _ _ _ _) (stI_2 _ _ _ _)] at hP1
  exact hP1
theorem vg_1_1 (n : Nat) {k idx : Nat} (hk : kK k = 1) (hin : ∀ w ∈ wsX40, w ∈ Ts) (hm : Cond.fieldLink own idx "WidowWeight$Moment" "lent" "I" ∈ Ts) (d : decode cc pc = .ok (.getfield idx, 3)) (hn : pc + 3 = n) (kk : V g cc own Ts nL ret R ro σo σ n lv (.int (rI σ k 1) :: rest)) : V g cc own Ts nL ret R ro σo σ pc lv (.ref (g.1 k) :: rest) := by
  subst hn
  exact fun p l e s m args below meth c C H locs ls hP hS hl => va_get (C := RX4) (T := TX4) (N := 4) C.1 C.2.1 C.2.2.2.2.2.2.1 hin C.2.2.2.2.2.1 C.2.2.2.2.2.2.2.1.1 hP k (by rw [WL_get (kK_lt hk (by decide)), cel_1 hk]) rfl 1 (by decide) (C.2.2.2.2.2.2.1 _ hm) (fun _ h9 => h9) rfl d (kk p l e s m args below meth c C H locs ls hP hS hl)
theorem vp_1_1 (n : Nat) {k idx : Nat} {x : Int32} {β : Type} {K : Sg → β} {oo : β} (h : nam (stI σ k 1 x) K = oo) (hk : kK k = 1) (hin : ∀ w ∈ wsX40, w ∈ Ts) (hm : Cond.fieldLink own idx "WidowWeight$Moment" "lent" "I" ∈ Ts) (d : decode cc pc = .ok (.putfield idx, 3)) (hn : pc + 3 = n) (kk : ∀ τ : Sg, K τ = oo → V g cc own Ts nL ret R ro σo τ n lv rest) : V g cc own Ts nL ret R ro σo σ pc lv (.int x :: .ref (g.1 k) :: rest) := by
  subst hn
  refine fun p l e s m args below meth c C H locs ls hP hS hl => va_put (C := RX4) (T := TX4) (N := 4) (ty := .int) C.1 C.2.1 C.2.2.2.2.2.2.1 hin tyX4 tyX4_ok nmX4 C.2.2.2.2.2.1 C.2.2.2.2.2.2.2.1.1 hP (WL_D C.2.2.2.2.2.2.2.2.2 σ) hS k (by rw [WL_get (kK_lt hk (by decide)), cel_1 hk]) rfl 1 (by decide) (C.2.2.2.2.2.2.1 _ hm) (fun _ h9 => h9) rfl (by decide +kernel) rfl rfl (Nat.le_of_ble_eq_true rfl) d (fun H1 locs1 hP1 hD1 hS1 => kk (stI σ k 1 x) h p l e s m args below meth c C H1 locs1 ls ?_ hS1 hl)
  rw [WL_set (τ := stI σ k 1 x) (kK_lt hk (by decide)) (by rw [cel_1 hk]; simp [rI_stI, rI_stL, rL_stI, rL_stL]) (stI_n _ _ _ _) (stI_2 _ _ _ _)] at hP1
  exact hP1
theorem vg_1_2 (n : Nat) {k idx : Nat} (k1 : Nat) (hk : kK k = 1) (hin : ∀ w ∈ wsX40, w ∈ Ts) (hm : Cond.fieldLink own idx "WidowWeight$Moment" "stones" "LWidowWeight$Row;" ∈ Ts) (hk1 : k + 1 = k1) (d : decode cc pc = .ok (.getfield idx, 3)) (hn : pc + 3 = n) (kk : V g cc own Ts nL ret R ro σo σ n lv (.ref (g.1 k1) :: rest)) : V g cc own Ts nL ret R ro σo σ pc lv (.ref (g.1 k) :: rest) := by
  subst hn
  subst hk1
  exact fun p l e s m args below meth c C H locs ls hP hS hl => va_get (C := RX4) (T := TX4) (N := 4) C.1 C.2.1 C.2.2.2.2.2.2.1 hin C.2.2.2.2.2.1 C.2.2.2.2.2.2.2.1.1 hP k (by rw [WL_get (kK_lt hk (by decide)), cel_1 hk]) rfl 2 (by decide) (C.2.2.2.2.2.2.1 _ hm) (fun _ h9 => h9) rfl d (kk p l e s m args below meth c C H locs ls hP hS hl)
theorem vg_1_3 (n : Nat) {k idx : Nat} (k1 : Nat) (hk : kK k = 1) (hin : ∀ w ∈ wsX40, w ∈ Ts) (hm : Cond.fieldLink own idx "WidowWeight$Moment" "moods" "LWidowWeight$Row;" ∈ Ts) (hk1 : k + 3 = k1) (d : decode cc pc = .ok (.getfield idx, 3)) (hn : pc + 3 = n) (kk : V g cc own Ts nL ret R ro σo σ n lv (.ref (g.1 k1) :: rest)) : V g cc own Ts nL ret R ro σo σ pc lv (.ref (g.1 k) :: rest) := by
  subst hn
  subst hk1
  exact fun p l e s m args below meth c C H locs ls hP hS hl => va_get (C := RX4) (T := TX4) (N := 4) C.1 C.2.1 C.2.2.2.2.2.2.1 hin C.2.2.2.2.2.1 C.2.2.2.2.2.2.2.1.1 hP k (by rw [WL_get (kK_lt hk (by decide)), cel_1 hk]) rfl 3 (by decide) (C.2.2.2.2.2.2.1 _ hm) (fun _ h9 => h9) rfl d (kk p l e s m args below meth c C H locs ls hP hS hl)
theorem vg_2_0 (n : Nat) {k idx : Nat} (hk : kK k = 2) (hin : ∀ w ∈ wsX50, w ∈ Ts) (hm : Cond.fieldLink own idx "WidowWeight$Pans" "found" "Z" ∈ Ts) (d : decode cc pc = .ok (.getfield idx, 3)) (hn : pc + 3 = n) (kk : V g cc own Ts nL ret R ro σo σ n lv (.int (rI σ k 0) :: rest)) : V g cc own Ts nL ret R ro σo σ pc lv (.ref (g.1 k) :: rest) := by
  subst hn
  exact fun p l e s m args below meth c C H locs ls hP hS hl => va_get (C := RX5) (T := TX5) (N := 10) C.1 C.2.1 C.2.2.2.2.2.2.1 hin C.2.2.2.2.2.1 C.2.2.2.2.2.2.2.1.1 hP k (by rw [WL_get (kK_lt hk (by decide)), cel_2 hk]) rfl 0 (by decide) (C.2.2.2.2.2.2.1 _ hm) (fun _ h9 => h9) rfl d (kk p l e s m args below meth c C H locs ls hP hS hl)
theorem vp_2_0 (n : Nat) {k idx : Nat} {x : Int32} {β : Type} {K : Sg → β} {oo : β} (h : nam (stI σ k 0 x) K = oo) (hk : kK k = 2) (hin : ∀ w ∈ wsX50, w ∈ Ts) (hm : Cond.fieldLink own idx "WidowWeight$Pans" "found" "Z" ∈ Ts) (hz : x = 0 ∨ x = 1) (d : decode cc pc = .ok (.putfield idx, 3)) (hn : pc + 3 = n) (kk : ∀ τ : Sg, K τ = oo → V g cc own Ts nL ret R ro σo τ n lv rest) : V g cc own Ts nL ret R ro σo σ pc lv (.int x :: .ref (g.1 k) :: rest) := by
  subst hn
  refine fun p l e s m args below meth c C H locs ls hP hS hl => va_put (C := RX5) (T := TX5) (N := 10) (ty := .boolean) C.1 C.2.1 C.2.2.2.2.2.2.1 hin tyX5 tyX5_ok nmX5 C.2.2.2.2.2.1 C.2.2.2.2.2.2.2.1.1 hP (WL_D C.2.2.2.2.2.2.2.2.2 σ) hS k (by rw [WL_get (kK_lt hk (by decide)), cel_2 hk]) rfl 0 (by decide) (C.2.2.2.2.2.2.1 _ hm) (fun _ h9 => h9) rfl (by decide +kernel) (by rcases hz with rfl | rfl <;> rfl) (by rcases hz with rfl | rfl <;> rfl) (Nat.le_of_ble_eq_true rfl) d (fun H1 locs1 hP1 hD1 hS1 => kk (stI σ k 0 x) h p l e s m args below meth c C H1 locs1 ls ?_ hS1 hl)
  rw [WL_set (τ := stI σ k 0 x) (kK_lt hk (by decide)) (by rw [cel_2 hk]; simp [rI_stI, rI_stL, rL_stI, rL_stL]) (stI_n _ _ _ _) (stI_2 _ _ _ _)] at hP1
  exact hP1
theorem vg_2_1 (n : Nat) {k idx : Nat} (hk : kK k = 2) (hin : ∀ w ∈ wsX50, w ∈ Ts) (hm : Cond.fieldLink own idx "WidowWeight$Pans" "fewest" "I" ∈ Ts) (d : decode cc pc = .ok (.getfield idx, 3)) (hn : pc + 3 = n) (kk : V g cc own Ts nL ret R ro σo σ n lv (.int (rI σ k 1) :: rest)) : V g cc own Ts nL ret R ro σo σ pc lv (.ref (g.1 k) :: rest) := by
  subst hn
  exact fun p l e s m args below meth c C H locs ls hP hS hl => va_get (C := RX5) (T := TX5) (N := 10) C.1 C.2.1 C.2.2.2.2.2.2.1 hin C.2.2.2.2.2.1 C.2.2.2.2.2.2.2.1.1 hP k (by rw [WL_get (kK_lt hk (by decide)), cel_2 hk]) rfl 1 (by decide) (C.2.2.2.2.2.2.1 _ hm) (fun _ h9 => h9) rfl d (kk p l e s m args below meth c C H locs ls hP hS hl)
theorem vp_2_1 (n : Nat) {k idx : Nat} {x : Int32} {β : Type} {K : Sg → β} {oo : β} (h : nam (stI σ k 1 x) K = oo) (hk : kK k = 2) (hin : ∀ w ∈ wsX50, w ∈ Ts) (hm : Cond.fieldLink own idx "WidowWeight$Pans" "fewest" "I" ∈ Ts) (d : decode cc pc = .ok (.putfield idx, 3)) (hn : pc + 3 = n) (kk : ∀ τ : Sg, K τ = oo → V g cc own Ts nL ret R ro σo τ n lv rest) : V g cc own Ts nL ret R ro σo σ pc lv (.int x :: .ref (g.1 k) :: rest) := by
  subst hn
  refine fun p l e s m args below meth c C H locs ls hP hS hl => va_put (C := RX5) (T := TX5) (N := 10) (ty := .int) C.1 C.2.1 C.2.2.2.2.2.2.1 hin tyX5 tyX5_ok nmX5 C.2.2.2.2.2.1 C.2.2.2.2.2.2.2.1.1 hP (WL_D C.2.2.2.2.2.2.2.2.2 σ) hS k (by rw [WL_get (kK_lt hk (by decide)), cel_2 hk]) rfl 1 (by decide) (C.2.2.2.2.2.2.1 _ hm) (fun _ h9 => h9) rfl (by decide +kernel) rfl rfl (Nat.le_of_ble_eq_true rfl) d (fun H1 locs1 hP1 hD1 hS1 => kk (stI σ k 1 x) h p l e s m args below meth c C H1 locs1 ls ?_ hS1 hl)
  rw [WL_set (τ := stI σ k 1 x) (kK_lt hk (by decide)) (by rw [cel_2 hk]; simp [rI_stI, rI_stL, rL_stI, rL_stL]) (stI_n _ _ _ _) (stI_2 _ _ _ _)] at hP1
  exact hP1
theorem vg_2_2 (n : Nat) {k idx : Nat} (hk : kK k = 2) (hin : ∀ w ∈ wsX50, w ∈ Ts) (hm : Cond.fieldLink own idx "WidowWeight$Pans" "code" "I" ∈ Ts) (d : decode cc pc = .ok (.getfield idx, 3)) (hn : pc + 3 = n) (kk : V g cc own Ts nL ret R ro σo σ n lv (.int (rI σ k 2) :: rest)) : V g cc own Ts nL ret R ro σo σ pc lv (.ref (g.1 k) :: rest) := by
  subst hn
  exact fun p l e s m args below meth c C H locs ls hP hS hl => va_get (C := RX5) (T := TX5) (N := 10) C.1 C.2.1 C.2.2.2.2.2.2.1 hin C.2.2.2.2.2.1 C.2.2.2.2.2.2.2.1.1 hP k (by rw [WL_get (kK_lt hk (by decide)), cel_2 hk]) rfl 2 (by decide) (C.2.2.2.2.2.2.1 _ hm) (fun _ h9 => h9) rfl d (kk p l e s m args below meth c C H locs ls hP hS hl)
theorem vp_2_2 (n : Nat) {k idx : Nat} {x : Int32} {β : Type} {K : Sg → β} {oo : β} (h : nam (stI σ k 2 x) K = oo) (hk : kK k = 2) (hin : ∀ w ∈ wsX50, w ∈ Ts) (hm : Cond.fieldLink own idx "WidowWeight$Pans" "code" "I" ∈ Ts) (d : decode cc pc = .ok (.putfield idx, 3)) (hn : pc + 3 = n) (kk : ∀ τ : Sg, K τ = oo → V g cc own Ts nL ret R ro σo τ n lv rest) : V g cc own Ts nL ret R ro σo σ pc lv (.int x :: .ref (g.1 k) :: rest) := by
  subst hn
  refine fun p l e s m args below meth c C H locs ls hP hS hl => va_put (C := RX5) (T := TX5) (N := 10) (ty := .int) C.1 C.2.1 C.2.2.2.2.2.2.1 hin tyX5 tyX5_ok nmX5 C.2.2.2.2.2.1 C.2.2.2.2.2.2.2.1.1 hP (WL_D C.2.2.2.2.2.2.2.2.2 σ) hS k (by rw [WL_get (kK_lt hk (by decide)), cel_2 hk]) rfl 2 (by decide) (C.2.2.2.2.2.2.1 _ hm) (fun _ h9 => h9) rfl (by decide +kernel) rfl rfl (Nat.le_of_ble_eq_true rfl) d (fun H1 locs1 hP1 hD1 hS1 => kk (stI σ k 2 x) h p l e s m args below meth c C H1 locs1 ls ?_ hS1 hl)
  rw [WL_set (τ := stI σ k 2 x) (kK_lt hk (by decide)) (by rw [cel_2 hk]; simp [rI_stI, rI_stL, rL_stI, rL_stL]) (stI_n _ _ _ _) (stI_2 _ _ _ _)] at hP1
  exact hP1
theorem vg_2_3 (n : Nat) {k idx : Nat} (hk : kK k = 2) (hin : ∀ w ∈ wsX50, w ∈ Ts) (hm : Cond.fieldLink own idx "WidowWeight$Pans" "truth" "I" ∈ Ts) (d : decode cc pc = .ok (.getfield idx, 3)) (hn : pc + 3 = n) (kk : V g cc own Ts nL ret R ro σo σ n lv (.int (rI σ k 3) :: rest)) : V g cc own Ts nL ret R ro σo σ pc lv (.ref (g.1 k) :: rest) := by
  subst hn
  exact fun p l e s m args below meth c C H locs ls hP hS hl => va_get (C := RX5) (T := TX5) (N := 10) C.1 C.2.1 C.2.2.2.2.2.2.1 hin C.2.2.2.2.2.1 C.2.2.2.2.2.2.2.1.1 hP k (by rw [WL_get (kK_lt hk (by decide)), cel_2 hk]) rfl 3 (by decide) (C.2.2.2.2.2.2.1 _ hm) (fun _ h9 => h9) rfl d (kk p l e s m args below meth c C H locs ls hP hS hl)
theorem vp_2_3 (n : Nat) {k idx : Nat} {x : Int32} {β : Type} {K : Sg → β} {oo : β} (h : nam (stI σ k 3 x) K = oo) (hk : kK k = 2) (hin : ∀ w ∈ wsX50, w ∈ Ts) (hm : Cond.fieldLink own idx "WidowWeight$Pans" "truth" "I" ∈ Ts) (d : decode cc pc = .ok (.putfield idx, 3)) (hn : pc + 3 = n) (kk : ∀ τ : Sg, K τ = oo → V g cc own Ts nL ret R ro σo τ n lv rest) : V g cc own Ts nL ret R ro σo σ pc lv (.int x :: .ref (g.1 k) :: rest) := by
  subst hn
  refine fun p l e s m args below meth c C H locs ls hP hS hl => va_put (C := RX5) (T := TX5) (N := 10) (ty := .int) C.1 C.2.1 C.2.2.2.2.2.2.1 hin tyX5 tyX5_ok nmX5 C.2.2.2.2.2.1 C.2.2.2.2.2.2.2.1.1 hP (WL_D C.2.2.2.2.2.2.2.2.2 σ) hS k (by rw [WL_get (kK_lt hk (by decide)), cel_2 hk]) rfl 3 (by decide) (C.2.2.2.2.2.2.1 _ hm) (fun _ h9 => h9) rfl (by decide +kernel) rfl rfl (Nat.le_of_ble_eq_true rfl) d (fun H1 locs1 hP1 hD1 hS1 => kk (stI σ k 3 x) h p l e s m args below meth c C H1 locs1 ls ?_ hS1 hl)
  rw [WL_set (τ := stI σ k 3 x) (kK_lt hk (by decide)) (by rw [cel_2 hk]; simp [rI_stI, rI_stL, rL_stI, rL_stL]) (stI_n _ _ _ _) (stI_2 _ _ _ _)] at hP1
  exact hP1
theorem vg_2_4 (n : Nat) {k idx : Nat} (hk : kK k = 2) (hin : ∀ w ∈ wsX50, w ∈ Ts) (hm : Cond.fieldLink own idx "WidowWeight$Pans" "leastTruth" "I" ∈ Ts) (d : decode cc pc = .ok (.getfield idx, 3)) (hn : pc + 3 = n) (kk : V g cc own Ts nL ret R ro σo σ n lv (.int (rI σ k 4) :: rest)) : V g cc own Ts nL ret R ro σo σ pc lv (.ref (g.1 k) :: rest) := by
  subst hn
  exact fun p l e s m args below meth c C H locs ls hP hS hl => va_get (C := RX5) (T := TX5) (N := 10) C.1 C.2.1 C.2.2.2.2.2.2.1 hin C.2.2.2.2.2.1 C.2.2.2.2.2.2.2.1.1 hP k (by rw [WL_get (kK_lt hk (by decide)), cel_2 hk]) rfl 4 (by decide) (C.2.2.2.2.2.2.1 _ hm) (fun _ h9 => h9) rfl d (kk p l e s m args below meth c C H locs ls hP hS hl)
theorem vp_2_4 (n : Nat) {k idx : Nat} {x : Int32} {β : Type} {K : Sg → β} {oo : β} (h : nam (stI σ k 4 x) K = oo) (hk : kK k = 2) (hin : ∀ w ∈ wsX50, w ∈ Ts) (hm : Cond.fieldLink own idx "WidowWeight$Pans" "leastTruth" "I" ∈ Ts) (d : decode cc pc = .ok (.putfield idx, 3)) (hn : pc + 3 = n) (kk : ∀ τ : Sg, K τ = oo → V g cc own Ts nL ret R ro σo τ n lv rest) : V g cc own Ts nL ret R ro σo σ pc lv (.int x :: .ref (g.1 k) :: rest) := by
  subst hn
  refine fun p l e s m args below meth c C H locs ls hP hS hl => va_put (C := RX5) (T := TX5) (N := 10) (ty := .int) C.1 C.2.1 C.2.2.2.2.2.2.1 hin tyX5 tyX5_ok nmX5 C.2.2.2.2.2.1 C.2.2.2.2.2.2.2.1.1 hP (WL_D C.2.2.2.2.2.2.2.2.2 σ) hS k (by rw [WL_get (kK_lt hk (by decide)), cel_2 hk]) rfl 4 (by decide) (C.2.2.2.2.2.2.1 _ hm) (fun _ h9 => h9) rfl (by decide +kernel) rfl rfl (Nat.le_of_ble_eq_true rfl) d (fun H1 locs1 hP1 hD1 hS1 => kk (stI σ k 4 x) h p l e s m args below meth c C H1 locs1 ls ?_ hS1 hl)
  rw [WL_set (τ := stI σ k 4 x) (kK_lt hk (by decide)) (by rw [cel_2 hk]; simp [rI_stI, rI_stL, rL_stI, rL_stL]) (stI_n _ _ _ _) (stI_2 _ _ _ _)] at hP1
  exact hP1
theorem vg_2_5 (n : Nat) {k idx : Nat} (k1 : Nat) (hk : kK k = 2) (hin : ∀ w ∈ wsX50, w ∈ Ts) (hm : Cond.fieldLink own idx "WidowWeight$Pans" "places" "LWidowWeight$Row;" ∈ Ts) (hk1 : k + 1 = k1) (d : decode cc pc = .ok (.getfield idx, 3)) (hn : pc + 3 = n) (kk : V g cc own Ts nL ret R ro σo σ n lv (.ref (g.1 k1) :: rest)) : V g cc own Ts nL ret R ro σo σ pc lv (.ref (g.1 k) :: rest) := by
  subst hn
  subst hk1
  exact fun p l e s m args below meth c C H locs ls hP hS hl => va_get (C := RX5) (T := TX5) (N := 10) C.1 C.2.1 C.2.2.2.2.2.2.1 hin C.2.2.2.2.2.1 C.2.2.2.2.2.2.2.1.1 hP k (by rw [WL_get (kK_lt hk (by decide)), cel_2 hk]) rfl 5 (by decide) (C.2.2.2.2.2.2.1 _ hm) (fun _ h9 => h9) rfl d (kk p l e s m args below meth c C H locs ls hP hS hl)
theorem vg_2_6 (n : Nat) {k idx : Nat} (hk : kK k = 2) (hin : ∀ w ∈ wsX50, w ∈ Ts) (hm : Cond.fieldLink own idx "WidowWeight$Pans" "usedNow" "I" ∈ Ts) (d : decode cc pc = .ok (.getfield idx, 3)) (hn : pc + 3 = n) (kk : V g cc own Ts nL ret R ro σo σ n lv (.int (rI σ k 6) :: rest)) : V g cc own Ts nL ret R ro σo σ pc lv (.ref (g.1 k) :: rest) := by
  subst hn
  exact fun p l e s m args below meth c C H locs ls hP hS hl => va_get (C := RX5) (T := TX5) (N := 10) C.1 C.2.1 C.2.2.2.2.2.2.1 hin C.2.2.2.2.2.1 C.2.2.2.2.2.2.2.1.1 hP k (by rw [WL_get (kK_lt hk (by decide)), cel_2 hk]) rfl 6 (by decide) (C.2.2.2.2.2.2.1 _ hm) (fun _ h9 => h9) rfl d (kk p l e s m args below meth c C H locs ls hP hS hl)
theorem vp_2_6 (n : Nat) {k idx : Nat} {x : Int32} {β : Type} {K : Sg → β} {oo : β} (h : nam (stI σ k 6 x) K = oo) (hk : kK k = 2) (hin : ∀ w ∈ wsX50, w ∈ Ts) (hm : Cond.fieldLink own idx "WidowWeight$Pans" "usedNow" "I" ∈ Ts) (d : decode cc pc = .ok (.putfield idx, 3)) (hn : pc + 3 = n) (kk : ∀ τ : Sg, K τ = oo → V g cc own Ts nL ret R ro σo τ n lv rest) : V g cc own Ts nL ret R ro σo σ pc lv (.int x :: .ref (g.1 k) :: rest) := by
  subst hn
  refine fun p l e s m args below meth c C H locs ls hP hS hl => va_put (C := RX5) (T := TX5) (N := 10) (ty := .int) C.1 C.2.1 C.2.2.2.2.2.2.1 hin tyX5 tyX5_ok nmX5 C.2.2.2.2.2.1 C.2.2.2.2.2.2.2.1.1 hP (WL_D C.2.2.2.2.2.2.2.2.2 σ) hS k (by rw [WL_get (kK_lt hk (by decide)), cel_2 hk]) rfl 6 (by decide) (C.2.2.2.2.2.2.1 _ hm) (fun _ h9 => h9) rfl (by decide +kernel) rfl rfl (Nat.le_of_ble_eq_true rfl) d (fun H1 locs1 hP1 hD1 hS1 => kk (stI σ k 6 x) h p l e s m args below meth c C H1 locs1 ls ?_ hS1 hl)
  rw [WL_set (τ := stI σ k 6 x) (kK_lt hk (by decide)) (by rw [cel_2 hk]; simp [rI_stI, rI_stL, rL_stI, rL_stL]) (stI_n _ _ _ _) (stI_2 _ _ _ _)] at hP1
  exact hP1
theorem vg_2_7 (n : Nat) {k idx : Nat} (hk : kK k = 2) (hin : ∀ w ∈ wsX50, w ∈ Ts) (hm : Cond.fieldLink own idx "WidowWeight$Pans" "codeNow" "I" ∈ Ts) (d : decode cc pc = .ok (.getfield idx, 3)) (hn : pc + 3 = n) (kk : V g cc own Ts nL ret R ro σo σ n lv (.int (rI σ k 7) :: rest)) : V g cc own Ts nL ret R ro σo σ pc lv (.ref (g.1 k) :: rest) := by
  subst hn
  exact fun p l e s m args below meth c C H locs ls hP hS hl => va_get (C := RX5) (T := TX5) (N := 10) C.1 C.2.1 C.2.2.2.2.2.2.1 hin C.2.2.2.2.2.1 C.2.2.2.2.2.2.2.1.1 hP k (by rw [WL_get (kK_lt hk (by decide)), cel_2 hk]) rfl 7 (by decide) (C.2.2.2.2.2.2.1 _ hm) (fun _ h9 => h9) rfl d (kk p l e s m args below meth c C H locs ls hP hS hl)
theorem vp_2_7 (n : Nat) {k idx : Nat} {x : Int32} {β : Type} {K : Sg → β} {oo : β} (h : nam (stI σ k 7 x) K = oo) (hk : kK k = 2) (hin : ∀ w ∈ wsX50, w ∈ Ts) (hm : Cond.fieldLink own idx "WidowWeight$Pans" "codeNow" "I" ∈ Ts) (d : decode cc pc = .ok (.putfield idx, 3)) (hn : pc + 3 = n) (kk : ∀ τ : Sg, K τ = oo → V g cc own Ts nL ret R ro σo τ n lv rest) : V g cc own Ts nL ret R ro σo σ pc lv (.int x :: .ref (g.1 k) :: rest) := by
  subst hn
  refine fun p l e s m args below meth c C H locs ls hP hS hl => va_put (C := RX5) (T := TX5) (N := 10) (ty := .int) C.1 C.2.1 C.2.2.2.2.2.2.1 hin tyX5 tyX5_ok nmX5 C.2.2.2.2.2.1 C.2.2.2.2.2.2.2.1.1 hP (WL_D C.2.2.2.2.2.2.2.2.2 σ) hS k (by rw [WL_get (kK_lt hk (by decide)), cel_2 hk]) rfl 7 (by decide) (C.2.2.2.2.2.2.1 _ hm) (fun _ h9 => h9) rfl (by decide +kernel) rfl rfl (Nat.le_of_ble_eq_true rfl) d (fun H1 locs1 hP1 hD1 hS1 => kk (stI σ k 7 x) h p l e s m args below meth c C H1 locs1 ls ?_ hS1 hl)
  rw [WL_set (τ := stI σ k 7 x) (kK_lt hk (by decide)) (by rw [cel_2 hk]; simp [rI_stI, rI_stL, rL_stI, rL_stL]) (stI_n _ _ _ _) (stI_2 _ _ _ _)] at hP1
  exact hP1
theorem vg_2_8 (n : Nat) {k idx : Nat} (hk : kK k = 2) (hin : ∀ w ∈ wsX50, w ∈ Ts) (hm : Cond.fieldLink own idx "WidowWeight$Pans" "heldNow" "I" ∈ Ts) (d : decode cc pc = .ok (.getfield idx, 3)) (hn : pc + 3 = n) (kk : V g cc own Ts nL ret R ro σo σ n lv (.int (rI σ k 8) :: rest)) : V g cc own Ts nL ret R ro σo σ pc lv (.ref (g.1 k) :: rest) := by
  subst hn
  exact fun p l e s m args below meth c C H locs ls hP hS hl => va_get (C := RX5) (T := TX5) (N := 10) C.1 C.2.1 C.2.2.2.2.2.2.1 hin C.2.2.2.2.2.1 C.2.2.2.2.2.2.2.1.1 hP k (by rw [WL_get (kK_lt hk (by decide)), cel_2 hk]) rfl 8 (by decide) (C.2.2.2.2.2.2.1 _ hm) (fun _ h9 => h9) rfl d (kk p l e s m args below meth c C H locs ls hP hS hl)
theorem vp_2_8 (n : Nat) {k idx : Nat} {x : Int32} {β : Type} {K : Sg → β} {oo : β} (h : nam (stI σ k 8 x) K = oo) (hk : kK k = 2) (hin : ∀ w ∈ wsX50, w ∈ Ts) (hm : Cond.fieldLink own idx "WidowWeight$Pans" "heldNow" "I" ∈ Ts) (d : decode cc pc = .ok (.putfield idx, 3)) (hn : pc + 3 = n) (kk : ∀ τ : Sg, K τ = oo → V g cc own Ts nL ret R ro σo τ n lv rest) : V g cc own Ts nL ret R ro σo σ pc lv (.int x :: .ref (g.1 k) :: rest) := by
  subst hn
  refine fun p l e s m args below meth c C H locs ls hP hS hl => va_put (C := RX5) (T := TX5) (N := 10) (ty := .int) C.1 C.2.1 C.2.2.2.2.2.2.1 hin tyX5 tyX5_ok nmX5 C.2.2.2.2.2.1 C.2.2.2.2.2.2.2.1.1 hP (WL_D C.2.2.2.2.2.2.2.2.2 σ) hS k (by rw [WL_get (kK_lt hk (by decide)), cel_2 hk]) rfl 8 (by decide) (C.2.2.2.2.2.2.1 _ hm) (fun _ h9 => h9) rfl (by decide +kernel) rfl rfl (Nat.le_of_ble_eq_true rfl) d (fun H1 locs1 hP1 hD1 hS1 => kk (stI σ k 8 x) h p l e s m args below meth c C H1 locs1 ls ?_ hS1 hl)
  rw [WL_set (τ := stI σ k 8 x) (kK_lt hk (by decide)) (by rw [cel_2 hk]; simp [rI_stI, rI_stL, rL_stI, rL_stL]) (stI_n _ _ _ _) (stI_2 _ _ _ _)] at hP1
  exact hP1
theorem vg_2_9 (n : Nat) {k idx : Nat} (hk : kK k = 2) (hin : ∀ w ∈ wsX50, w ∈ Ts) (hm : Cond.fieldLink own idx "WidowWeight$Pans" "truthNow" "I" ∈ Ts) (d : decode cc pc = .ok (.getfield idx, 3)) (hn : pc + 3 = n) (kk : V g cc own Ts nL ret R ro σo σ n lv (.int (rI σ k 9) :: rest)) : V g cc own Ts nL ret R ro σo σ pc lv (.ref (g.1 k) :: rest) := by
  subst hn
  exact fun p l e s m args below meth c C H locs ls hP hS hl => va_get (C := RX5) (T := TX5) (N := 10) C.1 C.2.1 C.2.2.2.2.2.2.1 hin C.2.2.2.2.2.1 C.2.2.2.2.2.2.2.1.1 hP k (by rw [WL_get (kK_lt hk (by decide)), cel_2 hk]) rfl 9 (by decide) (C.2.2.2.2.2.2.1 _ hm) (fun _ h9 => h9) rfl d (kk p l e s m args below meth c C H locs ls hP hS hl)
theorem vp_2_9 (n : Nat) {k idx : Nat} {x : Int32} {β : Type} {K : Sg → β} {oo : β} (h : nam (stI σ k 9 x) K = oo) (hk : kK k = 2) (hin : ∀ w ∈ wsX50, w ∈ Ts) (hm : Cond.fieldLink own idx "WidowWeight$Pans" "truthNow" "I" ∈ Ts) (d : decode cc pc = .ok (.putfield idx, 3)) (hn : pc + 3 = n) (kk : ∀ τ : Sg, K τ = oo → V g cc own Ts nL ret R ro σo τ n lv rest) : V g cc own Ts nL ret R ro σo σ pc lv (.int x :: .ref (g.1 k) :: rest) := by
  subst hn
  refine fun p l e s m args below meth c C H locs ls hP hS hl => va_put (C := RX5) (T := TX5) (N := 10) (ty := .int) C.1 C.2.1 C.2.2.2.2.2.2.1 hin tyX5 tyX5_ok nmX5 C.2.2.2.2.2.1 C.2.2.2.2.2.2.2.1.1 hP (WL_D C.2.2.2.2.2.2.2.2.2 σ) hS k (by rw [WL_get (kK_lt hk (by decide)), cel_2 hk]) rfl 9 (by decide) (C.2.2.2.2.2.2.1 _ hm) (fun _ h9 => h9) rfl (by decide +kernel) rfl rfl (Nat.le_of_ble_eq_true rfl) d (fun H1 locs1 hP1 hD1 hS1 => kk (stI σ k 9 x) h p l e s m args below meth c C H1 locs1 ls ?_ hS1 hl)
  rw [WL_set (τ := stI σ k 9 x) (kK_lt hk (by decide)) (by rw [cel_2 hk]; simp [rI_stI, rI_stL, rL_stI, rL_stL]) (stI_n _ _ _ _) (stI_2 _ _ _ _)] at hP1
  exact hP1
theorem vg_3_0 (n : Nat) {k idx : Nat} (k1 : Nat) (hk : kK k = 3) (hin : ∀ w ∈ wsX60, w ∈ Ts) (hm : Cond.fieldLink own idx "WidowWeight$Parts" "answers" "LWidowWeight$Row;" ∈ Ts) (hk1 : k + 1 = k1) (d : decode cc pc = .ok (.getfield idx, 3)) (hn : pc + 3 = n) (kk : V g cc own Ts nL ret R ro σo σ n lv (.ref (g.1 k1) :: rest)) : V g cc own Ts nL ret R ro σo σ pc lv (.ref (g.1 k) :: rest) := by
  subst hn
  subst hk1
  exact fun p l e s m args below meth c C H locs ls hP hS hl => va_get (C := RX6) (T := TX6) (N := 3) C.1 C.2.1 C.2.2.2.2.2.2.1 hin C.2.2.2.2.2.1 C.2.2.2.2.2.2.2.1.1 hP k (by rw [WL_get (kK_lt hk (by decide)), cel_3 hk]) rfl 0 (by decide) (C.2.2.2.2.2.2.1 _ hm) (fun _ h9 => h9) rfl d (kk p l e s m args below meth c C H locs ls hP hS hl)
theorem vg_3_1 (n : Nat) {k idx : Nat} (k1 : Nat) (hk : kK k = 3) (hin : ∀ w ∈ wsX60, w ∈ Ts) (hm : Cond.fieldLink own idx "WidowWeight$Parts" "counts" "LWidowWeight$Row;" ∈ Ts) (hk1 : k + 3 = k1) (d : decode cc pc = .ok (.getfield idx, 3)) (hn : pc + 3 = n) (kk : V g cc own Ts nL ret R ro σo σ n lv (.ref (g.1 k1) :: rest)) : V g cc own Ts nL ret R ro σo σ pc lv (.ref (g.1 k) :: rest) := by
  subst hn
  subst hk1
  exact fun p l e s m args below meth c C H locs ls hP hS hl => va_get (C := RX6) (T := TX6) (N := 3) C.1 C.2.1 C.2.2.2.2.2.2.1 hin C.2.2.2.2.2.1 C.2.2.2.2.2.2.2.1.1 hP k (by rw [WL_get (kK_lt hk (by decide)), cel_3 hk]) rfl 1 (by decide) (C.2.2.2.2.2.2.1 _ hm) (fun _ h9 => h9) rfl d (kk p l e s m args below meth c C H locs ls hP hS hl)
theorem vg_3_2 (n : Nat) {k idx : Nat} (hk : kK k = 3) (hin : ∀ w ∈ wsX60, w ∈ Ts) (hm : Cond.fieldLink own idx "WidowWeight$Parts" "greatest" "I" ∈ Ts) (d : decode cc pc = .ok (.getfield idx, 3)) (hn : pc + 3 = n) (kk : V g cc own Ts nL ret R ro σo σ n lv (.int (rI σ k 2) :: rest)) : V g cc own Ts nL ret R ro σo σ pc lv (.ref (g.1 k) :: rest) := by
  subst hn
  exact fun p l e s m args below meth c C H locs ls hP hS hl => va_get (C := RX6) (T := TX6) (N := 3) C.1 C.2.1 C.2.2.2.2.2.2.1 hin C.2.2.2.2.2.1 C.2.2.2.2.2.2.2.1.1 hP k (by rw [WL_get (kK_lt hk (by decide)), cel_3 hk]) rfl 2 (by decide) (C.2.2.2.2.2.2.1 _ hm) (fun _ h9 => h9) rfl d (kk p l e s m args below meth c C H locs ls hP hS hl)
theorem vp_3_2 (n : Nat) {k idx : Nat} {x : Int32} {β : Type} {K : Sg → β} {oo : β} (h : nam (stI σ k 2 x) K = oo) (hk : kK k = 3) (hin : ∀ w ∈ wsX60, w ∈ Ts) (hm : Cond.fieldLink own idx "WidowWeight$Parts" "greatest" "I" ∈ Ts) (d : decode cc pc = .ok (.putfield idx, 3)) (hn : pc + 3 = n) (kk : ∀ τ : Sg, K τ = oo → V g cc own Ts nL ret R ro σo τ n lv rest) : V g cc own Ts nL ret R ro σo σ pc lv (.int x :: .ref (g.1 k) :: rest) := by
  subst hn
  refine fun p l e s m args below meth c C H locs ls hP hS hl => va_put (C := RX6) (T := TX6) (N := 3) (ty := .int) C.1 C.2.1 C.2.2.2.2.2.2.1 hin tyX6 tyX6_ok nmX6 C.2.2.2.2.2.1 C.2.2.2.2.2.2.2.1.1 hP (WL_D C.2.2.2.2.2.2.2.2.2 σ) hS k (by rw [WL_get (kK_lt hk (by decide)), cel_3 hk]) rfl 2 (by decide) (C.2.2.2.2.2.2.1 _ hm) (fun _ h9 => h9) rfl (by decide +kernel) rfl rfl (Nat.le_of_ble_eq_true rfl) d (fun H1 locs1 hP1 hD1 hS1 => kk (stI σ k 2 x) h p l e s m args below meth c C H1 locs1 ls ?_ hS1 hl)
  rw [WL_set (τ := stI σ k 2 x) (kK_lt hk (by decide)) (by rw [cel_3 hk]; simp [rI_stI, rI_stL, rL_stI, rL_stL]) (stI_n _ _ _ _) (stI_2 _ _ _ _)] at hP1
  exact hP1
theorem vg_4_0 (n : Nat) {k idx : Nat} (k1 : Nat) (hk : kK k = 4) (hin : ∀ w ∈ wsX70, w ∈ Ts) (hm : Cond.fieldLink own idx "WidowWeight$Row" "cells" "[I" ∈ Ts) (hk1 : k + 1 = k1) (d : decode cc pc = .ok (.getfield idx, 3)) (hn : pc + 3 = n) (kk : V g cc own Ts nL ret R ro σo σ n lv (.ref (g.1 k1) :: rest)) : V g cc own Ts nL ret R ro σo σ pc lv (.ref (g.1 k) :: rest) := by
  subst hn
  subst hk1
  exact fun p l e s m args below meth c C H locs ls hP hS hl => va_get (C := RX7) (T := TX7) (N := 2) C.1 C.2.1 C.2.2.2.2.2.2.1 hin C.2.2.2.2.2.1 C.2.2.2.2.2.2.2.1.1 hP k (by rw [WL_get (kK_lt hk (by decide)), cel_4 hk]) rfl 0 (by decide) (C.2.2.2.2.2.2.1 _ hm) (fun _ h9 => h9) rfl d (kk p l e s m args below meth c C H locs ls hP hS hl)
theorem vg_4_1 (n : Nat) {k idx : Nat} (hk : kK k = 4) (hin : ∀ w ∈ wsX70, w ∈ Ts) (hm : Cond.fieldLink own idx "WidowWeight$Row" "used" "I" ∈ Ts) (d : decode cc pc = .ok (.getfield idx, 3)) (hn : pc + 3 = n) (kk : V g cc own Ts nL ret R ro σo σ n lv (.int (rI σ k 1) :: rest)) : V g cc own Ts nL ret R ro σo σ pc lv (.ref (g.1 k) :: rest) := by
  subst hn
  exact fun p l e s m args below meth c C H locs ls hP hS hl => va_get (C := RX7) (T := TX7) (N := 2) C.1 C.2.1 C.2.2.2.2.2.2.1 hin C.2.2.2.2.2.1 C.2.2.2.2.2.2.2.1.1 hP k (by rw [WL_get (kK_lt hk (by decide)), cel_4 hk]) rfl 1 (by decide) (C.2.2.2.2.2.2.1 _ hm) (fun _ h9 => h9) rfl d (kk p l e s m args below meth c C H locs ls hP hS hl)
theorem vp_4_1 (n : Nat) {k idx : Nat} {x : Int32} {β : Type} {K : Sg → β} {oo : β} (h : nam (stI σ k 1 x) K = oo) (hk : kK k = 4) (hin : ∀ w ∈ wsX70, w ∈ Ts) (hm : Cond.fieldLink own idx "WidowWeight$Row" "used" "I" ∈ Ts) (d : decode cc pc = .ok (.putfield idx, 3)) (hn : pc + 3 = n) (kk : ∀ τ : Sg, K τ = oo → V g cc own Ts nL ret R ro σo τ n lv rest) : V g cc own Ts nL ret R ro σo σ pc lv (.int x :: .ref (g.1 k) :: rest) := by
  subst hn
  refine fun p l e s m args below meth c C H locs ls hP hS hl => va_put (C := RX7) (T := TX7) (N := 2) (ty := .int) C.1 C.2.1 C.2.2.2.2.2.2.1 hin tyX7 tyX7_ok nmX7 C.2.2.2.2.2.1 C.2.2.2.2.2.2.2.1.1 hP (WL_D C.2.2.2.2.2.2.2.2.2 σ) hS k (by rw [WL_get (kK_lt hk (by decide)), cel_4 hk]) rfl 1 (by decide) (C.2.2.2.2.2.2.1 _ hm) (fun _ h9 => h9) rfl (by decide +kernel) rfl rfl (Nat.le_of_ble_eq_true rfl) d (fun H1 locs1 hP1 hD1 hS1 => kk (stI σ k 1 x) h p l e s m args below meth c C H1 locs1 ls ?_ hS1 hl)
  rw [WL_set (τ := stI σ k 1 x) (kK_lt hk (by decide)) (by rw [cel_4 hk]; simp [rI_stI, rI_stL, rL_stI, rL_stL]) (stI_n _ _ _ _) (stI_2 _ _ _ _)] at hP1
  exact hP1
theorem vg_5_0 (n : Nat) {k idx : Nat} (k1 : Nat) (hk : kK k = 5) (hin : ∀ w ∈ wsX80, w ∈ Ts) (hm : Cond.fieldLink own idx "WidowWeight$TextReader" "told" "LWidowWeight$Market;" ∈ Ts) (hk1 : k + 1 = k1) (d : decode cc pc = .ok (.getfield idx, 3)) (hn : pc + 3 = n) (kk : V g cc own Ts nL ret R ro σo σ n lv (.ref (g.1 k1) :: rest)) : V g cc own Ts nL ret R ro σo σ pc lv (.ref (g.1 k) :: rest) := by
  subst hn
  subst hk1
  exact fun p l e s m args below meth c C H locs ls hP hS hl => va_get (C := RX8) (T := TX8) (N := 9) C.1 C.2.1 C.2.2.2.2.2.2.1 hin C.2.2.2.2.2.1 C.2.2.2.2.2.2.2.1.1 hP k (by rw [WL_get (kK_lt hk (by decide)), cel_5 hk]) rfl 0 (by decide) (C.2.2.2.2.2.2.1 _ hm) (fun _ h9 => h9) rfl d (kk p l e s m args below meth c C H locs ls hP hS hl)
theorem vg_5_1 (n : Nat) {k idx : Nat} (hk : kK k = 5) (hin : ∀ w ∈ wsX80, w ∈ Ts) (hm : Cond.fieldLink own idx "WidowWeight$TextReader" "text" "LWidowWeight$Row;" ∈ Ts) (d : decode cc pc = .ok (.getfield idx, 3)) (hn : pc + 3 = n) (kk : V g cc own Ts nL ret R ro σo σ n lv (.ref (g.1 67) :: rest)) : V g cc own Ts nL ret R ro σo σ pc lv (.ref (g.1 k) :: rest) := by
  subst hn
  exact fun p l e s m args below meth c C H locs ls hP hS hl => va_get (C := RX8) (T := TX8) (N := 9) C.1 C.2.1 C.2.2.2.2.2.2.1 hin C.2.2.2.2.2.1 C.2.2.2.2.2.2.2.1.1 hP k (by rw [WL_get (kK_lt hk (by decide)), cel_5 hk]) rfl 1 (by decide) (C.2.2.2.2.2.2.1 _ hm) (fun _ h9 => h9) rfl d (kk p l e s m args below meth c C H locs ls hP hS hl)
theorem vg_5_2 (n : Nat) {k idx : Nat} (k1 : Nat) (hk : kK k = 5) (hin : ∀ w ∈ wsX80, w ∈ Ts) (hm : Cond.fieldLink own idx "WidowWeight$TextReader" "numbers" "LWidowWeight$Row;" ∈ Ts) (hk1 : k + 23 = k1) (d : decode cc pc = .ok (.getfield idx, 3)) (hn : pc + 3 = n) (kk : V g cc own Ts nL ret R ro σo σ n lv (.ref (g.1 k1) :: rest)) : V g cc own Ts nL ret R ro σo σ pc lv (.ref (g.1 k) :: rest) := by
  subst hn
  subst hk1
  exact fun p l e s m args below meth c C H locs ls hP hS hl => va_get (C := RX8) (T := TX8) (N := 9) C.1 C.2.1 C.2.2.2.2.2.2.1 hin C.2.2.2.2.2.1 C.2.2.2.2.2.2.2.1.1 hP k (by rw [WL_get (kK_lt hk (by decide)), cel_5 hk]) rfl 2 (by decide) (C.2.2.2.2.2.2.1 _ hm) (fun _ h9 => h9) rfl d (kk p l e s m args below meth c C H locs ls hP hS hl)
theorem vg_5_3 (n : Nat) {k idx : Nat} (hk : kK k = 5) (hin : ∀ w ∈ wsX80, w ∈ Ts) (hm : Cond.fieldLink own idx "WidowWeight$TextReader" "token" "I" ∈ Ts) (d : decode cc pc = .ok (.getfield idx, 3)) (hn : pc + 3 = n) (kk : V g cc own Ts nL ret R ro σo σ n lv (.int (rI σ k 3) :: rest)) : V g cc own Ts nL ret R ro σo σ pc lv (.ref (g.1 k) :: rest) := by
  subst hn
  exact fun p l e s m args below meth c C H locs ls hP hS hl => va_get (C := RX8) (T := TX8) (N := 9) C.1 C.2.1 C.2.2.2.2.2.2.1 hin C.2.2.2.2.2.1 C.2.2.2.2.2.2.2.1.1 hP k (by rw [WL_get (kK_lt hk (by decide)), cel_5 hk]) rfl 3 (by decide) (C.2.2.2.2.2.2.1 _ hm) (fun _ h9 => h9) rfl d (kk p l e s m args below meth c C H locs ls hP hS hl)
theorem vp_5_3 (n : Nat) {k idx : Nat} {x : Int32} {β : Type} {K : Sg → β} {oo : β} (h : nam (stI σ k 3 x) K = oo) (hk : kK k = 5) (hin : ∀ w ∈ wsX80, w ∈ Ts) (hm : Cond.fieldLink own idx "WidowWeight$TextReader" "token" "I" ∈ Ts) (d : decode cc pc = .ok (.putfield idx, 3)) (hn : pc + 3 = n) (kk : ∀ τ : Sg, K τ = oo → V g cc own Ts nL ret R ro σo τ n lv rest) : V g cc own Ts nL ret R ro σo σ pc lv (.int x :: .ref (g.1 k) :: rest) := by
  subst hn
  refine fun p l e s m args below meth c C H locs ls hP hS hl => va_put (C := RX8) (T := TX8) (N := 9) (ty := .int) C.1 C.2.1 C.2.2.2.2.2.2.1 hin tyX8 tyX8_ok nmX8 C.2.2.2.2.2.1 C.2.2.2.2.2.2.2.1.1 hP (WL_D C.2.2.2.2.2.2.2.2.2 σ) hS k (by rw [WL_get (kK_lt hk (by decide)), cel_5 hk]) rfl 3 (by decide) (C.2.2.2.2.2.2.1 _ hm) (fun _ h9 => h9) rfl (by decide +kernel) rfl rfl (Nat.le_of_ble_eq_true rfl) d (fun H1 locs1 hP1 hD1 hS1 => kk (stI σ k 3 x) h p l e s m args below meth c C H1 locs1 ls ?_ hS1 hl)
  rw [WL_set (τ := stI σ k 3 x) (kK_lt hk (by decide)) (by rw [cel_5 hk]; simp [rI_stI, rI_stL, rL_stI, rL_stL]) (stI_n _ _ _ _) (stI_2 _ _ _ _)] at hP1
  exact hP1
theorem vg_5_4 (n : Nat) {k idx : Nat} (hk : kK k = 5) (hin : ∀ w ∈ wsX80, w ∈ Ts) (hm : Cond.fieldLink own idx "WidowWeight$TextReader" "start" "I" ∈ Ts) (d : decode cc pc = .ok (.getfield idx, 3)) (hn : pc + 3 = n) (kk : V g cc own Ts nL ret R ro σo σ n lv (.int (rI σ k 4) :: rest)) : V g cc own Ts nL ret R ro σo σ pc lv (.ref (g.1 k) :: rest) := by
  subst hn
  exact fun p l e s m args below meth c C H locs ls hP hS hl => va_get (C := RX8) (T := TX8) (N := 9) C.1 C.2.1 C.2.2.2.2.2.2.1 hin C.2.2.2.2.2.1 C.2.2.2.2.2.2.2.1.1 hP k (by rw [WL_get (kK_lt hk (by decide)), cel_5 hk]) rfl 4 (by decide) (C.2.2.2.2.2.2.1 _ hm) (fun _ h9 => h9) rfl d (kk p l e s m args below meth c C H locs ls hP hS hl)
theorem vp_5_4 (n : Nat) {k idx : Nat} {x : Int32} {β : Type} {K : Sg → β} {oo : β} (h : nam (stI σ k 4 x) K = oo) (hk : kK k = 5) (hin : ∀ w ∈ wsX80, w ∈ Ts) (hm : Cond.fieldLink own idx "WidowWeight$TextReader" "start" "I" ∈ Ts) (d : decode cc pc = .ok (.putfield idx, 3)) (hn : pc + 3 = n) (kk : ∀ τ : Sg, K τ = oo → V g cc own Ts nL ret R ro σo τ n lv rest) : V g cc own Ts nL ret R ro σo σ pc lv (.int x :: .ref (g.1 k) :: rest) := by
  subst hn
  refine fun p l e s m args below meth c C H locs ls hP hS hl => va_put (C := RX8) (T := TX8) (N := 9) (ty := .int) C.1 C.2.1 C.2.2.2.2.2.2.1 hin tyX8 tyX8_ok nmX8 C.2.2.2.2.2.1 C.2.2.2.2.2.2.2.1.1 hP (WL_D C.2.2.2.2.2.2.2.2.2 σ) hS k (by rw [WL_get (kK_lt hk (by decide)), cel_5 hk]) rfl 4 (by decide) (C.2.2.2.2.2.2.1 _ hm) (fun _ h9 => h9) rfl (by decide +kernel) rfl rfl (Nat.le_of_ble_eq_true rfl) d (fun H1 locs1 hP1 hD1 hS1 => kk (stI σ k 4 x) h p l e s m args below meth c C H1 locs1 ls ?_ hS1 hl)
  rw [WL_set (τ := stI σ k 4 x) (kK_lt hk (by decide)) (by rw [cel_5 hk]; simp [rI_stI, rI_stL, rL_stI, rL_stL]) (stI_n _ _ _ _) (stI_2 _ _ _ _)] at hP1
  exact hP1
theorem vg_5_5 (n : Nat) {k idx : Nat} (hk : kK k = 5) (hin : ∀ w ∈ wsX80, w ∈ Ts) (hm : Cond.fieldLink own idx "WidowWeight$TextReader" "next" "I" ∈ Ts) (d : decode cc pc = .ok (.getfield idx, 3)) (hn : pc + 3 = n) (kk : V g cc own Ts nL ret R ro σo σ n lv (.int (rI σ k 5) :: rest)) : V g cc own Ts nL ret R ro σo σ pc lv (.ref (g.1 k) :: rest) := by
  subst hn
  exact fun p l e s m args below meth c C H locs ls hP hS hl => va_get (C := RX8) (T := TX8) (N := 9) C.1 C.2.1 C.2.2.2.2.2.2.1 hin C.2.2.2.2.2.1 C.2.2.2.2.2.2.2.1.1 hP k (by rw [WL_get (kK_lt hk (by decide)), cel_5 hk]) rfl 5 (by decide) (C.2.2.2.2.2.2.1 _ hm) (fun _ h9 => h9) rfl d (kk p l e s m args below meth c C H locs ls hP hS hl)
theorem vp_5_5 (n : Nat) {k idx : Nat} {x : Int32} {β : Type} {K : Sg → β} {oo : β} (h : nam (stI σ k 5 x) K = oo) (hk : kK k = 5) (hin : ∀ w ∈ wsX80, w ∈ Ts) (hm : Cond.fieldLink own idx "WidowWeight$TextReader" "next" "I" ∈ Ts) (d : decode cc pc = .ok (.putfield idx, 3)) (hn : pc + 3 = n) (kk : ∀ τ : Sg, K τ = oo → V g cc own Ts nL ret R ro σo τ n lv rest) : V g cc own Ts nL ret R ro σo σ pc lv (.int x :: .ref (g.1 k) :: rest) := by
  subst hn
  refine fun p l e s m args below meth c C H locs ls hP hS hl => va_put (C := RX8) (T := TX8) (N := 9) (ty := .int) C.1 C.2.1 C.2.2.2.2.2.2.1 hin tyX8 tyX8_ok nmX8 C.2.2.2.2.2.1 C.2.2.2.2.2.2.2.1.1 hP (WL_D C.2.2.2.2.2.2.2.2.2 σ) hS k (by rw [WL_get (kK_lt hk (by decide)), cel_5 hk]) rfl 5 (by decide) (C.2.2.2.2.2.2.1 _ hm) (fun _ h9 => h9) rfl (by decide +kernel) rfl rfl (Nat.le_of_ble_eq_true rfl) d (fun H1 locs1 hP1 hD1 hS1 => kk (stI σ k 5 x) h p l e s m args below meth c C H1 locs1 ls ?_ hS1 hl)
  rw [WL_set (τ := stI σ k 5 x) (kK_lt hk (by decide)) (by rw [cel_5 hk]; simp [rI_stI, rI_stL, rL_stI, rL_stL]) (stI_n _ _ _ _) (stI_2 _ _ _ _)] at hP1
  exact hP1
theorem vg_5_6 (n : Nat) {k idx : Nat} (hk : kK k = 5) (hin : ∀ w ∈ wsX80, w ∈ Ts) (hm : Cond.fieldLink own idx "WidowWeight$TextReader" "value" "I" ∈ Ts) (d : decode cc pc = .ok (.getfield idx, 3)) (hn : pc + 3 = n) (kk : V g cc own Ts nL ret R ro σo σ n lv (.int (rI σ k 6) :: rest)) : V g cc own Ts nL ret R ro σo σ pc lv (.ref (g.1 k) :: rest) := by
  subst hn
  exact fun p l e s m args below meth c C H locs ls hP hS hl => va_get (C := RX8) (T := TX8) (N := 9) C.1 C.2.1 C.2.2.2.2.2.2.1 hin C.2.2.2.2.2.1 C.2.2.2.2.2.2.2.1.1 hP k (by rw [WL_get (kK_lt hk (by decide)), cel_5 hk]) rfl 6 (by decide) (C.2.2.2.2.2.2.1 _ hm) (fun _ h9 => h9) rfl d (kk p l e s m args below meth c C H locs ls hP hS hl)
theorem vp_5_6 (n : Nat) {k idx : Nat} {x : Int32} {β : Type} {K : Sg → β} {oo : β} (h : nam (stI σ k 6 x) K = oo) (hk : kK k = 5) (hin : ∀ w ∈ wsX80, w ∈ Ts) (hm : Cond.fieldLink own idx "WidowWeight$TextReader" "value" "I" ∈ Ts) (d : decode cc pc = .ok (.putfield idx, 3)) (hn : pc + 3 = n) (kk : ∀ τ : Sg, K τ = oo → V g cc own Ts nL ret R ro σo τ n lv rest) : V g cc own Ts nL ret R ro σo σ pc lv (.int x :: .ref (g.1 k) :: rest) := by
  subst hn
  refine fun p l e s m args below meth c C H locs ls hP hS hl => va_put (C := RX8) (T := TX8) (N := 9) (ty := .int) C.1 C.2.1 C.2.2.2.2.2.2.1 hin tyX8 tyX8_ok nmX8 C.2.2.2.2.2.1 C.2.2.2.2.2.2.2.1.1 hP (WL_D C.2.2.2.2.2.2.2.2.2 σ) hS k (by rw [WL_get (kK_lt hk (by decide)), cel_5 hk]) rfl 6 (by decide) (C.2.2.2.2.2.2.1 _ hm) (fun _ h9 => h9) rfl (by decide +kernel) rfl rfl (Nat.le_of_ble_eq_true rfl) d (fun H1 locs1 hP1 hD1 hS1 => kk (stI σ k 6 x) h p l e s m args below meth c C H1 locs1 ls ?_ hS1 hl)
  rw [WL_set (τ := stI σ k 6 x) (kK_lt hk (by decide)) (by rw [cel_5 hk]; simp [rI_stI, rI_stL, rL_stI, rL_stL]) (stI_n _ _ _ _) (stI_2 _ _ _ _)] at hP1
  exact hP1
theorem vg_5_7 (n : Nat) {k idx : Nat} (hk : kK k = 5) (hin : ∀ w ∈ wsX80, w ∈ Ts) (hm : Cond.fieldLink own idx "WidowWeight$TextReader" "word" "I" ∈ Ts) (d : decode cc pc = .ok (.getfield idx, 3)) (hn : pc + 3 = n) (kk : V g cc own Ts nL ret R ro σo σ n lv (.int (rI σ k 7) :: rest)) : V g cc own Ts nL ret R ro σo σ pc lv (.ref (g.1 k) :: rest) := by
  subst hn
  exact fun p l e s m args below meth c C H locs ls hP hS hl => va_get (C := RX8) (T := TX8) (N := 9) C.1 C.2.1 C.2.2.2.2.2.2.1 hin C.2.2.2.2.2.1 C.2.2.2.2.2.2.2.1.1 hP k (by rw [WL_get (kK_lt hk (by decide)), cel_5 hk]) rfl 7 (by decide) (C.2.2.2.2.2.2.1 _ hm) (fun _ h9 => h9) rfl d (kk p l e s m args below meth c C H locs ls hP hS hl)
theorem vp_5_7 (n : Nat) {k idx : Nat} {x : Int32} {β : Type} {K : Sg → β} {oo : β} (h : nam (stI σ k 7 x) K = oo) (hk : kK k = 5) (hin : ∀ w ∈ wsX80, w ∈ Ts) (hm : Cond.fieldLink own idx "WidowWeight$TextReader" "word" "I" ∈ Ts) (d : decode cc pc = .ok (.putfield idx, 3)) (hn : pc + 3 = n) (kk : ∀ τ : Sg, K τ = oo → V g cc own Ts nL ret R ro σo τ n lv rest) : V g cc own Ts nL ret R ro σo σ pc lv (.int x :: .ref (g.1 k) :: rest) := by
  subst hn
  refine fun p l e s m args below meth c C H locs ls hP hS hl => va_put (C := RX8) (T := TX8) (N := 9) (ty := .int) C.1 C.2.1 C.2.2.2.2.2.2.1 hin tyX8 tyX8_ok nmX8 C.2.2.2.2.2.1 C.2.2.2.2.2.2.2.1.1 hP (WL_D C.2.2.2.2.2.2.2.2.2 σ) hS k (by rw [WL_get (kK_lt hk (by decide)), cel_5 hk]) rfl 7 (by decide) (C.2.2.2.2.2.2.1 _ hm) (fun _ h9 => h9) rfl (by decide +kernel) rfl rfl (Nat.le_of_ble_eq_true rfl) d (fun H1 locs1 hP1 hD1 hS1 => kk (stI σ k 7 x) h p l e s m args below meth c C H1 locs1 ls ?_ hS1 hl)
  rw [WL_set (τ := stI σ k 7 x) (kK_lt hk (by decide)) (by rw [cel_5 hk]; simp [rI_stI, rI_stL, rL_stI, rL_stL]) (stI_n _ _ _ _) (stI_2 _ _ _ _)] at hP1
  exact hP1
theorem vg_5_8 (n : Nat) {k idx : Nat} (hk : kK k = 5) (hin : ∀ w ∈ wsX80, w ∈ Ts) (hm : Cond.fieldLink own idx "WidowWeight$TextReader" "items" "I" ∈ Ts) (d : decode cc pc = .ok (.getfield idx, 3)) (hn : pc + 3 = n) (kk : V g cc own Ts nL ret R ro σo σ n lv (.int (rI σ k 8) :: rest)) : V g cc own Ts nL ret R ro σo σ pc lv (.ref (g.1 k) :: rest) := by
  subst hn
  exact fun p l e s m args below meth c C H locs ls hP hS hl => va_get (C := RX8) (T := TX8) (N := 9) C.1 C.2.1 C.2.2.2.2.2.2.1 hin C.2.2.2.2.2.1 C.2.2.2.2.2.2.2.1.1 hP k (by rw [WL_get (kK_lt hk (by decide)), cel_5 hk]) rfl 8 (by decide) (C.2.2.2.2.2.2.1 _ hm) (fun _ h9 => h9) rfl d (kk p l e s m args below meth c C H locs ls hP hS hl)
theorem vp_5_8 (n : Nat) {k idx : Nat} {x : Int32} {β : Type} {K : Sg → β} {oo : β} (h : nam (stI σ k 8 x) K = oo) (hk : kK k = 5) (hin : ∀ w ∈ wsX80, w ∈ Ts) (hm : Cond.fieldLink own idx "WidowWeight$TextReader" "items" "I" ∈ Ts) (d : decode cc pc = .ok (.putfield idx, 3)) (hn : pc + 3 = n) (kk : ∀ τ : Sg, K τ = oo → V g cc own Ts nL ret R ro σo τ n lv rest) : V g cc own Ts nL ret R ro σo σ pc lv (.int x :: .ref (g.1 k) :: rest) := by
  subst hn
  refine fun p l e s m args below meth c C H locs ls hP hS hl => va_put (C := RX8) (T := TX8) (N := 9) (ty := .int) C.1 C.2.1 C.2.2.2.2.2.2.1 hin tyX8 tyX8_ok nmX8 C.2.2.2.2.2.1 C.2.2.2.2.2.2.2.1.1 hP (WL_D C.2.2.2.2.2.2.2.2.2 σ) hS k (by rw [WL_get (kK_lt hk (by decide)), cel_5 hk]) rfl 8 (by decide) (C.2.2.2.2.2.2.1 _ hm) (fun _ h9 => h9) rfl (by decide +kernel) rfl rfl (Nat.le_of_ble_eq_true rfl) d (fun H1 locs1 hP1 hD1 hS1 => kk (stI σ k 8 x) h p l e s m args below meth c C H1 locs1 ls ?_ hS1 hl)
  rw [WL_set (τ := stI σ k 8 x) (kK_lt hk (by decide)) (by rw [cel_5 hk]; simp [rI_stI, rI_stL, rL_stI, rL_stL]) (stI_n _ _ _ _) (stI_2 _ _ _ _)] at hP1
  exact hP1
theorem vg_6_0 (n : Nat) {k idx : Nat} (k1 : Nat) (hk : kK k = 6) (hin : ∀ w ∈ wsX100, w ∈ Ts) (hm : Cond.fieldLink own idx "WidowWeight$Walk" "hoursLeft" "LWidowWeight$Row;" ∈ Ts) (hk1 : k + 1 = k1) (d : decode cc pc = .ok (.getfield idx, 3)) (hn : pc + 3 = n) (kk : V g cc own Ts nL ret R ro σo σ n lv (.ref (g.1 k1) :: rest)) : V g cc own Ts nL ret R ro σo σ pc lv (.ref (g.1 k) :: rest) := by
  subst hn
  subst hk1
  exact fun p l e s m args below meth c C H locs ls hP hS hl => va_get (C := RX10) (T := TX10) (N := 3) C.1 C.2.1 C.2.2.2.2.2.2.1 hin C.2.2.2.2.2.1 C.2.2.2.2.2.2.2.1.1 hP k (by rw [WL_get (kK_lt hk (by decide)), cel_6 hk]) rfl 0 (by decide) (C.2.2.2.2.2.2.1 _ hm) (fun _ h9 => h9) rfl d (kk p l e s m args below meth c C H locs ls hP hS hl)
theorem vg_6_1 (n : Nat) {k idx : Nat} (k1 : Nat) (hk : kK k = 6) (hin : ∀ w ∈ wsX100, w ∈ Ts) (hm : Cond.fieldLink own idx "WidowWeight$Walk" "houses" "LWidowWeight$Row;" ∈ Ts) (hk1 : k + 3 = k1) (d : decode cc pc = .ok (.getfield idx, 3)) (hn : pc + 3 = n) (kk : V g cc own Ts nL ret R ro σo σ n lv (.ref (g.1 k1) :: rest)) : V g cc own Ts nL ret R ro σo σ pc lv (.ref (g.1 k) :: rest) := by
  subst hn
  subst hk1
  exact fun p l e s m args below meth c C H locs ls hP hS hl => va_get (C := RX10) (T := TX10) (N := 3) C.1 C.2.1 C.2.2.2.2.2.2.1 hin C.2.2.2.2.2.1 C.2.2.2.2.2.2.2.1.1 hP k (by rw [WL_get (kK_lt hk (by decide)), cel_6 hk]) rfl 1 (by decide) (C.2.2.2.2.2.2.1 _ hm) (fun _ h9 => h9) rfl d (kk p l e s m args below meth c C H locs ls hP hS hl)
theorem vg_6_2 (n : Nat) {k idx : Nat} (hk : kK k = 6) (hin : ∀ w ∈ wsX100, w ∈ Ts) (hm : Cond.fieldLink own idx "WidowWeight$Walk" "told" "I" ∈ Ts) (d : decode cc pc = .ok (.getfield idx, 3)) (hn : pc + 3 = n) (kk : V g cc own Ts nL ret R ro σo σ n lv (.int (rI σ k 2) :: rest)) : V g cc own Ts nL ret R ro σo σ pc lv (.ref (g.1 k) :: rest) := by
  subst hn
  exact fun p l e s m args below meth c C H locs ls hP hS hl => va_get (C := RX10) (T := TX10) (N := 3) C.1 C.2.1 C.2.2.2.2.2.2.1 hin C.2.2.2.2.2.1 C.2.2.2.2.2.2.2.1.1 hP k (by rw [WL_get (kK_lt hk (by decide)), cel_6 hk]) rfl 2 (by decide) (C.2.2.2.2.2.2.1 _ hm) (fun _ h9 => h9) rfl d (kk p l e s m args below meth c C H locs ls hP hS hl)
theorem vp_6_2 (n : Nat) {k idx : Nat} {x : Int32} {β : Type} {K : Sg → β} {oo : β} (h : nam (stI σ k 2 x) K = oo) (hk : kK k = 6) (hin : ∀ w ∈ wsX100, w ∈ Ts) (hm : Cond.fieldLink own idx "WidowWeight$Walk" "told" "I" ∈ Ts) (d : decode cc pc = .ok (.putfield idx, 3)) (hn : pc + 3 = n) (kk : ∀ τ : Sg, K τ = oo → V g cc own Ts nL ret R ro σo τ n lv rest) : V g cc own Ts nL ret R ro σo σ pc lv (.int x :: .ref (g.1 k) :: rest) := by
  subst hn
  refine fun p l e s m args below meth c C H locs ls hP hS hl => va_put (C := RX10) (T := TX10) (N := 3) (ty := .int) C.1 C.2.1 C.2.2.2.2.2.2.1 hin tyX10 tyX10_ok nmX10 C.2.2.2.2.2.1 C.2.2.2.2.2.2.2.1.1 hP (WL_D C.2.2.2.2.2.2.2.2.2 σ) hS k (by rw [WL_get (kK_lt hk (by decide)), cel_6 hk]) rfl 2 (by decide) (C.2.2.2.2.2.2.1 _ hm) (fun _ h9 => h9) rfl (by decide +kernel) rfl rfl (Nat.le_of_ble_eq_true rfl) d (fun H1 locs1 hP1 hD1 hS1 => kk (stI σ k 2 x) h p l e s m args below meth c C H1 locs1 ls ?_ hS1 hl)
  rw [WL_set (τ := stI σ k 2 x) (kK_lt hk (by decide)) (by rw [cel_6 hk]; simp [rI_stI, rI_stL, rL_stI, rL_stL]) (stI_n _ _ _ _) (stI_2 _ _ _ _)] at hP1
  exact hP1
theorem vg_7_0 (n : Nat) {k idx : Nat} (hk : kK k = 7) (hin : ∀ w ∈ wsX110, w ∈ Ts) (hm : Cond.fieldLink own idx "WidowWeight" "here" "LWidowWeight$Market;" ∈ Ts) (d : decode cc pc = .ok (.getfield idx, 3)) (hn : pc + 3 = n) (kk : V g cc own Ts nL ret R ro σo σ n lv (.ref (g.1 1) :: rest)) : V g cc own Ts nL ret R ro σo σ pc lv (.ref (g.1 k) :: rest) := by
  subst hn
  exact fun p l e s m args below meth c C H locs ls hP hS hl => va_get (C := RX11) (T := TX11) (N := 15) C.1 C.2.1 C.2.2.2.2.2.2.1 hin C.2.2.2.2.2.1 C.2.2.2.2.2.2.2.1.1 hP k (by rw [WL_get (kK_lt hk (by decide)), cel_7 hk]) rfl 0 (by decide) (C.2.2.2.2.2.2.1 _ hm) (fun _ h9 => h9) rfl d (kk p l e s m args below meth c C H locs ls hP hS hl)
theorem vg_7_1 (n : Nat) {k idx : Nat} (hk : kK k = 7) (hin : ∀ w ∈ wsX110, w ∈ Ts) (hm : Cond.fieldLink own idx "WidowWeight" "imageZero" "LWidowWeight$Market;" ∈ Ts) (d : decode cc pc = .ok (.getfield idx, 3)) (hn : pc + 3 = n) (kk : V g cc own Ts nL ret R ro σo σ n lv (.ref (g.1 23) :: rest)) : V g cc own Ts nL ret R ro σo σ pc lv (.ref (g.1 k) :: rest) := by
  subst hn
  exact fun p l e s m args below meth c C H locs ls hP hS hl => va_get (C := RX11) (T := TX11) (N := 15) C.1 C.2.1 C.2.2.2.2.2.2.1 hin C.2.2.2.2.2.1 C.2.2.2.2.2.2.2.1.1 hP k (by rw [WL_get (kK_lt hk (by decide)), cel_7 hk]) rfl 1 (by decide) (C.2.2.2.2.2.2.1 _ hm) (fun _ h9 => h9) rfl d (kk p l e s m args below meth c C H locs ls hP hS hl)
theorem vg_7_2 (n : Nat) {k idx : Nat} (hk : kK k = 7) (hin : ∀ w ∈ wsX110, w ∈ Ts) (hm : Cond.fieldLink own idx "WidowWeight" "imageOne" "LWidowWeight$Market;" ∈ Ts) (d : decode cc pc = .ok (.getfield idx, 3)) (hn : pc + 3 = n) (kk : V g cc own Ts nL ret R ro σo σ n lv (.ref (g.1 45) :: rest)) : V g cc own Ts nL ret R ro σo σ pc lv (.ref (g.1 k) :: rest) := by
  subst hn
  exact fun p l e s m args below meth c C H locs ls hP hS hl => va_get (C := RX11) (T := TX11) (N := 15) C.1 C.2.1 C.2.2.2.2.2.2.1 hin C.2.2.2.2.2.1 C.2.2.2.2.2.2.2.1.1 hP k (by rw [WL_get (kK_lt hk (by decide)), cel_7 hk]) rfl 2 (by decide) (C.2.2.2.2.2.2.1 _ hm) (fun _ h9 => h9) rfl d (kk p l e s m args below meth c C H locs ls hP hS hl)
theorem vg_7_3 (n : Nat) {k idx : Nat} (hk : kK k = 7) (hin : ∀ w ∈ wsX110, w ∈ Ts) (hm : Cond.fieldLink own idx "WidowWeight" "keptImages" "I" ∈ Ts) (d : decode cc pc = .ok (.getfield idx, 3)) (hn : pc + 3 = n) (kk : V g cc own Ts nL ret R ro σo σ n lv (.int (rI σ k 3) :: rest)) : V g cc own Ts nL ret R ro σo σ pc lv (.ref (g.1 k) :: rest) := by
  subst hn
  exact fun p l e s m args below meth c C H locs ls hP hS hl => va_get (C := RX11) (T := TX11) (N := 15) C.1 C.2.1 C.2.2.2.2.2.2.1 hin C.2.2.2.2.2.1 C.2.2.2.2.2.2.2.1.1 hP k (by rw [WL_get (kK_lt hk (by decide)), cel_7 hk]) rfl 3 (by decide) (C.2.2.2.2.2.2.1 _ hm) (fun _ h9 => h9) rfl d (kk p l e s m args below meth c C H locs ls hP hS hl)
theorem vp_7_3 (n : Nat) {k idx : Nat} {x : Int32} {β : Type} {K : Sg → β} {oo : β} (h : nam (stI σ k 3 x) K = oo) (hk : kK k = 7) (hin : ∀ w ∈ wsX110, w ∈ Ts) (hm : Cond.fieldLink own idx "WidowWeight" "keptImages" "I" ∈ Ts) (d : decode cc pc = .ok (.putfield idx, 3)) (hn : pc + 3 = n) (kk : ∀ τ : Sg, K τ = oo → V g cc own Ts nL ret R ro σo τ n lv rest) : V g cc own Ts nL ret R ro σo σ pc lv (.int x :: .ref (g.1 k) :: rest) := by
  subst hn
  refine fun p l e s m args below meth c C H locs ls hP hS hl => va_put (C := RX11) (T := TX11) (N := 15) (ty := .int) C.1 C.2.1 C.2.2.2.2.2.2.1 hin tyX11 tyX11_ok nmX11 C.2.2.2.2.2.1 C.2.2.2.2.2.2.2.1.1 hP (WL_D C.2.2.2.2.2.2.2.2.2 σ) hS k (by rw [WL_get (kK_lt hk (by decide)), cel_7 hk]) rfl 3 (by decide) (C.2.2.2.2.2.2.1 _ hm) (fun _ h9 => h9) rfl (by decide +kernel) rfl rfl (Nat.le_of_ble_eq_true rfl) d (fun H1 locs1 hP1 hD1 hS1 => kk (stI σ k 3 x) h p l e s m args below meth c C H1 locs1 ls ?_ hS1 hl)
  rw [WL_set (τ := stI σ k 3 x) (kK_lt hk (by decide)) (by rw [cel_7 hk]; simp [rI_stI, rI_stL, rL_stI, rL_stL]) (stI_n _ _ _ _) (stI_2 _ _ _ _)] at hP1
  exact hP1
theorem vg_7_4 (n : Nat) {k idx : Nat} (hk : kK k = 7) (hin : ∀ w ∈ wsX110, w ∈ Ts) (hm : Cond.fieldLink own idx "WidowWeight" "text" "LWidowWeight$Row;" ∈ Ts) (d : decode cc pc = .ok (.getfield idx, 3)) (hn : pc + 3 = n) (kk : V g cc own Ts nL ret R ro σo σ n lv (.ref (g.1 67) :: rest)) : V g cc own Ts nL ret R ro σo σ pc lv (.ref (g.1 k) :: rest) := by
  subst hn
  exact fun p l e s m args below meth c C H locs ls hP hS hl => va_get (C := RX11) (T := TX11) (N := 15) C.1 C.2.1 C.2.2.2.2.2.2.1 hin C.2.2.2.2.2.1 C.2.2.2.2.2.2.2.1.1 hP k (by rw [WL_get (kK_lt hk (by decide)), cel_7 hk]) rfl 4 (by decide) (C.2.2.2.2.2.2.1 _ hm) (fun _ h9 => h9) rfl d (kk p l e s m args below meth c C H locs ls hP hS hl)
theorem vg_7_5 (n : Nat) {k idx : Nat} (hk : kK k = 7) (hin : ∀ w ∈ wsX110, w ∈ Ts) (hm : Cond.fieldLink own idx "WidowWeight" "reader" "LWidowWeight$TextReader;" ∈ Ts) (d : decode cc pc = .ok (.getfield idx, 3)) (hn : pc + 3 = n) (kk : V g cc own Ts nL ret R ro σo σ n lv (.ref (g.1 69) :: rest)) : V g cc own Ts nL ret R ro σo σ pc lv (.ref (g.1 k) :: rest) := by
  subst hn
  exact fun p l e s m args below meth c C H locs ls hP hS hl => va_get (C := RX11) (T := TX11) (N := 15) C.1 C.2.1 C.2.2.2.2.2.2.1 hin C.2.2.2.2.2.1 C.2.2.2.2.2.2.2.1.1 hP k (by rw [WL_get (kK_lt hk (by decide)), cel_7 hk]) rfl 5 (by decide) (C.2.2.2.2.2.2.1 _ hm) (fun _ h9 => h9) rfl d (kk p l e s m args below meth c C H locs ls hP hS hl)
theorem vg_7_6 (n : Nat) {k idx : Nat} (hk : kK k = 7) (hin : ∀ w ∈ wsX110, w ∈ Ts) (hm : Cond.fieldLink own idx "WidowWeight" "dream" "LWidowWeight$Moment;" ∈ Ts) (d : decode cc pc = .ok (.getfield idx, 3)) (hn : pc + 3 = n) (kk : V g cc own Ts nL ret R ro σo σ n lv (.ref (g.1 94) :: rest)) : V g cc own Ts nL ret R ro σo σ pc lv (.ref (g.1 k) :: rest) := by
  subst hn
  exact fun p l e s m args below meth c C H locs ls hP hS hl => va_get (C := RX11) (T := TX11) (N := 15) C.1 C.2.1 C.2.2.2.2.2.2.1 hin C.2.2.2.2.2.1 C.2.2.2.2.2.2.2.1.1 hP k (by rw [WL_get (kK_lt hk (by decide)), cel_7 hk]) rfl 6 (by decide) (C.2.2.2.2.2.2.1 _ hm) (fun _ h9 => h9) rfl d (kk p l e s m args below meth c C H locs ls hP hS hl)
theorem vg_7_7 (n : Nat) {k idx : Nat} (hk : kK k = 7) (hin : ∀ w ∈ wsX110, w ∈ Ts) (hm : Cond.fieldLink own idx "WidowWeight" "pans" "LWidowWeight$Pans;" ∈ Ts) (d : decode cc pc = .ok (.getfield idx, 3)) (hn : pc + 3 = n) (kk : V g cc own Ts nL ret R ro σo σ n lv (.ref (g.1 99) :: rest)) : V g cc own Ts nL ret R ro σo σ pc lv (.ref (g.1 k) :: rest) := by
  subst hn
  exact fun p l e s m args below meth c C H locs ls hP hS hl => va_get (C := RX11) (T := TX11) (N := 15) C.1 C.2.1 C.2.2.2.2.2.2.1 hin C.2.2.2.2.2.1 C.2.2.2.2.2.2.2.1.1 hP k (by rw [WL_get (kK_lt hk (by decide)), cel_7 hk]) rfl 7 (by decide) (C.2.2.2.2.2.2.1 _ hm) (fun _ h9 => h9) rfl d (kk p l e s m args below meth c C H locs ls hP hS hl)
theorem vg_7_8 (n : Nat) {k idx : Nat} (hk : kK k = 7) (hin : ∀ w ∈ wsX110, w ∈ Ts) (hm : Cond.fieldLink own idx "WidowWeight" "walk" "LWidowWeight$Walk;" ∈ Ts) (d : decode cc pc = .ok (.getfield idx, 3)) (hn : pc + 3 = n) (kk : V g cc own Ts nL ret R ro σo σ n lv (.ref (g.1 102) :: rest)) : V g cc own Ts nL ret R ro σo σ pc lv (.ref (g.1 k) :: rest) := by
  subst hn
  exact fun p l e s m args below meth c C H locs ls hP hS hl => va_get (C := RX11) (T := TX11) (N := 15) C.1 C.2.1 C.2.2.2.2.2.2.1 hin C.2.2.2.2.2.1 C.2.2.2.2.2.2.2.1.1 hP k (by rw [WL_get (kK_lt hk (by decide)), cel_7 hk]) rfl 8 (by decide) (C.2.2.2.2.2.2.1 _ hm) (fun _ h9 => h9) rfl d (kk p l e s m args below meth c C H locs ls hP hS hl)
theorem vg_7_9 (n : Nat) {k idx : Nat} (hk : kK k = 7) (hin : ∀ w ∈ wsX110, w ∈ Ts) (hm : Cond.fieldLink own idx "WidowWeight" "parts" "LWidowWeight$Parts;" ∈ Ts) (d : decode cc pc = .ok (.getfield idx, 3)) (hn : pc + 3 = n) (kk : V g cc own Ts nL ret R ro σo σ n lv (.ref (g.1 107) :: rest)) : V g cc own Ts nL ret R ro σo σ pc lv (.ref (g.1 k) :: rest) := by
  subst hn
  exact fun p l e s m args below meth c C H locs ls hP hS hl => va_get (C := RX11) (T := TX11) (N := 15) C.1 C.2.1 C.2.2.2.2.2.2.1 hin C.2.2.2.2.2.1 C.2.2.2.2.2.2.2.1.1 hP k (by rw [WL_get (kK_lt hk (by decide)), cel_7 hk]) rfl 9 (by decide) (C.2.2.2.2.2.2.1 _ hm) (fun _ h9 => h9) rfl d (kk p l e s m args below meth c C H locs ls hP hS hl)
theorem vg_7_10 (n : Nat) {k idx : Nat} (hk : kK k = 7) (hin : ∀ w ∈ wsX110, w ∈ Ts) (hm : Cond.fieldLink own idx "WidowWeight" "above" "J" ∈ Ts) (d : decode cc pc = .ok (.getfield idx, 3)) (hn : pc + 3 = n) (kk : V g cc own Ts nL ret R ro σo σ n lv (.long (rL σ k 10) :: rest)) : V g cc own Ts nL ret R ro σo σ pc lv (.ref (g.1 k) :: rest) := by
  subst hn
  exact fun p l e s m args below meth c C H locs ls hP hS hl => va_get (C := RX11) (T := TX11) (N := 15) C.1 C.2.1 C.2.2.2.2.2.2.1 hin C.2.2.2.2.2.1 C.2.2.2.2.2.2.2.1.1 hP k (by rw [WL_get (kK_lt hk (by decide)), cel_7 hk]) rfl 10 (by decide) (C.2.2.2.2.2.2.1 _ hm) (fun _ h9 => h9) rfl d (kk p l e s m args below meth c C H locs ls hP hS hl)
theorem vp_7_10 (n : Nat) {k idx : Nat} {x : Int64} {β : Type} {K : Sg → β} {oo : β} (h : nam (stL σ k 10 x) K = oo) (hk : kK k = 7) (hin : ∀ w ∈ wsX110, w ∈ Ts) (hm : Cond.fieldLink own idx "WidowWeight" "above" "J" ∈ Ts) (d : decode cc pc = .ok (.putfield idx, 3)) (hn : pc + 3 = n) (kk : ∀ τ : Sg, K τ = oo → V g cc own Ts nL ret R ro σo τ n lv rest) : V g cc own Ts nL ret R ro σo σ pc lv (.long x :: .ref (g.1 k) :: rest) := by
  subst hn
  refine fun p l e s m args below meth c C H locs ls hP hS hl => va_put (C := RX11) (T := TX11) (N := 15) (ty := .long) C.1 C.2.1 C.2.2.2.2.2.2.1 hin tyX11 tyX11_ok nmX11 C.2.2.2.2.2.1 C.2.2.2.2.2.2.2.1.1 hP (WL_D C.2.2.2.2.2.2.2.2.2 σ) hS k (by rw [WL_get (kK_lt hk (by decide)), cel_7 hk]) rfl 10 (by decide) (C.2.2.2.2.2.2.1 _ hm) (fun _ h9 => h9) rfl (by decide +kernel) rfl rfl (Nat.le_of_ble_eq_true rfl) d (fun H1 locs1 hP1 hD1 hS1 => kk (stL σ k 10 x) h p l e s m args below meth c C H1 locs1 ls ?_ hS1 hl)
  rw [WL_set (τ := stL σ k 10 x) (kK_lt hk (by decide)) (by rw [cel_7 hk]; simp [rI_stI, rI_stL, rL_stI, rL_stL]) (stL_2 _ _ _ _) (stL_n _ _ _ _)] at hP1
  exact hP1
theorem vg_7_11 (n : Nat) {k idx : Nat} (hk : kK k = 7) (hin : ∀ w ∈ wsX110, w ∈ Ts) (hm : Cond.fieldLink own idx "WidowWeight" "below" "J" ∈ Ts) (d : decode cc pc = .ok (.getfield idx, 3)) (hn : pc + 3 = n) (kk : V g cc own Ts nL ret R ro σo σ n lv (.long (rL σ k 11) :: rest)) : V g cc own Ts nL ret R ro σo σ pc lv (.ref (g.1 k) :: rest) := by
  subst hn
  exact fun p l e s m args below meth c C H locs ls hP hS hl => va_get (C := RX11) (T := TX11) (N := 15) C.1 C.2.1 C.2.2.2.2.2.2.1 hin C.2.2.2.2.2.1 C.2.2.2.2.2.2.2.1.1 hP k (by rw [WL_get (kK_lt hk (by decide)), cel_7 hk]) rfl 11 (by decide) (C.2.2.2.2.2.2.1 _ hm) (fun _ h9 => h9) rfl d (kk p l e s m args below meth c C H locs ls hP hS hl)
theorem vp_7_11 (n : Nat) {k idx : Nat} {x : Int64} {β : Type} {K : Sg → β} {oo : β} (h : nam (stL σ k 11 x) K = oo) (hk : kK k = 7) (hin : ∀ w ∈ wsX110, w ∈ Ts) (hm : Cond.fieldLink own idx "WidowWeight" "below" "J" ∈ Ts) (d : decode cc pc = .ok (.putfield idx, 3)) (hn : pc + 3 = n) (kk : ∀ τ : Sg, K τ = oo → V g cc own Ts nL ret R ro σo τ n lv rest) : V g cc own Ts nL ret R ro σo σ pc lv (.long x :: .ref (g.1 k) :: rest) := by
  subst hn
  refine fun p l e s m args below meth c C H locs ls hP hS hl => va_put (C := RX11) (T := TX11) (N := 15) (ty := .long) C.1 C.2.1 C.2.2.2.2.2.2.1 hin tyX11 tyX11_ok nmX11 C.2.2.2.2.2.1 C.2.2.2.2.2.2.2.1.1 hP (WL_D C.2.2.2.2.2.2.2.2.2 σ) hS k (by rw [WL_get (kK_lt hk (by decide)), cel_7 hk]) rfl 11 (by decide) (C.2.2.2.2.2.2.1 _ hm) (fun _ h9 => h9) rfl (by decide +kernel) rfl rfl (Nat.le_of_ble_eq_true rfl) d (fun H1 locs1 hP1 hD1 hS1 => kk (stL σ k 11 x) h p l e s m args below meth c C H1 locs1 ls ?_ hS1 hl)
  rw [WL_set (τ := stL σ k 11 x) (kK_lt hk (by decide)) (by rw [cel_7 hk]; simp [rI_stI, rI_stL, rL_stI, rL_stL]) (stL_2 _ _ _ _) (stL_n _ _ _ _)] at hP1
  exact hP1
theorem vg_7_12 (n : Nat) {k idx : Nat} (hk : kK k = 7) (hin : ∀ w ∈ wsX110, w ∈ Ts) (hm : Cond.fieldLink own idx "WidowWeight" "bads" "I" ∈ Ts) (d : decode cc pc = .ok (.getfield idx, 3)) (hn : pc + 3 = n) (kk : V g cc own Ts nL ret R ro σo σ n lv (.int (rI σ k 12) :: rest)) : V g cc own Ts nL ret R ro σo σ pc lv (.ref (g.1 k) :: rest) := by
  subst hn
  exact fun p l e s m args below meth c C H locs ls hP hS hl => va_get (C := RX11) (T := TX11) (N := 15) C.1 C.2.1 C.2.2.2.2.2.2.1 hin C.2.2.2.2.2.1 C.2.2.2.2.2.2.2.1.1 hP k (by rw [WL_get (kK_lt hk (by decide)), cel_7 hk]) rfl 12 (by decide) (C.2.2.2.2.2.2.1 _ hm) (fun _ h9 => h9) rfl d (kk p l e s m args below meth c C H locs ls hP hS hl)
theorem vp_7_12 (n : Nat) {k idx : Nat} {x : Int32} {β : Type} {K : Sg → β} {oo : β} (h : nam (stI σ k 12 x) K = oo) (hk : kK k = 7) (hin : ∀ w ∈ wsX110, w ∈ Ts) (hm : Cond.fieldLink own idx "WidowWeight" "bads" "I" ∈ Ts) (d : decode cc pc = .ok (.putfield idx, 3)) (hn : pc + 3 = n) (kk : ∀ τ : Sg, K τ = oo → V g cc own Ts nL ret R ro σo τ n lv rest) : V g cc own Ts nL ret R ro σo σ pc lv (.int x :: .ref (g.1 k) :: rest) := by
  subst hn
  refine fun p l e s m args below meth c C H locs ls hP hS hl => va_put (C := RX11) (T := TX11) (N := 15) (ty := .int) C.1 C.2.1 C.2.2.2.2.2.2.1 hin tyX11 tyX11_ok nmX11 C.2.2.2.2.2.1 C.2.2.2.2.2.2.2.1.1 hP (WL_D C.2.2.2.2.2.2.2.2.2 σ) hS k (by rw [WL_get (kK_lt hk (by decide)), cel_7 hk]) rfl 12 (by decide) (C.2.2.2.2.2.2.1 _ hm) (fun _ h9 => h9) rfl (by decide +kernel) rfl rfl (Nat.le_of_ble_eq_true rfl) d (fun H1 locs1 hP1 hD1 hS1 => kk (stI σ k 12 x) h p l e s m args below meth c C H1 locs1 ls ?_ hS1 hl)
  rw [WL_set (τ := stI σ k 12 x) (kK_lt hk (by decide)) (by rw [cel_7 hk]; simp [rI_stI, rI_stL, rL_stI, rL_stL]) (stI_n _ _ _ _) (stI_2 _ _ _ _)] at hP1
  exact hP1
theorem vg_7_13 (n : Nat) {k idx : Nat} (hk : kK k = 7) (hin : ∀ w ∈ wsX110, w ∈ Ts) (hm : Cond.fieldLink own idx "WidowWeight" "nos" "I" ∈ Ts) (d : decode cc pc = .ok (.getfield idx, 3)) (hn : pc + 3 = n) (kk : V g cc own Ts nL ret R ro σo σ n lv (.int (rI σ k 13) :: rest)) : V g cc own Ts nL ret R ro σo σ pc lv (.ref (g.1 k) :: rest) := by
  subst hn
  exact fun p l e s m args below meth c C H locs ls hP hS hl => va_get (C := RX11) (T := TX11) (N := 15) C.1 C.2.1 C.2.2.2.2.2.2.1 hin C.2.2.2.2.2.1 C.2.2.2.2.2.2.2.1.1 hP k (by rw [WL_get (kK_lt hk (by decide)), cel_7 hk]) rfl 13 (by decide) (C.2.2.2.2.2.2.1 _ hm) (fun _ h9 => h9) rfl d (kk p l e s m args below meth c C H locs ls hP hS hl)
theorem vp_7_13 (n : Nat) {k idx : Nat} {x : Int32} {β : Type} {K : Sg → β} {oo : β} (h : nam (stI σ k 13 x) K = oo) (hk : kK k = 7) (hin : ∀ w ∈ wsX110, w ∈ Ts) (hm : Cond.fieldLink own idx "WidowWeight" "nos" "I" ∈ Ts) (d : decode cc pc = .ok (.putfield idx, 3)) (hn : pc + 3 = n) (kk : ∀ τ : Sg, K τ = oo → V g cc own Ts nL ret R ro σo τ n lv rest) : V g cc own Ts nL ret R ro σo σ pc lv (.int x :: .ref (g.1 k) :: rest) := by
  subst hn
  refine fun p l e s m args below meth c C H locs ls hP hS hl => va_put (C := RX11) (T := TX11) (N := 15) (ty := .int) C.1 C.2.1 C.2.2.2.2.2.2.1 hin tyX11 tyX11_ok nmX11 C.2.2.2.2.2.1 C.2.2.2.2.2.2.2.1.1 hP (WL_D C.2.2.2.2.2.2.2.2.2 σ) hS k (by rw [WL_get (kK_lt hk (by decide)), cel_7 hk]) rfl 13 (by decide) (C.2.2.2.2.2.2.1 _ hm) (fun _ h9 => h9) rfl (by decide +kernel) rfl rfl (Nat.le_of_ble_eq_true rfl) d (fun H1 locs1 hP1 hD1 hS1 => kk (stI σ k 13 x) h p l e s m args below meth c C H1 locs1 ls ?_ hS1 hl)
  rw [WL_set (τ := stI σ k 13 x) (kK_lt hk (by decide)) (by rw [cel_7 hk]; simp [rI_stI, rI_stL, rL_stI, rL_stL]) (stI_n _ _ _ _) (stI_2 _ _ _ _)] at hP1
  exact hP1
theorem vg_7_14 (n : Nat) {k idx : Nat} (hk : kK k = 7) (hin : ∀ w ∈ wsX110, w ∈ Ts) (hm : Cond.fieldLink own idx "WidowWeight" "fulls" "I" ∈ Ts) (d : decode cc pc = .ok (.getfield idx, 3)) (hn : pc + 3 = n) (kk : V g cc own Ts nL ret R ro σo σ n lv (.int (rI σ k 14) :: rest)) : V g cc own Ts nL ret R ro σo σ pc lv (.ref (g.1 k) :: rest) := by
  subst hn
  exact fun p l e s m args below meth c C H locs ls hP hS hl => va_get (C := RX11) (T := TX11) (N := 15) C.1 C.2.1 C.2.2.2.2.2.2.1 hin C.2.2.2.2.2.1 C.2.2.2.2.2.2.2.1.1 hP k (by rw [WL_get (kK_lt hk (by decide)), cel_7 hk]) rfl 14 (by decide) (C.2.2.2.2.2.2.1 _ hm) (fun _ h9 => h9) rfl d (kk p l e s m args below meth c C H locs ls hP hS hl)
theorem vp_7_14 (n : Nat) {k idx : Nat} {x : Int32} {β : Type} {K : Sg → β} {oo : β} (h : nam (stI σ k 14 x) K = oo) (hk : kK k = 7) (hin : ∀ w ∈ wsX110, w ∈ Ts) (hm : Cond.fieldLink own idx "WidowWeight" "fulls" "I" ∈ Ts) (d : decode cc pc = .ok (.putfield idx, 3)) (hn : pc + 3 = n) (kk : ∀ τ : Sg, K τ = oo → V g cc own Ts nL ret R ro σo τ n lv rest) : V g cc own Ts nL ret R ro σo σ pc lv (.int x :: .ref (g.1 k) :: rest) := by
  subst hn
  refine fun p l e s m args below meth c C H locs ls hP hS hl => va_put (C := RX11) (T := TX11) (N := 15) (ty := .int) C.1 C.2.1 C.2.2.2.2.2.2.1 hin tyX11 tyX11_ok nmX11 C.2.2.2.2.2.1 C.2.2.2.2.2.2.2.1.1 hP (WL_D C.2.2.2.2.2.2.2.2.2 σ) hS k (by rw [WL_get (kK_lt hk (by decide)), cel_7 hk]) rfl 14 (by decide) (C.2.2.2.2.2.2.1 _ hm) (fun _ h9 => h9) rfl (by decide +kernel) rfl rfl (Nat.le_of_ble_eq_true rfl) d (fun H1 locs1 hP1 hD1 hS1 => kk (stI σ k 14 x) h p l e s m args below meth c C H1 locs1 ls ?_ hS1 hl)
  rw [WL_set (τ := stI σ k 14 x) (kK_lt hk (by decide)) (by rw [cel_7 hk]; simp [rI_stI, rI_stL, rL_stI, rL_stL]) (stI_n _ _ _ _) (stI_2 _ _ _ _)] at hP1
  exact hP1
theorem vg_8_0 (n : Nat) {k idx : Nat} (hk : kK k = 8) (hin : ∀ w ∈ wsX120, w ∈ Ts) (hm : Cond.fieldLink own idx "WidowWeightModel" "w" "[I" ∈ Ts) (d : decode cc pc = .ok (.getfield idx, 3)) (hn : pc + 3 = n) (kk : V g cc own Ts nL ret R ro σo σ n lv (.ref (g.1 113) :: rest)) : V g cc own Ts nL ret R ro σo σ pc lv (.ref (g.1 k) :: rest) := by
  subst hn
  exact fun p l e s m args below meth c C H locs ls hP hS hl => va_get (C := RX12) (T := TX12) (N := 20) C.1 C.2.1 C.2.2.2.2.2.2.1 hin C.2.2.2.2.2.1 C.2.2.2.2.2.2.2.1.1 hP k (by rw [WL_get (kK_lt hk (by decide)), cel_8 hk]) rfl 0 (by decide) (C.2.2.2.2.2.2.1 _ hm) (fun _ h9 => h9) rfl d (kk p l e s m args below meth c C H locs ls hP hS hl)
theorem vg_8_1 (n : Nat) {k idx : Nat} (hk : kK k = 8) (hin : ∀ w ∈ wsX120, w ∈ Ts) (hm : Cond.fieldLink own idx "WidowWeightModel" "isKept" "[Z" ∈ Ts) (d : decode cc pc = .ok (.getfield idx, 3)) (hn : pc + 3 = n) (kk : V g cc own Ts nL ret R ro σo σ n lv (.ref (g.1 114) :: rest)) : V g cc own Ts nL ret R ro σo σ pc lv (.ref (g.1 k) :: rest) := by
  subst hn
  exact fun p l e s m args below meth c C H locs ls hP hS hl => va_get (C := RX12) (T := TX12) (N := 20) C.1 C.2.1 C.2.2.2.2.2.2.1 hin C.2.2.2.2.2.1 C.2.2.2.2.2.2.2.1.1 hP k (by rw [WL_get (kK_lt hk (by decide)), cel_8 hk]) rfl 1 (by decide) (C.2.2.2.2.2.2.1 _ hm) (fun _ h9 => h9) rfl d (kk p l e s m args below meth c C H locs ls hP hS hl)
theorem vg_8_2 (n : Nat) {k idx : Nat} (hk : kK k = 8) (hin : ∀ w ∈ wsX120, w ∈ Ts) (hm : Cond.fieldLink own idx "WidowWeightModel" "text" "[I" ∈ Ts) (d : decode cc pc = .ok (.getfield idx, 3)) (hn : pc + 3 = n) (kk : V g cc own Ts nL ret R ro σo σ n lv (.ref (g.1 115) :: rest)) : V g cc own Ts nL ret R ro σo σ pc lv (.ref (g.1 k) :: rest) := by
  subst hn
  exact fun p l e s m args below meth c C H locs ls hP hS hl => va_get (C := RX12) (T := TX12) (N := 20) C.1 C.2.1 C.2.2.2.2.2.2.1 hin C.2.2.2.2.2.1 C.2.2.2.2.2.2.2.1.1 hP k (by rw [WL_get (kK_lt hk (by decide)), cel_8 hk]) rfl 2 (by decide) (C.2.2.2.2.2.2.1 _ hm) (fun _ h9 => h9) rfl d (kk p l e s m args below meth c C H locs ls hP hS hl)
theorem vg_8_3 (n : Nat) {k idx : Nat} (hk : kK k = 8) (hin : ∀ w ∈ wsX120, w ∈ Ts) (hm : Cond.fieldLink own idx "WidowWeightModel" "texted" "I" ∈ Ts) (d : decode cc pc = .ok (.getfield idx, 3)) (hn : pc + 3 = n) (kk : V g cc own Ts nL ret R ro σo σ n lv (.int (rI σ k 3) :: rest)) : V g cc own Ts nL ret R ro σo σ pc lv (.ref (g.1 k) :: rest) := by
  subst hn
  exact fun p l e s m args below meth c C H locs ls hP hS hl => va_get (C := RX12) (T := TX12) (N := 20) C.1 C.2.1 C.2.2.2.2.2.2.1 hin C.2.2.2.2.2.1 C.2.2.2.2.2.2.2.1.1 hP k (by rw [WL_get (kK_lt hk (by decide)), cel_8 hk]) rfl 3 (by decide) (C.2.2.2.2.2.2.1 _ hm) (fun _ h9 => h9) rfl d (kk p l e s m args below meth c C H locs ls hP hS hl)
theorem vp_8_3 (n : Nat) {k idx : Nat} {x : Int32} {β : Type} {K : Sg → β} {oo : β} (h : nam (stI σ k 3 x) K = oo) (hk : kK k = 8) (hin : ∀ w ∈ wsX120, w ∈ Ts) (hm : Cond.fieldLink own idx "WidowWeightModel" "texted" "I" ∈ Ts) (d : decode cc pc = .ok (.putfield idx, 3)) (hn : pc + 3 = n) (kk : ∀ τ : Sg, K τ = oo → V g cc own Ts nL ret R ro σo τ n lv rest) : V g cc own Ts nL ret R ro σo σ pc lv (.int x :: .ref (g.1 k) :: rest) := by
  subst hn
  refine fun p l e s m args below meth c C H locs ls hP hS hl => va_put (C := RX12) (T := TX12) (N := 20) (ty := .int) C.1 C.2.1 C.2.2.2.2.2.2.1 hin tyX12 tyX12_ok nmX12 C.2.2.2.2.2.1 C.2.2.2.2.2.2.2.1.1 hP (WL_D C.2.2.2.2.2.2.2.2.2 σ) hS k (by rw [WL_get (kK_lt hk (by decide)), cel_8 hk]) rfl 3 (by decide) (C.2.2.2.2.2.2.1 _ hm) (fun _ h9 => h9) rfl (by decide +kernel) rfl rfl (Nat.le_of_ble_eq_true rfl) d (fun H1 locs1 hP1 hD1 hS1 => kk (stI σ k 3 x) h p l e s m args below meth c C H1 locs1 ls ?_ hS1 hl)
  rw [WL_set (τ := stI σ k 3 x) (kK_lt hk (by decide)) (by rw [cel_8 hk]; simp [rI_stI, rI_stL, rL_stI, rL_stL]) (stI_n _ _ _ _) (stI_2 _ _ _ _)] at hP1
  exact hP1
theorem vg_8_4 (n : Nat) {k idx : Nat} (hk : kK k = 8) (hin : ∀ w ∈ wsX120, w ∈ Ts) (hm : Cond.fieldLink own idx "WidowWeightModel" "above" "J" ∈ Ts) (d : decode cc pc = .ok (.getfield idx, 3)) (hn : pc + 3 = n) (kk : V g cc own Ts nL ret R ro σo σ n lv (.long (rL σ k 4) :: rest)) : V g cc own Ts nL ret R ro σo σ pc lv (.ref (g.1 k) :: rest) := by
  subst hn
  exact fun p l e s m args below meth c C H locs ls hP hS hl => va_get (C := RX12) (T := TX12) (N := 20) C.1 C.2.1 C.2.2.2.2.2.2.1 hin C.2.2.2.2.2.1 C.2.2.2.2.2.2.2.1.1 hP k (by rw [WL_get (kK_lt hk (by decide)), cel_8 hk]) rfl 4 (by decide) (C.2.2.2.2.2.2.1 _ hm) (fun _ h9 => h9) rfl d (kk p l e s m args below meth c C H locs ls hP hS hl)
theorem vp_8_4 (n : Nat) {k idx : Nat} {x : Int64} {β : Type} {K : Sg → β} {oo : β} (h : nam (stL σ k 4 x) K = oo) (hk : kK k = 8) (hin : ∀ w ∈ wsX120, w ∈ Ts) (hm : Cond.fieldLink own idx "WidowWeightModel" "above" "J" ∈ Ts) (d : decode cc pc = .ok (.putfield idx, 3)) (hn : pc + 3 = n) (kk : ∀ τ : Sg, K τ = oo → V g cc own Ts nL ret R ro σo τ n lv rest) : V g cc own Ts nL ret R ro σo σ pc lv (.long x :: .ref (g.1 k) :: rest) := by
  subst hn
  refine fun p l e s m args below meth c C H locs ls hP hS hl => va_put (C := RX12) (T := TX12) (N := 20) (ty := .long) C.1 C.2.1 C.2.2.2.2.2.2.1 hin tyX12 tyX12_ok nmX12 C.2.2.2.2.2.1 C.2.2.2.2.2.2.2.1.1 hP (WL_D C.2.2.2.2.2.2.2.2.2 σ) hS k (by rw [WL_get (kK_lt hk (by decide)), cel_8 hk]) rfl 4 (by decide) (C.2.2.2.2.2.2.1 _ hm) (fun _ h9 => h9) rfl (by decide +kernel) rfl rfl (Nat.le_of_ble_eq_true rfl) d (fun H1 locs1 hP1 hD1 hS1 => kk (stL σ k 4 x) h p l e s m args below meth c C H1 locs1 ls ?_ hS1 hl)
  rw [WL_set (τ := stL σ k 4 x) (kK_lt hk (by decide)) (by rw [cel_8 hk]; simp [rI_stI, rI_stL, rL_stI, rL_stL]) (stL_2 _ _ _ _) (stL_n _ _ _ _)] at hP1
  exact hP1
theorem vg_8_5 (n : Nat) {k idx : Nat} (hk : kK k = 8) (hin : ∀ w ∈ wsX120, w ∈ Ts) (hm : Cond.fieldLink own idx "WidowWeightModel" "below" "J" ∈ Ts) (d : decode cc pc = .ok (.getfield idx, 3)) (hn : pc + 3 = n) (kk : V g cc own Ts nL ret R ro σo σ n lv (.long (rL σ k 5) :: rest)) : V g cc own Ts nL ret R ro σo σ pc lv (.ref (g.1 k) :: rest) := by
  subst hn
  exact fun p l e s m args below meth c C H locs ls hP hS hl => va_get (C := RX12) (T := TX12) (N := 20) C.1 C.2.1 C.2.2.2.2.2.2.1 hin C.2.2.2.2.2.1 C.2.2.2.2.2.2.2.1.1 hP k (by rw [WL_get (kK_lt hk (by decide)), cel_8 hk]) rfl 5 (by decide) (C.2.2.2.2.2.2.1 _ hm) (fun _ h9 => h9) rfl d (kk p l e s m args below meth c C H locs ls hP hS hl)
theorem vp_8_5 (n : Nat) {k idx : Nat} {x : Int64} {β : Type} {K : Sg → β} {oo : β} (h : nam (stL σ k 5 x) K = oo) (hk : kK k = 8) (hin : ∀ w ∈ wsX120, w ∈ Ts) (hm : Cond.fieldLink own idx "WidowWeightModel" "below" "J" ∈ Ts) (d : decode cc pc = .ok (.putfield idx, 3)) (hn : pc + 3 = n) (kk : ∀ τ : Sg, K τ = oo → V g cc own Ts nL ret R ro σo τ n lv rest) : V g cc own Ts nL ret R ro σo σ pc lv (.long x :: .ref (g.1 k) :: rest) := by
  subst hn
  refine fun p l e s m args below meth c C H locs ls hP hS hl => va_put (C := RX12) (T := TX12) (N := 20) (ty := .long) C.1 C.2.1 C.2.2.2.2.2.2.1 hin tyX12 tyX12_ok nmX12 C.2.2.2.2.2.1 C.2.2.2.2.2.2.2.1.1 hP (WL_D C.2.2.2.2.2.2.2.2.2 σ) hS k (by rw [WL_get (kK_lt hk (by decide)), cel_8 hk]) rfl 5 (by decide) (C.2.2.2.2.2.2.1 _ hm) (fun _ h9 => h9) rfl (by decide +kernel) rfl rfl (Nat.le_of_ble_eq_true rfl) d (fun H1 locs1 hP1 hD1 hS1 => kk (stL σ k 5 x) h p l e s m args below meth c C H1 locs1 ls ?_ hS1 hl)
  rw [WL_set (τ := stL σ k 5 x) (kK_lt hk (by decide)) (by rw [cel_8 hk]; simp [rI_stI, rI_stL, rL_stI, rL_stL]) (stL_2 _ _ _ _) (stL_n _ _ _ _)] at hP1
  exact hP1
theorem vg_8_6 (n : Nat) {k idx : Nat} (hk : kK k = 8) (hin : ∀ w ∈ wsX120, w ∈ Ts) (hm : Cond.fieldLink own idx "WidowWeightModel" "statuses" "[I" ∈ Ts) (d : decode cc pc = .ok (.getfield idx, 3)) (hn : pc + 3 = n) (kk : V g cc own Ts nL ret R ro σo σ n lv (.ref (g.1 116) :: rest)) : V g cc own Ts nL ret R ro σo σ pc lv (.ref (g.1 k) :: rest) := by
  subst hn
  exact fun p l e s m args below meth c C H locs ls hP hS hl => va_get (C := RX12) (T := TX12) (N := 20) C.1 C.2.1 C.2.2.2.2.2.2.1 hin C.2.2.2.2.2.1 C.2.2.2.2.2.2.2.1.1 hP k (by rw [WL_get (kK_lt hk (by decide)), cel_8 hk]) rfl 6 (by decide) (C.2.2.2.2.2.2.1 _ hm) (fun _ h9 => h9) rfl d (kk p l e s m args below meth c C H locs ls hP hS hl)
theorem vg_8_7 (n : Nat) {k idx : Nat} (hk : kK k = 8) (hin : ∀ w ∈ wsX120, w ∈ Ts) (hm : Cond.fieldLink own idx "WidowWeightModel" "at" "I" ∈ Ts) (d : decode cc pc = .ok (.getfield idx, 3)) (hn : pc + 3 = n) (kk : V g cc own Ts nL ret R ro σo σ n lv (.int (rI σ k 7) :: rest)) : V g cc own Ts nL ret R ro σo σ pc lv (.ref (g.1 k) :: rest) := by
  subst hn
  exact fun p l e s m args below meth c C H locs ls hP hS hl => va_get (C := RX12) (T := TX12) (N := 20) C.1 C.2.1 C.2.2.2.2.2.2.1 hin C.2.2.2.2.2.1 C.2.2.2.2.2.2.2.1.1 hP k (by rw [WL_get (kK_lt hk (by decide)), cel_8 hk]) rfl 7 (by decide) (C.2.2.2.2.2.2.1 _ hm) (fun _ h9 => h9) rfl d (kk p l e s m args below meth c C H locs ls hP hS hl)
theorem vp_8_7 (n : Nat) {k idx : Nat} {x : Int32} {β : Type} {K : Sg → β} {oo : β} (h : nam (stI σ k 7 x) K = oo) (hk : kK k = 8) (hin : ∀ w ∈ wsX120, w ∈ Ts) (hm : Cond.fieldLink own idx "WidowWeightModel" "at" "I" ∈ Ts) (d : decode cc pc = .ok (.putfield idx, 3)) (hn : pc + 3 = n) (kk : ∀ τ : Sg, K τ = oo → V g cc own Ts nL ret R ro σo τ n lv rest) : V g cc own Ts nL ret R ro σo σ pc lv (.int x :: .ref (g.1 k) :: rest) := by
  subst hn
  refine fun p l e s m args below meth c C H locs ls hP hS hl => va_put (C := RX12) (T := TX12) (N := 20) (ty := .int) C.1 C.2.1 C.2.2.2.2.2.2.1 hin tyX12 tyX12_ok nmX12 C.2.2.2.2.2.1 C.2.2.2.2.2.2.2.1.1 hP (WL_D C.2.2.2.2.2.2.2.2.2 σ) hS k (by rw [WL_get (kK_lt hk (by decide)), cel_8 hk]) rfl 7 (by decide) (C.2.2.2.2.2.2.1 _ hm) (fun _ h9 => h9) rfl (by decide +kernel) rfl rfl (Nat.le_of_ble_eq_true rfl) d (fun H1 locs1 hP1 hD1 hS1 => kk (stI σ k 7 x) h p l e s m args below meth c C H1 locs1 ls ?_ hS1 hl)
  rw [WL_set (τ := stI σ k 7 x) (kK_lt hk (by decide)) (by rw [cel_8 hk]; simp [rI_stI, rI_stL, rL_stI, rL_stL]) (stI_n _ _ _ _) (stI_2 _ _ _ _)] at hP1
  exact hP1
theorem vg_8_8 (n : Nat) {k idx : Nat} (hk : kK k = 8) (hin : ∀ w ∈ wsX120, w ∈ Ts) (hm : Cond.fieldLink own idx "WidowWeightModel" "start" "I" ∈ Ts) (d : decode cc pc = .ok (.getfield idx, 3)) (hn : pc + 3 = n) (kk : V g cc own Ts nL ret R ro σo σ n lv (.int (rI σ k 8) :: rest)) : V g cc own Ts nL ret R ro σo σ pc lv (.ref (g.1 k) :: rest) := by
  subst hn
  exact fun p l e s m args below meth c C H locs ls hP hS hl => va_get (C := RX12) (T := TX12) (N := 20) C.1 C.2.1 C.2.2.2.2.2.2.1 hin C.2.2.2.2.2.1 C.2.2.2.2.2.2.2.1.1 hP k (by rw [WL_get (kK_lt hk (by decide)), cel_8 hk]) rfl 8 (by decide) (C.2.2.2.2.2.2.1 _ hm) (fun _ h9 => h9) rfl d (kk p l e s m args below meth c C H locs ls hP hS hl)
theorem vp_8_8 (n : Nat) {k idx : Nat} {x : Int32} {β : Type} {K : Sg → β} {oo : β} (h : nam (stI σ k 8 x) K = oo) (hk : kK k = 8) (hin : ∀ w ∈ wsX120, w ∈ Ts) (hm : Cond.fieldLink own idx "WidowWeightModel" "start" "I" ∈ Ts) (d : decode cc pc = .ok (.putfield idx, 3)) (hn : pc + 3 = n) (kk : ∀ τ : Sg, K τ = oo → V g cc own Ts nL ret R ro σo τ n lv rest) : V g cc own Ts nL ret R ro σo σ pc lv (.int x :: .ref (g.1 k) :: rest) := by
  subst hn
  refine fun p l e s m args below meth c C H locs ls hP hS hl => va_put (C := RX12) (T := TX12) (N := 20) (ty := .int) C.1 C.2.1 C.2.2.2.2.2.2.1 hin tyX12 tyX12_ok nmX12 C.2.2.2.2.2.1 C.2.2.2.2.2.2.2.1.1 hP (WL_D C.2.2.2.2.2.2.2.2.2 σ) hS k (by rw [WL_get (kK_lt hk (by decide)), cel_8 hk]) rfl 8 (by decide) (C.2.2.2.2.2.2.1 _ hm) (fun _ h9 => h9) rfl (by decide +kernel) rfl rfl (Nat.le_of_ble_eq_true rfl) d (fun H1 locs1 hP1 hD1 hS1 => kk (stI σ k 8 x) h p l e s m args below meth c C H1 locs1 ls ?_ hS1 hl)
  rw [WL_set (τ := stI σ k 8 x) (kK_lt hk (by decide)) (by rw [cel_8 hk]; simp [rI_stI, rI_stL, rL_stI, rL_stL]) (stI_n _ _ _ _) (stI_2 _ _ _ _)] at hP1
  exact hP1
theorem vg_8_9 (n : Nat) {k idx : Nat} (hk : kK k = 8) (hin : ∀ w ∈ wsX120, w ∈ Ts) (hm : Cond.fieldLink own idx "WidowWeightModel" "number" "I" ∈ Ts) (d : decode cc pc = .ok (.getfield idx, 3)) (hn : pc + 3 = n) (kk : V g cc own Ts nL ret R ro σo σ n lv (.int (rI σ k 9) :: rest)) : V g cc own Ts nL ret R ro σo σ pc lv (.ref (g.1 k) :: rest) := by
  subst hn
  exact fun p l e s m args below meth c C H locs ls hP hS hl => va_get (C := RX12) (T := TX12) (N := 20) C.1 C.2.1 C.2.2.2.2.2.2.1 hin C.2.2.2.2.2.1 C.2.2.2.2.2.2.2.1.1 hP k (by rw [WL_get (kK_lt hk (by decide)), cel_8 hk]) rfl 9 (by decide) (C.2.2.2.2.2.2.1 _ hm) (fun _ h9 => h9) rfl d (kk p l e s m args below meth c C H locs ls hP hS hl)
theorem vp_8_9 (n : Nat) {k idx : Nat} {x : Int32} {β : Type} {K : Sg → β} {oo : β} (h : nam (stI σ k 9 x) K = oo) (hk : kK k = 8) (hin : ∀ w ∈ wsX120, w ∈ Ts) (hm : Cond.fieldLink own idx "WidowWeightModel" "number" "I" ∈ Ts) (d : decode cc pc = .ok (.putfield idx, 3)) (hn : pc + 3 = n) (kk : ∀ τ : Sg, K τ = oo → V g cc own Ts nL ret R ro σo τ n lv rest) : V g cc own Ts nL ret R ro σo σ pc lv (.int x :: .ref (g.1 k) :: rest) := by
  subst hn
  refine fun p l e s m args below meth c C H locs ls hP hS hl => va_put (C := RX12) (T := TX12) (N := 20) (ty := .int) C.1 C.2.1 C.2.2.2.2.2.2.1 hin tyX12 tyX12_ok nmX12 C.2.2.2.2.2.1 C.2.2.2.2.2.2.2.1.1 hP (WL_D C.2.2.2.2.2.2.2.2.2 σ) hS k (by rw [WL_get (kK_lt hk (by decide)), cel_8 hk]) rfl 9 (by decide) (C.2.2.2.2.2.2.1 _ hm) (fun _ h9 => h9) rfl (by decide +kernel) rfl rfl (Nat.le_of_ble_eq_true rfl) d (fun H1 locs1 hP1 hD1 hS1 => kk (stI σ k 9 x) h p l e s m args below meth c C H1 locs1 ls ?_ hS1 hl)
  rw [WL_set (τ := stI σ k 9 x) (kK_lt hk (by decide)) (by rw [cel_8 hk]; simp [rI_stI, rI_stL, rL_stI, rL_stL]) (stI_n _ _ _ _) (stI_2 _ _ _ _)] at hP1
  exact hP1
theorem vg_8_10 (n : Nat) {k idx : Nat} (hk : kK k = 8) (hin : ∀ w ∈ wsX120, w ∈ Ts) (hm : Cond.fieldLink own idx "WidowWeightModel" "used" "I" ∈ Ts) (d : decode cc pc = .ok (.getfield idx, 3)) (hn : pc + 3 = n) (kk : V g cc own Ts nL ret R ro σo σ n lv (.int (rI σ k 10) :: rest)) : V g cc own Ts nL ret R ro σo σ pc lv (.ref (g.1 k) :: rest) := by
  subst hn
  exact fun p l e s m args below meth c C H locs ls hP hS hl => va_get (C := RX12) (T := TX12) (N := 20) C.1 C.2.1 C.2.2.2.2.2.2.1 hin C.2.2.2.2.2.1 C.2.2.2.2.2.2.2.1.1 hP k (by rw [WL_get (kK_lt hk (by decide)), cel_8 hk]) rfl 10 (by decide) (C.2.2.2.2.2.2.1 _ hm) (fun _ h9 => h9) rfl d (kk p l e s m args below meth c C H locs ls hP hS hl)
theorem vp_8_10 (n : Nat) {k idx : Nat} {x : Int32} {β : Type} {K : Sg → β} {oo : β} (h : nam (stI σ k 10 x) K = oo) (hk : kK k = 8) (hin : ∀ w ∈ wsX120, w ∈ Ts) (hm : Cond.fieldLink own idx "WidowWeightModel" "used" "I" ∈ Ts) (d : decode cc pc = .ok (.putfield idx, 3)) (hn : pc + 3 = n) (kk : ∀ τ : Sg, K τ = oo → V g cc own Ts nL ret R ro σo τ n lv rest) : V g cc own Ts nL ret R ro σo σ pc lv (.int x :: .ref (g.1 k) :: rest) := by
  subst hn
  refine fun p l e s m args below meth c C H locs ls hP hS hl => va_put (C := RX12) (T := TX12) (N := 20) (ty := .int) C.1 C.2.1 C.2.2.2.2.2.2.1 hin tyX12 tyX12_ok nmX12 C.2.2.2.2.2.1 C.2.2.2.2.2.2.2.1.1 hP (WL_D C.2.2.2.2.2.2.2.2.2 σ) hS k (by rw [WL_get (kK_lt hk (by decide)), cel_8 hk]) rfl 10 (by decide) (C.2.2.2.2.2.2.1 _ hm) (fun _ h9 => h9) rfl (by decide +kernel) rfl rfl (Nat.le_of_ble_eq_true rfl) d (fun H1 locs1 hP1 hD1 hS1 => kk (stI σ k 10 x) h p l e s m args below meth c C H1 locs1 ls ?_ hS1 hl)
  rw [WL_set (τ := stI σ k 10 x) (kK_lt hk (by decide)) (by rw [cel_8 hk]; simp [rI_stI, rI_stL, rL_stI, rL_stL]) (stI_n _ _ _ _) (stI_2 _ _ _ _)] at hP1
  exact hP1
theorem vg_8_11 (n : Nat) {k idx : Nat} (hk : kK k = 8) (hin : ∀ w ∈ wsX120, w ∈ Ts) (hm : Cond.fieldLink own idx "WidowWeightModel" "mayUse" "Z" ∈ Ts) (d : decode cc pc = .ok (.getfield idx, 3)) (hn : pc + 3 = n) (kk : V g cc own Ts nL ret R ro σo σ n lv (.int (rI σ k 11) :: rest)) : V g cc own Ts nL ret R ro σo σ pc lv (.ref (g.1 k) :: rest) := by
  subst hn
  exact fun p l e s m args below meth c C H locs ls hP hS hl => va_get (C := RX12) (T := TX12) (N := 20) C.1 C.2.1 C.2.2.2.2.2.2.1 hin C.2.2.2.2.2.1 C.2.2.2.2.2.2.2.1.1 hP k (by rw [WL_get (kK_lt hk (by decide)), cel_8 hk]) rfl 11 (by decide) (C.2.2.2.2.2.2.1 _ hm) (fun _ h9 => h9) rfl d (kk p l e s m args below meth c C H locs ls hP hS hl)
theorem vp_8_11 (n : Nat) {k idx : Nat} {x : Int32} {β : Type} {K : Sg → β} {oo : β} (h : nam (stI σ k 11 x) K = oo) (hk : kK k = 8) (hin : ∀ w ∈ wsX120, w ∈ Ts) (hm : Cond.fieldLink own idx "WidowWeightModel" "mayUse" "Z" ∈ Ts) (hz : x = 0 ∨ x = 1) (d : decode cc pc = .ok (.putfield idx, 3)) (hn : pc + 3 = n) (kk : ∀ τ : Sg, K τ = oo → V g cc own Ts nL ret R ro σo τ n lv rest) : V g cc own Ts nL ret R ro σo σ pc lv (.int x :: .ref (g.1 k) :: rest) := by
  subst hn
  refine fun p l e s m args below meth c C H locs ls hP hS hl => va_put (C := RX12) (T := TX12) (N := 20) (ty := .boolean) C.1 C.2.1 C.2.2.2.2.2.2.1 hin tyX12 tyX12_ok nmX12 C.2.2.2.2.2.1 C.2.2.2.2.2.2.2.1.1 hP (WL_D C.2.2.2.2.2.2.2.2.2 σ) hS k (by rw [WL_get (kK_lt hk (by decide)), cel_8 hk]) rfl 11 (by decide) (C.2.2.2.2.2.2.1 _ hm) (fun _ h9 => h9) rfl (by decide +kernel) (by rcases hz with rfl | rfl <;> rfl) (by rcases hz with rfl | rfl <;> rfl) (Nat.le_of_ble_eq_true rfl) d (fun H1 locs1 hP1 hD1 hS1 => kk (stI σ k 11 x) h p l e s m args below meth c C H1 locs1 ls ?_ hS1 hl)
  rw [WL_set (τ := stI σ k 11 x) (kK_lt hk (by decide)) (by rw [cel_8 hk]; simp [rI_stI, rI_stL, rL_stI, rL_stL]) (stI_n _ _ _ _) (stI_2 _ _ _ _)] at hP1
  exact hP1
theorem vg_8_12 (n : Nat) {k idx : Nat} (hk : kK k = 8) (hin : ∀ w ∈ wsX120, w ∈ Ts) (hm : Cond.fieldLink own idx "WidowWeightModel" "byHeld" "I" ∈ Ts) (d : decode cc pc = .ok (.getfield idx, 3)) (hn : pc + 3 = n) (kk : V g cc own Ts nL ret R ro σo σ n lv (.int (rI σ k 12) :: rest)) : V g cc own Ts nL ret R ro σo σ pc lv (.ref (g.1 k) :: rest) := by
  subst hn
  exact fun p l e s m args below meth c C H locs ls hP hS hl => va_get (C := RX12) (T := TX12) (N := 20) C.1 C.2.1 C.2.2.2.2.2.2.1 hin C.2.2.2.2.2.1 C.2.2.2.2.2.2.2.1.1 hP k (by rw [WL_get (kK_lt hk (by decide)), cel_8 hk]) rfl 12 (by decide) (C.2.2.2.2.2.2.1 _ hm) (fun _ h9 => h9) rfl d (kk p l e s m args below meth c C H locs ls hP hS hl)
theorem vp_8_12 (n : Nat) {k idx : Nat} {x : Int32} {β : Type} {K : Sg → β} {oo : β} (h : nam (stI σ k 12 x) K = oo) (hk : kK k = 8) (hin : ∀ w ∈ wsX120, w ∈ Ts) (hm : Cond.fieldLink own idx "WidowWeightModel" "byHeld" "I" ∈ Ts) (d : decode cc pc = .ok (.putfield idx, 3)) (hn : pc + 3 = n) (kk : ∀ τ : Sg, K τ = oo → V g cc own Ts nL ret R ro σo τ n lv rest) : V g cc own Ts nL ret R ro σo σ pc lv (.int x :: .ref (g.1 k) :: rest) := by
  subst hn
  refine fun p l e s m args below meth c C H locs ls hP hS hl => va_put (C := RX12) (T := TX12) (N := 20) (ty := .int) C.1 C.2.1 C.2.2.2.2.2.2.1 hin tyX12 tyX12_ok nmX12 C.2.2.2.2.2.1 C.2.2.2.2.2.2.2.1.1 hP (WL_D C.2.2.2.2.2.2.2.2.2 σ) hS k (by rw [WL_get (kK_lt hk (by decide)), cel_8 hk]) rfl 12 (by decide) (C.2.2.2.2.2.2.1 _ hm) (fun _ h9 => h9) rfl (by decide +kernel) rfl rfl (Nat.le_of_ble_eq_true rfl) d (fun H1 locs1 hP1 hD1 hS1 => kk (stI σ k 12 x) h p l e s m args below meth c C H1 locs1 ls ?_ hS1 hl)
  rw [WL_set (τ := stI σ k 12 x) (kK_lt hk (by decide)) (by rw [cel_8 hk]; simp [rI_stI, rI_stL, rL_stI, rL_stL]) (stI_n _ _ _ _) (stI_2 _ _ _ _)] at hP1
  exact hP1
theorem vg_8_13 (n : Nat) {k idx : Nat} (hk : kK k = 8) (hin : ∀ w ∈ wsX120, w ∈ Ts) (hm : Cond.fieldLink own idx "WidowWeightModel" "inTruth" "I" ∈ Ts) (d : decode cc pc = .ok (.getfield idx, 3)) (hn : pc + 3 = n) (kk : V g cc own Ts nL ret R ro σo σ n lv (.int (rI σ k 13) :: rest)) : V g cc own Ts nL ret R ro σo σ pc lv (.ref (g.1 k) :: rest) := by
  subst hn
  exact fun p l e s m args below meth c C H locs ls hP hS hl => va_get (C := RX12) (T := TX12) (N := 20) C.1 C.2.1 C.2.2.2.2.2.2.1 hin C.2.2.2.2.2.1 C.2.2.2.2.2.2.2.1.1 hP k (by rw [WL_get (kK_lt hk (by decide)), cel_8 hk]) rfl 13 (by decide) (C.2.2.2.2.2.2.1 _ hm) (fun _ h9 => h9) rfl d (kk p l e s m args below meth c C H locs ls hP hS hl)
theorem vp_8_13 (n : Nat) {k idx : Nat} {x : Int32} {β : Type} {K : Sg → β} {oo : β} (h : nam (stI σ k 13 x) K = oo) (hk : kK k = 8) (hin : ∀ w ∈ wsX120, w ∈ Ts) (hm : Cond.fieldLink own idx "WidowWeightModel" "inTruth" "I" ∈ Ts) (d : decode cc pc = .ok (.putfield idx, 3)) (hn : pc + 3 = n) (kk : ∀ τ : Sg, K τ = oo → V g cc own Ts nL ret R ro σo τ n lv rest) : V g cc own Ts nL ret R ro σo σ pc lv (.int x :: .ref (g.1 k) :: rest) := by
  subst hn
  refine fun p l e s m args below meth c C H locs ls hP hS hl => va_put (C := RX12) (T := TX12) (N := 20) (ty := .int) C.1 C.2.1 C.2.2.2.2.2.2.1 hin tyX12 tyX12_ok nmX12 C.2.2.2.2.2.1 C.2.2.2.2.2.2.2.1.1 hP (WL_D C.2.2.2.2.2.2.2.2.2 σ) hS k (by rw [WL_get (kK_lt hk (by decide)), cel_8 hk]) rfl 13 (by decide) (C.2.2.2.2.2.2.1 _ hm) (fun _ h9 => h9) rfl (by decide +kernel) rfl rfl (Nat.le_of_ble_eq_true rfl) d (fun H1 locs1 hP1 hD1 hS1 => kk (stI σ k 13 x) h p l e s m args below meth c C H1 locs1 ls ?_ hS1 hl)
  rw [WL_set (τ := stI σ k 13 x) (kK_lt hk (by decide)) (by rw [cel_8 hk]; simp [rI_stI, rI_stL, rL_stI, rL_stL]) (stI_n _ _ _ _) (stI_2 _ _ _ _)] at hP1
  exact hP1
theorem vg_8_14 (n : Nat) {k idx : Nat} (hk : kK k = 8) (hin : ∀ w ∈ wsX120, w ∈ Ts) (hm : Cond.fieldLink own idx "WidowWeightModel" "tried" "[I" ∈ Ts) (d : decode cc pc = .ok (.getfield idx, 3)) (hn : pc + 3 = n) (kk : V g cc own Ts nL ret R ro σo σ n lv (.ref (g.1 117) :: rest)) : V g cc own Ts nL ret R ro σo σ pc lv (.ref (g.1 k) :: rest) := by
  subst hn
  exact fun p l e s m args below meth c C H locs ls hP hS hl => va_get (C := RX12) (T := TX12) (N := 20) C.1 C.2.1 C.2.2.2.2.2.2.1 hin C.2.2.2.2.2.1 C.2.2.2.2.2.2.2.1.1 hP k (by rw [WL_get (kK_lt hk (by decide)), cel_8 hk]) rfl 14 (by decide) (C.2.2.2.2.2.2.1 _ hm) (fun _ h9 => h9) rfl d (kk p l e s m args below meth c C H locs ls hP hS hl)
theorem vg_8_15 (n : Nat) {k idx : Nat} (hk : kK k = 8) (hin : ∀ w ∈ wsX120, w ∈ Ts) (hm : Cond.fieldLink own idx "WidowWeightModel" "hoursTo" "[I" ∈ Ts) (d : decode cc pc = .ok (.getfield idx, 3)) (hn : pc + 3 = n) (kk : V g cc own Ts nL ret R ro σo σ n lv (.ref (g.1 118) :: rest)) : V g cc own Ts nL ret R ro σo σ pc lv (.ref (g.1 k) :: rest) := by
  subst hn
  exact fun p l e s m args below meth c C H locs ls hP hS hl => va_get (C := RX12) (T := TX12) (N := 20) C.1 C.2.1 C.2.2.2.2.2.2.1 hin C.2.2.2.2.2.1 C.2.2.2.2.2.2.2.1.1 hP k (by rw [WL_get (kK_lt hk (by decide)), cel_8 hk]) rfl 15 (by decide) (C.2.2.2.2.2.2.1 _ hm) (fun _ h9 => h9) rfl d (kk p l e s m args below meth c C H locs ls hP hS hl)
theorem vg_8_16 (n : Nat) {k idx : Nat} (hk : kK k = 8) (hin : ∀ w ∈ wsX120, w ∈ Ts) (hm : Cond.fieldLink own idx "WidowWeightModel" "bestRow" "[I" ∈ Ts) (d : decode cc pc = .ok (.getfield idx, 3)) (hn : pc + 3 = n) (kk : V g cc own Ts nL ret R ro σo σ n lv (.ref (g.1 119) :: rest)) : V g cc own Ts nL ret R ro σo σ pc lv (.ref (g.1 k) :: rest) := by
  subst hn
  exact fun p l e s m args below meth c C H locs ls hP hS hl => va_get (C := RX12) (T := TX12) (N := 20) C.1 C.2.1 C.2.2.2.2.2.2.1 hin C.2.2.2.2.2.1 C.2.2.2.2.2.2.2.1.1 hP k (by rw [WL_get (kK_lt hk (by decide)), cel_8 hk]) rfl 16 (by decide) (C.2.2.2.2.2.2.1 _ hm) (fun _ h9 => h9) rfl d (kk p l e s m args below meth c C H locs ls hP hS hl)
theorem vg_8_17 (n : Nat) {k idx : Nat} (hk : kK k = 8) (hin : ∀ w ∈ wsX120, w ∈ Ts) (hm : Cond.fieldLink own idx "WidowWeightModel" "parts" "[I" ∈ Ts) (d : decode cc pc = .ok (.getfield idx, 3)) (hn : pc + 3 = n) (kk : V g cc own Ts nL ret R ro σo σ n lv (.ref (g.1 120) :: rest)) : V g cc own Ts nL ret R ro σo σ pc lv (.ref (g.1 k) :: rest) := by
  subst hn
  exact fun p l e s m args below meth c C H locs ls hP hS hl => va_get (C := RX12) (T := TX12) (N := 20) C.1 C.2.1 C.2.2.2.2.2.2.1 hin C.2.2.2.2.2.1 C.2.2.2.2.2.2.2.1.1 hP k (by rw [WL_get (kK_lt hk (by decide)), cel_8 hk]) rfl 17 (by decide) (C.2.2.2.2.2.2.1 _ hm) (fun _ h9 => h9) rfl d (kk p l e s m args below meth c C H locs ls hP hS hl)
theorem vg_8_18 (n : Nat) {k idx : Nat} (hk : kK k = 8) (hin : ∀ w ∈ wsX120, w ∈ Ts) (hm : Cond.fieldLink own idx "WidowWeightModel" "moods" "[I" ∈ Ts) (d : decode cc pc = .ok (.getfield idx, 3)) (hn : pc + 3 = n) (kk : V g cc own Ts nL ret R ro σo σ n lv (.ref (g.1 121) :: rest)) : V g cc own Ts nL ret R ro σo σ pc lv (.ref (g.1 k) :: rest) := by
  subst hn
  exact fun p l e s m args below meth c C H locs ls hP hS hl => va_get (C := RX12) (T := TX12) (N := 20) C.1 C.2.1 C.2.2.2.2.2.2.1 hin C.2.2.2.2.2.1 C.2.2.2.2.2.2.2.1.1 hP k (by rw [WL_get (kK_lt hk (by decide)), cel_8 hk]) rfl 18 (by decide) (C.2.2.2.2.2.2.1 _ hm) (fun _ h9 => h9) rfl d (kk p l e s m args below meth c C H locs ls hP hS hl)
theorem vg_8_19 (n : Nat) {k idx : Nat} (hk : kK k = 8) (hin : ∀ w ∈ wsX120, w ∈ Ts) (hm : Cond.fieldLink own idx "WidowWeightModel" "h" "J" ∈ Ts) (d : decode cc pc = .ok (.getfield idx, 3)) (hn : pc + 3 = n) (kk : V g cc own Ts nL ret R ro σo σ n lv (.long (rL σ k 19) :: rest)) : V g cc own Ts nL ret R ro σo σ pc lv (.ref (g.1 k) :: rest) := by
  subst hn
  exact fun p l e s m args below meth c C H locs ls hP hS hl => va_get (C := RX12) (T := TX12) (N := 20) C.1 C.2.1 C.2.2.2.2.2.2.1 hin C.2.2.2.2.2.1 C.2.2.2.2.2.2.2.1.1 hP k (by rw [WL_get (kK_lt hk (by decide)), cel_8 hk]) rfl 19 (by decide) (C.2.2.2.2.2.2.1 _ hm) (fun _ h9 => h9) rfl d (kk p l e s m args below meth c C H locs ls hP hS hl)
theorem vp_8_19 (n : Nat) {k idx : Nat} {x : Int64} {β : Type} {K : Sg → β} {oo : β} (h : nam (stL σ k 19 x) K = oo) (hk : kK k = 8) (hin : ∀ w ∈ wsX120, w ∈ Ts) (hm : Cond.fieldLink own idx "WidowWeightModel" "h" "J" ∈ Ts) (d : decode cc pc = .ok (.putfield idx, 3)) (hn : pc + 3 = n) (kk : ∀ τ : Sg, K τ = oo → V g cc own Ts nL ret R ro σo τ n lv rest) : V g cc own Ts nL ret R ro σo σ pc lv (.long x :: .ref (g.1 k) :: rest) := by
  subst hn
  refine fun p l e s m args below meth c C H locs ls hP hS hl => va_put (C := RX12) (T := TX12) (N := 20) (ty := .long) C.1 C.2.1 C.2.2.2.2.2.2.1 hin tyX12 tyX12_ok nmX12 C.2.2.2.2.2.1 C.2.2.2.2.2.2.2.1.1 hP (WL_D C.2.2.2.2.2.2.2.2.2 σ) hS k (by rw [WL_get (kK_lt hk (by decide)), cel_8 hk]) rfl 19 (by decide) (C.2.2.2.2.2.2.1 _ hm) (fun _ h9 => h9) rfl (by decide +kernel) rfl rfl (Nat.le_of_ble_eq_true rfl) d (fun H1 locs1 hP1 hD1 hS1 => kk (stL σ k 19 x) h p l e s m args below meth c C H1 locs1 ls ?_ hS1 hl)
  rw [WL_set (τ := stL σ k 19 x) (kK_lt hk (by decide)) (by rw [cel_8 hk]; simp [rI_stI, rI_stL, rL_stI, rL_stL]) (stL_2 _ _ _ _) (stL_n _ _ _ _)] at hP1
  exact hP1
theorem v_qend {g : Cx} {σ : Sg} {s t : State} {H : Heap} {locs : List Loc} {r : Option Value} {args : Array Value} (hG : GK g s) (hX : XF g s s.heap) (hj : Inj g) (hP : va_P g.2.1 vwCl (WL g σ) H) (hS : va_S (Aw g) s.heap H locs) (ht : t.heap = H) (hW : s.WarmedH t.vm) : QF g r σ args s (.returned r) t := ⟨rfl, ⟨GK.warm hW hG, by rw [ht]; exact XF.moved hW.alike (hX.kept hS.2.1), hj, by rw [ht]; exact hP⟩, hS.F ht⟩
theorem v_iret {v : Int32} (hr : ret = some .int) (d : decode cc pc = .ok (.ireturn, 1)) : V g cc own Ts nL ret R (some (.int v)) σ σ pc lv [.int v] := fun p l e s m args below meth c C H locs ls hP hS hl => W.iret C.1 C.2.1 (C.2.2.2.1.trans hr) (fun t ht hW => v_qend C.2.2.2.2.2.2.2.1 C.2.2.2.2.2.2.2.2.1 C.2.2.2.2.2.2.2.2.2 hP hS ht hW) hS.2.2 d C.2.2.2.2.1
theorem v_nret {v : Int32} {ty : FieldType} (hr : ret = some ty) (hnar : narrow ty (.int v) = .int v) (d : decode cc pc = .ok (.ireturn, 1)) : V g cc own Ts nL ret R (some (.int v)) σ σ pc lv [.int v] := fun p l e s m args below meth c C H locs ls hP hS hl => W.zret C.1 C.2.1 (C.2.2.2.1.trans hr) hnar (fun t ht hW => v_qend C.2.2.2.2.2.2.2.1 C.2.2.2.2.2.2.2.2.1 C.2.2.2.2.2.2.2.2.2 hP hS ht hW) hS.2.2 d C.2.2.2.2.1
theorem v_zret {v : Int32} (hr : ret = some .boolean) (hb : v = 0 ∨ v = 1) (d : decode cc pc = .ok (.ireturn, 1)) : V g cc own Ts nL ret R (some (.int v)) σ σ pc lv [.int v] := v_nret hr (by rcases hb with rfl | rfl <;> rfl) d
theorem v_lret {v : Int64} (hr : ret = some .long) (d : decode cc pc = .ok (.lreturn, 1)) : V g cc own Ts nL ret R (some (.long v)) σ σ pc lv [.long v] := fun p l e s m args below meth c C H locs ls hP hS hl => W.lret C.1 C.2.1 (C.2.2.2.1.trans hr) (fun t ht hW => v_qend C.2.2.2.2.2.2.2.1 C.2.2.2.2.2.2.2.2.1 C.2.2.2.2.2.2.2.2.2 hP hS ht hW) hS.2.2 d C.2.2.2.2.1
theorem v_vret (hr : ret = none) (d : decode cc pc = .ok (.return_, 1)) : V g cc own Ts nL ret R none σ σ pc lv [] := fun p l e s m args below meth c C H locs ls hP hS hl => W.vret C.1 C.2.1 (C.2.2.2.1.trans hr) (fun t ht hW => v_qend C.2.2.2.2.2.2.2.1 C.2.2.2.2.2.2.2.2.1 C.2.2.2.2.2.2.2.2.2 hP hS ht hW) hS.2.2 d C.2.2.2.2.1
theorem v_aret {v : Nat} {C0 : String} (hr : ret = some (.object C0)) (d : decode cc pc = .ok (.areturn, 1)) : V g cc own Ts nL ret R (some (.ref v)) σ σ pc lv [.ref v] := fun p l e s m args below meth c C H locs ls hP hS hl => W.aret C.1 C.2.1 (C.2.2.2.1.trans hr) (Or.inl ⟨_, rfl⟩) (Or.inr ⟨_, rfl⟩) (fun t ht hW => v_qend C.2.2.2.2.2.2.2.1 C.2.2.2.2.2.2.2.2.1 C.2.2.2.2.2.2.2.2.2 hP hS ht hW) hS.2.2 d C.2.2.2.2.1
theorem q_call {p : Program} {l : Launch} {e : Env} {s : State} {m : MethodId} {args : Array Value} {below : List Frame} {meth : Method} {c : Code} {H H0 : Heap} {locs : List Loc} {Q : State → Prop} {ls : Array Slot} {st0 : List Value} {a : Array Value} {r : Option Value} {τ : Sg} (hr : va_Run p l e R s m args below meth c H locs 0 0 0 0 (F0 m pc ls st0) rest (QF g r τ a) (Aw g)) (hS : va_S (Aw g) H0 H locs) (kk : ∀ (H1 : Heap) (locs1 : List Loc), va_P g.2.1 vwCl (WL g τ) H1 → va_S (Aw g) H0 H1 locs1 → W p l e R s m args below meth c H1 locs1 0 0 Q (F0 m (pc + 3) ls (r.toList ++ rest))) : W p l e R s m args below meth c H locs 0 0 Q (F0 m pc ls st0) := by
  intro T hT X
  obtain ⟨v, st₀, t, T', L, h0, X', hL, e1, e2, ⟨hv, ⟨-, -, -, hP⟩, hz, hk⟩, st⟩ := hr T hT X
  cases hv
  rw [h0] at hz hk
  obtain ⟨t2, a1, b1⟩ := kk T'.heap (locs ++ L) (by rw [e1]; exact hP) ⟨Nat.le_trans hS.1 (by rw [e1]; exact hz), fun q h1 h2 => by rw [e1, hk q (Nat.lt_of_lt_of_le h1 hS.1) h2]; exact hS.2.1 q h1 h2, fun q hq => by
      rcases List.mem_append.mp hq with h | h
      · exact hS.2.2 q h
      · exact hL q h⟩ T' rfl X'
  exact ⟨t2, st t2 a1, b1⟩
/-- what a call wants of a method, whoever calls it -/
def Cl (y : MethodName) (ws : List Cond) (bytes : ByteArray) (maxL : Nat) (rt : Option FieldType) (rm : Room) (na : Nat) : Prop := (∃ ws' : List Cond, ws = Cond.code y bytes maxL rt :: ws') ∧ rm.cells = 0 ∧ rm.slots = 0 ∧ y.cls ≠ "java/lang/invoke/MethodHandle" ∧ y.cls ≠ "java/lang/invoke/VarHandle" ∧ (parseMethodDescriptor y.desc).map (fun d => d.parameters.length) = some na
theorem v_pre {σ : Sg} {s : State} {H : Heap} {locs : List Loc} {As : List Value} (hG : GK g s) (hX : XF g s s.heap) (hj : Inj g) (hP : va_P g.2.1 vwCl (WL g σ) H) (hS : va_S (Aw g) s.heap H locs) : ∀ U : State, U.heap = H → s.WarmedH U.vm → (va_Pc As (GW g σ)) As.toArray U := fun U hU hW => ⟨rfl, GK.warm hW hG, by rw [hU]; exact XF.moved hW.alike (hX.kept hS.2.1), hj, by rw [hU]; exact hP⟩
theorem v_cS (n : Nat) {idx na maxL : Nat} {y : MethodName} {ws : List Cond} {bytes : ByteArray} {rt : Option FieldType} {rm : Room} (As : List Value) {st : List Value} {r : Option Value} {τ : Sg} (hM : ∀ l, MetF l y ws rm g As σ r τ) (hc : Cl y ws bytes maxL rt rm na) (hT : GoodIn Ts (va_wsS own idx y ws)) (hR : rm.frames + 1 ≤ R.frames ∧ 8 + (maxL + 11) + rm.locals ≤ R.locals) (hna : As.length = na) (hst : st = As.reverse ++ rest) (hro : (rest.map fun v => v.category).sum ≤ 8) (d : decode cc pc = .ok (.invokestatic idx, 3)) (hn : pc + 3 = n) (kk : V g cc own Ts nL ret R ro σo τ n lv (r.toList ++ rest)) : V g cc own Ts nL ret R ro σo σ pc lv st := by
  subst hn
  subst hst
  obtain ⟨⟨ws', hw⟩, h1, h2, h3, h4, h5⟩ := hc
  exact fun p l e s m args below meth c C H locs ls hP hS hl => q_call (va_runS (As := As) (rest := rest) ⟨C.1, C.2.1, C.2.2.1, C.2.2.2.2.2.1, C.2.2.2.2.2.2.1⟩ (hM l) (va_cwS na C.2.2.2.2.2.2.1 hT hw h1 h2 ⟨h3, h4, h5⟩ hR) ⟨GW.blind, v_pre C.2.2.2.2.2.2.2.1 C.2.2.2.2.2.2.2.2.1 C.2.2.2.2.2.2.2.2.2 hP hS⟩ rfl hna hl.1 rfl (lv_room hro) d ⟨Nat.zero_le _, Nat.zero_le _⟩) hS (fun H1 locs1 hP1 hS1 => kk p l e s m args below meth c C H1 locs1 ls hP1 hS1 hl)
theorem v_cN (n : Nat) {idx na maxL : Nat} {y : MethodName} {ws : List Cond} {bytes : ByteArray} {rt : Option FieldType} {rm : Room} {host : String} (As : List Value) {st : List Value} {r : Option Value} {τ : Sg} (hM : ∀ l, MetF l y ws rm g As σ r τ) (hc : Cl y ws bytes maxL rt rm na) (hT : GoodIn Ts ws) (hNw : Cond.methodLinkNest own idx y host ∈ nestW) (hst1 : Cond.static y ∈ Ts) (hini : Cond.initialized y.cls ∈ Ts) (hR : rm.frames + 1 ≤ R.frames ∧ 8 + (maxL + 11) + rm.locals ≤ R.locals) (hna : As.length = na) (hst : st = As.reverse ++ rest) (hro : (rest.map fun v => v.category).sum ≤ 8) (d : decode cc pc = .ok (.invokestatic idx, 3)) (hn : pc + 3 = n) (kk : V g cc own Ts nL ret R ro σo τ n lv (r.toList ++ rest)) : V g cc own Ts nL ret R ro σo σ pc lv st := by
  subst hn
  subst hst
  obtain ⟨⟨ws', hw⟩, h1, h2, h3, h4, h5⟩ := hc
  exact fun p l e s m args below meth c C H locs ls hP hS hl => q_call (va_runSN (As := As) (rest := rest) ⟨C.1, C.2.1, C.2.2.1, C.2.2.2.2.2.1, C.2.2.2.2.2.2.1⟩ (hM l) ⟨va_cnB na C.2.2.2.2.2.2.1 hT hw h1 h2 (C.2.2.2.2.2.2.2.1.2.1 _ hNw) (C.2.2.2.2.2.2.1 _ hini) ⟨h3, h4, h5⟩ hR, C.2.2.2.2.2.2.1 _ hst1, trivial⟩ ⟨GW.blind, v_pre C.2.2.2.2.2.2.2.1 C.2.2.2.2.2.2.2.2.1 C.2.2.2.2.2.2.2.2.2 hP hS⟩ rfl hna hl.1 rfl (lv_room hro) d ⟨Nat.zero_le _, Nat.zero_le _⟩) hS (fun H1 locs1 hP1 hS1 => kk p l e s m args below meth c C H1 locs1 ls hP1 hS1 hl)
theorem v_cV (n ci : Nat) {k idx na maxL : Nat} {q : vw_C} {y : MethodName} {ws : List Cond} {bytes : ByteArray} {rt : Option FieldType} {rm : Room} (As : List Value) {st : List Value} {r : Option Value} {τ : Sg} (hk : kK k = ci) (hci : vwCl[ci]? = some q) (hM : ∀ l, MetF l y ws rm g (.ref (g.1 k) :: As) σ r τ) (hc : Cl y ws bytes maxL rt rm na) (hT : GoodIn Ts (wsV own idx q.1 y ws)) (hy : y.cls = q.1) (hR : rm.frames + 1 ≤ R.frames ∧ 8 + (maxL + 11) + rm.locals ≤ R.locals) (hna : As.length = na) (hst : st = As.reverse ++ .ref (g.1 k) :: rest) (hro : (rest.map fun v => v.category).sum ≤ 8) (d : decode cc pc = .ok (.invokevirtual idx, 3)) (hn : pc + 3 = n) (kk : V g cc own Ts nL ret R ro σo τ n lv (r.toList ++ rest)) : V g cc own Ts nL ret R ro σo σ pc lv st := by
  subst hn
  subst hst
  obtain ⟨⟨ws', hw⟩, h1, h2, h3, h4, h5⟩ := hc
  have hlt : ci < 9 := by
    have := (List.getElem?_eq_some_iff.mp hci).1
    exact this
  have hcel : ∀ σ, ∃ fs, cel g σ k = .inr (ci, fs) := by
    intro σ
    match ci, hlt, hk with
    | 0, _, hk => exact ⟨_, cel_0 hk⟩
    | 1, _, hk => exact ⟨_, cel_1 hk⟩
    | 2, _, hk => exact ⟨_, cel_2 hk⟩
    | 3, _, hk => exact ⟨_, cel_3 hk⟩
    | 4, _, hk => exact ⟨_, cel_4 hk⟩
    | 5, _, hk => exact ⟨_, cel_5 hk⟩
    | 6, _, hk => exact ⟨_, cel_6 hk⟩
    | 7, _, hk => exact ⟨_, cel_7 hk⟩
    | 8, _, hk => exact ⟨_, cel_8 hk⟩
  obtain ⟨fs, hf⟩ := hcel σ
  have hk2 : k < 122 := kK_lt hk (by omega)
  exact fun p l e s m args below meth c C H locs ls hP hS hl => q_call (va_runV (As := As) (rest := rest) ⟨C.1, C.2.1, C.2.2.1, C.2.2.2.2.2.1, C.2.2.2.2.2.2.1⟩ (hM l) (cwV na C.2.2.2.2.2.2.1 hT hw h1 h2 ⟨hy, h3, h4, h5⟩ hR) ⟨GW.blind, va_recv C.2.2.2.2.2.2.2.1.1 hP (ci := ci) (q0 := k) hci (by rw [WL_get hk2, hf]), v_pre C.2.2.2.2.2.2.2.1 C.2.2.2.2.2.2.2.2.1 C.2.2.2.2.2.2.2.2.2 hP hS⟩ rfl hna hl.1 rfl (lv_room hro) d ⟨Nat.zero_le _, Nat.zero_le _⟩) hS (fun H1 locs1 hP1 hS1 => kk p l e s m args below meth c C H1 locs1 ls hP1 hS1 hl)
theorem v_max (n : Nat) {idx : Nat} {x y : Int32} (hw0 : .methodLink own idx Lib.Math.max.name ∈ Ts) (hw1 : .static Lib.Math.max.name ∈ Ts) (hw2 : .initialized "java/lang/Math" ∈ Ts) (hw3 : .code Lib.Math.max.name Lib.Math.max.code 2 (some .int) ∈ Ts) (hR : 1 ≤ R.frames ∧ 21 ≤ R.locals) (hro : (rest.map fun v => v.category).sum ≤ 8) (d : decode cc pc = .ok (.invokestatic idx, 3)) (hn : pc + 3 = n) (kk : V g cc own Ts nL ret R ro σo σ n lv (.int (if x < y then y else x) :: rest)) : V g cc own Ts nL ret R ro σo σ pc lv (.int y :: .int x :: rest) := by
  subst hn
  exact fun p l e s m args below meth c C H locs ls hP hS hl => va_mmax C.1 C.2.1 (C.2.2.1.trans hl.1.symm) C.2.2.2.2.2.1 (C.2.2.2.2.2.2.1 _ hw0) (C.2.2.2.2.2.2.1 _ hw1) (C.2.2.2.2.2.2.1 _ hw2) (C.2.2.2.2.2.2.1 _ hw3) hR.1 (by omega) (Nat.zero_le _) (Nat.zero_le _) d (kk p l e s m args below meth c C H locs ls hP hS hl)
theorem v_min (n : Nat) {idx : Nat} {x y : Int32} (hw0 : .methodLink own idx Lib.Math.min.name ∈ Ts) (hw1 : .static Lib.Math.min.name ∈ Ts) (hw2 : .initialized "java/lang/Math" ∈ Ts) (hw3 : .code Lib.Math.min.name Lib.Math.min.code 2 (some .int) ∈ Ts) (hR : 1 ≤ R.frames ∧ 21 ≤ R.locals) (hro : (rest.map fun v => v.category).sum ≤ 8) (d : decode cc pc = .ok (.invokestatic idx, 3)) (hn : pc + 3 = n) (kk : V g cc own Ts nL ret R ro σo σ n lv (.int (if y < x then y else x) :: rest)) : V g cc own Ts nL ret R ro σo σ pc lv (.int y :: .int x :: rest) := by
  subst hn
  exact fun p l e s m args below meth c C H locs ls hP hS hl => va_mmin C.1 C.2.1 (C.2.2.1.trans hl.1.symm) C.2.2.2.2.2.1 (C.2.2.2.2.2.2.1 _ hw0) (C.2.2.2.2.2.2.1 _ hw1) (C.2.2.2.2.2.2.1 _ hw2) (C.2.2.2.2.2.2.1 _ hw3) hR.1 (by omega) (Nat.zero_le _) (Nat.zero_le _) d (kk p l e s m args below meth c C H locs ls hP hS hl)
theorem v_abs (n : Nat) {idx : Nat} {x : Int32} (hw0 : .methodLink own idx Lib.Math.abs.name ∈ Ts) (hw1 : .static Lib.Math.abs.name ∈ Ts) (hw2 : .initialized "java/lang/Math" ∈ Ts) (hw3 : .code Lib.Math.abs.name Lib.Math.abs.code 1 (some .int) ∈ Ts) (hR : 1 ≤ R.frames ∧ 21 ≤ R.locals) (hro : (rest.map fun v => v.category).sum ≤ 8) (d : decode cc pc = .ok (.invokestatic idx, 3)) (hn : pc + 3 = n) (kk : V g cc own Ts nL ret R ro σo σ n lv (.int (if 0 ≤ x then x else 0 - x) :: rest)) : V g cc own Ts nL ret R ro σo σ pc lv (.int x :: rest) := by
  subst hn
  exact fun p l e s m args below meth c C H locs ls hP hS hl => va_mabs C.1 C.2.1 (C.2.2.1.trans hl.1.symm) C.2.2.2.2.2.1 (C.2.2.2.2.2.2.1 _ hw0) (C.2.2.2.2.2.2.1 _ hw1) (C.2.2.2.2.2.2.1 _ hw2) (C.2.2.2.2.2.2.1 _ hw3) hR.1 (by omega) (Nat.zero_le _) (Nat.zero_le _) d (kk p l e s m args below meth c C H locs ls hP hS hl)
theorem ob {α β : Type} {x : Option α} {K : α → Option β} {oo : β} (h : x.bind K = some oo) : ∃ a, x = some a ∧ K a = some oo := Option.bind_eq_some_iff.mp h
/-- a contract out of the walk -/
theorem MetF.of {y : MethodName} {ws : List Cond} {rm : Room} {bytes : ByteArray} {maxL na : Nat} {rt : Option FieldType} {av : List Value} {lv0 : List (Nat × Value)} {r : Option Value} {τ : Sg} {own0 : String} (ho : y.cls = own0) (hc : Cl y ws bytes maxL rt rm na) (hy : plainName y.cls = true) (hlen : (lg_sl av).length ≤ maxL) (hlv : lv_args 0 av = lv0) (kk : V g bytes own0 ws maxL rt rm r τ σ 0 lv0 []) : ∀ l, MetF l y ws rm g av σ r τ := by
  intro l
  subst ho
  obtain ⟨⟨ws', hw⟩, h1, h2, -⟩ := hc
  subst hlv
  refine Met.ofW (cc := bytes) (maxL := maxL) (ret := rt) hy hw ?_
  intro p e s m args below meth c s₁ B hml hv
  obtain ⟨rfl, hG, hX, hj, hP⟩ := hv
  have hl := lv_entry av (n := maxL) hlen
  rw [lg_entry_eq]
  exact kk p l e s m _ below meth c ⟨B.exec, B.bytes, hml, B.returns, B.notSynchronized, findClass_of_methodNamed B.named, atoms_spec (ws := ws) B.pre, hG, hX, hj⟩ s.heap [] _ hP va_S.rf hl
theorem mem_at {ws : List Cond} (i : Nat) {w : Cond} (h : ws[i]? = some w) : w ∈ ws := List.mem_of_getElem? h
theorem ne_lit {x z : Int32} {n : Int} (h : ¬ x = z) (hz : z.toInt = n) : x.toInt ≠ n := fun q => h (Int32.toInt_inj.mp (q.trans hz.symm))
def bnd {α β γ : Type} (x : Option (α × β)) (K : α → β → Option γ) : Option γ := x.bind (fun q => K q.1 q.2)
theorem ob2 {α β γ : Type} {x : Option (α × β)} {K : α → β → Option γ} {oo : γ} (h : bnd x K = some oo) : ∃ a b, x = some (a, b) ∧ K a b = some oo := by
  obtain ⟨q, h1, h2⟩ := Option.bind_eq_some_iff.mp h
  exact ⟨q.1, q.2, h1, h2⟩
theorem bnd_some {α β γ : Type} (a : α) (b : β) (K : α → β → Option γ) : bnd (some (a, b)) K = K a b := rfl
theorem v_namI {x : Int32} {β : Type} {K : Int32 → β} {oo : β} (h : nam x K = oo) (kk : ∀ y : Int32, K y = oo → V g cc own Ts nL ret R ro σo σ pc lv (.int y :: rest)) : V g cc own Ts nL ret R ro σo σ pc lv (.int x :: rest) := kk x h
theorem v_iretT {v r : Int32} (h : v = r) (hr : ret = some .int) (d : decode cc pc = .ok (.ireturn, 1)) : V g cc own Ts nL ret R (some (.int r)) σ σ pc lv [.int v] := by subst h; exact v_iret hr d
theorem v_iretP {v r : Int32} (h : some v = some r) (hr : ret = some .int) (d : decode cc pc = .ok (.ireturn, 1)) : V g cc own Ts nL ret R (some (.int r)) σ σ pc lv [.int v] := by cases h; exact v_iret hr d
theorem v_iretS {v r : Int32} {τ : Sg} (h : some (v, σ) = some (r, τ)) (hr : ret = some .int) (d : decode cc pc = .ok (.ireturn, 1)) : V g cc own Ts nL ret R (some (.int r)) τ σ pc lv [.int v] := by cases h; exact v_iret hr d
theorem v_zretT {v r : Int32} (h : v = r) (hr : ret = some .boolean) (hb : v = 0 ∨ v = 1) (d : decode cc pc = .ok (.ireturn, 1)) : V g cc own Ts nL ret R (some (.int r)) σ σ pc lv [.int v] := by subst h; exact v_zret hr hb d
theorem v_zretP {v r : Int32} (h : some v = some r) (hr : ret = some .boolean) (hb : v = 0 ∨ v = 1) (d : decode cc pc = .ok (.ireturn, 1)) : V g cc own Ts nL ret R (some (.int r)) σ σ pc lv [.int v] := by cases h; exact v_zret hr hb d
theorem v_zretS {v r : Int32} {τ : Sg} (h : some (v, σ) = some (r, τ)) (hr : ret = some .boolean) (hb : v = 0 ∨ v = 1) (d : decode cc pc = .ok (.ireturn, 1)) : V g cc own Ts nL ret R (some (.int r)) τ σ pc lv [.int v] := by cases h; exact v_zret hr hb d
theorem v_zretPc {v r : Int32} (h : (if v = 0 ∨ v = 1 then some v else none) = some r) (hr : ret = some .boolean) (d : decode cc pc = .ok (.ireturn, 1)) : V g cc own Ts nL ret R (some (.int r)) σ σ pc lv [.int v] := v_ite h (fun q h => v_zretP h hr q d) (fun _ h => by cases h)
theorem v_zretSc {v r : Int32} {τ : Sg} (h : (if v = 0 ∨ v = 1 then some (v, σ) else none) = some (r, τ)) (hr : ret = some .boolean) (d : decode cc pc = .ok (.ireturn, 1)) : V g cc own Ts nL ret R (some (.int r)) τ σ pc lv [.int v] := v_ite h (fun q h => v_zretS h hr q d) (fun _ h => by cases h)
theorem v_lretT {v r : Int64} (h : v = r) (hr : ret = some .long) (d : decode cc pc = .ok (.lreturn, 1)) : V g cc own Ts nL ret R (some (.long r)) σ σ pc lv [.long v] := by subst h; exact v_lret hr d
theorem v_lretP {v r : Int64} (h : some v = some r) (hr : ret = some .long) (d : decode cc pc = .ok (.lreturn, 1)) : V g cc own Ts nL ret R (some (.long r)) σ σ pc lv [.long v] := by cases h; exact v_lret hr d
theorem v_lretS {v r : Int64} {τ : Sg} (h : some (v, σ) = some (r, τ)) (hr : ret = some .long) (d : decode cc pc = .ok (.lreturn, 1)) : V g cc own Ts nL ret R (some (.long r)) τ σ pc lv [.long v] := by cases h; exact v_lret hr d
theorem v_vretS {τ : Sg} (h : some σ = some τ) (hr : ret = none) (d : decode cc pc = .ok (.return_, 1)) : V g cc own Ts nL ret R none τ σ pc lv [] := by cases h; exact v_vret hr d
theorem v_idivC (n : Nat) {x y : Int32} {γ : Type} {A : Option γ} {oo : γ} (h : (if y = 0 then none else A) = some oo) (d : decode cc pc = .ok (.idiv, 1)) (hn : pc + 1 = n) (kk : A = some oo → V g cc own Ts nL ret R ro σo σ n lv (.int (x / y) :: rest)) : V g cc own Ts nL ret R ro σo σ pc lv (.int y :: .int x :: rest) := v_ite h (fun _ h => by cases h) (fun q h => v_idiv n q d hn (kk h))
theorem v_ldivC (n : Nat) {x y : Int64} {γ : Type} {A : Option γ} {oo : γ} (h : (if y = 0 then none else A) = some oo) (d : decode cc pc = .ok (.ldiv, 1)) (hn : pc + 1 = n) (kk : A = some oo → V g cc own Ts nL ret R ro σo σ n lv (.long (x / y) :: rest)) : V g cc own Ts nL ret R ro σo σ pc lv (.long y :: .long x :: rest) := v_ite h (fun _ h => by cases h) (fun q h => v_ldiv n q d hn (kk h))
theorem v_lremC (n : Nat) {x y : Int64} {γ : Type} {A : Option γ} {oo : γ} (h : (if y = 0 then none else A) = some oo) (d : decode cc pc = .ok (.lrem, 1)) (hn : pc + 1 = n) (kk : A = some oo → V g cc own Ts nL ret R ro σo σ n lv (.long (x - x / y * y) :: rest)) : V g cc own Ts nL ret R ro σo σ pc lv (.long y :: .long x :: rest) := v_ite h (fun _ h => by cases h) (fun q h => v_lrem n q d hn (kk h))

end VROWS
