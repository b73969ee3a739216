/-! ===== lift ===== -/
theorem has_one : ∀ i, i < 7 → ∀ k, k < 7 → f_X12_has (1 <<< (nI i &&& 31)) (nI k) = if k = i then 1 else 0 := by decide +kernel
theorem or_add0 : ∀ x, x < 128 → ∀ y, y < 128 → (nI x ||| nI y = 0 ↔ nI x + nI y = 0) := by decide +kernel
theorem sm_one (f : Nat → Int32) {i n : Nat} (hi : i < n) (hn : n ≤ 7) : sm f (1 <<< (nI i &&& 31)) n = f i := by
  have := fo_inv (st := smS f (1 <<< (nI i &&& 31))) (fun k s => s = if i < k then f i else 0) n 0 0 (if_neg (by omega)).symm (fun j x h1 h2 hx => by
    show smS f (1 <<< (nI i &&& 31)) j x = if i < j + 1 then f i else 0
    unfold smS
    rw [has_one i (by omega) j (by omega), hx]
    by_cases q : j = i
    · subst q
      rw [if_pos rfl, if_neg (by decide), if_neg (by omega), if_pos (by omega), Int32.zero_add]
    · rw [if_neg q, if_pos rfl]
      by_cases w : i < j
      · rw [if_pos w, if_pos (by omega)]
      · rw [if_neg w, if_neg (by omega)])
  exact this.trans (if_pos (by omega))
def pS (g : Nat → Int32) (i j : Nat) (b : Int32) : Nat → Int32 := fun k => f_X12_trueTip (g (25 + i) + (if k = i then b else 0)) (g (25 + j) + (if k = j then b else 0))
theorem tiG_one (g : Nat → Int32) {n i j k : Nat} (b : Int32) (hn : n ≤ 7) (hi : i < n) (hj : j < n) (hk : k < 7) : tiG g n (1 <<< (nI i &&& 31)) (1 <<< (nI j &&& 31)) k b = pS g i j b k := by
  have hb : ∀ x, x < 7 → (if f_X12_has (1 <<< (nI x &&& 31)) (nI k) = 0 then (0 : Int32) else b) = if k = x then b else 0 := fun x hx => by
    rw [has_one x hx k hk]
    by_cases q : k = x
    · rw [if_pos q, if_pos q, if_neg (by decide)]
    · rw [if_neg q, if_neg q, if_pos rfl]
  unfold tiG pS
  rw [sm_one _ hi hn, sm_one _ hj hn, hb i (by omega), hb j (by omega)]
theorem tipsC {a i j : Nat} {g : Nat → Int32} (s b : Int32) (ha : a ≤ 7) (hi : i < a) (hj : j < a) : ∀ (t k fu : Nat) (σ : Sg) (L : List Int32), t + k = a → t < fu → rowIs σ 6 a (fun j => g (25 + j)) → rI σ 2 1 = nI a → PI σ L → L.length + t ≤ 14 → ∃ τ, b_X1_addTips_3 1 s b (nI i) (nI j) fu σ (nI k) = some τ ∧ PI τ (fo (wL (pS g i j b) s) k t L) ∧ Only 107 112 σ τ := by
  intro t
  induction t with
  | zero =>
    intro k fu σ L ht hf hr h2 h hL
    obtain ⟨fu, rfl⟩ : ∃ q, fu = q + 1 := ⟨fu - 1, by omega⟩
    refine ⟨σ, ?_, h, Only.rf⟩
    rw [b_X1_addTips_3, show f_X3_keeperCount σ 1 = nI a from h2, if_pos (nI_le (by omega) (by omega))]
  | succ t ih =>
    intro k fu σ L ht hf hr h2 h hL
    obtain ⟨fu, rfl⟩ : ∃ q, fu = q + 1 := ⟨fu - 1, by omega⟩
    rw [b_X1_addTips_3, show f_X3_keeperCount σ 1 = nI a from h2, if_neg (nI_ge (by omega) (by omega)), hasBit_has _ (by omega), fo_s]
    unfold b_X1_addTips_43
    simp only [nam_e, nI_1]
    by_cases q : f_X12_has s (nI k) = 0
    · rw [if_pos q, show wL (pS g i j b) s k L = L from if_pos q]
      exact ih (k + 1) fu σ L (by omega) (by omega) hr h2 h (by omega)
    · obtain ⟨s1, a1, b1, c1⟩ := parts_add (pS g i j b k) h (by omega)
      obtain ⟨τ, k1, k2, k3⟩ := ih (k + 1) fu s1 (pS g i j b k :: L) (by omega) (by omega) (hr.keep c1 (by omega)) (by rw [(c1 2 (by omega)).1]; exact h2) b1 (by rw [List.length_cons]; omega)
      have et : f_X1_tipIfOff σ (1 + 5) (1 <<< (nI i &&& 31)) (1 <<< (nI j &&& 31)) (nI k) b = some (pS g i j b k) := by
        rw [← tiG_one g b ha hi hj (show k < 7 by omega)]
        exact ti_c (k0 := 6) hr ha (by omega) _ _ b
      rw [if_neg q, show wL (pS g i j b) s k L = pS g i j b k :: L from if_neg q, et, ob_some, a1, ob_some]
      exact ⟨τ, k1, k2, c1.trans k3⟩
/-- what the pair i, j leaves at worst -/
def lL (g : Nat → Int32) (a : Nat) (x y : Int32) (i j : Nat) : List Int32 := fo (wL (pS g i j 1) y) 0 a (fo (wL (pS g i j (-1)) x) 0 a [])
def oP (g : Nat → Int32) (a : Nat) (x y : Int32) (i : Nat) : Nat → Option (Nat × Nat) → Option (Nat × Nat) := fun j o => oS o (8 * i + j) (gr (lL g a x y i j))
theorem lL_len (g : Nat → Int32) {a : Nat} (x y : Int32) (i j : Nat) (ha : a ≤ 7) : (lL g a x y i j).length ≤ 14 := by
  have h1 := wL_len (pS g i j (-1)) x a 0 []
  have h2 := wL_len (pS g i j 1) y a 0 (fo (wL (pS g i j (-1)) x) 0 a [])
  rw [List.length_nil] at h1
  unfold lL
  omega
theorem liftC_in {a i : Nat} {g : Nat → Int32} (x y : Int32) (c9 : Sg → Int32 → Int32 → Int32 → Option (Int32 × Sg)) (ha : a ≤ 7) (hi : i < a) : ∀ (t j fu : Nat) (σ : Sg) (o : Option (Nat × Nat)), t + j = a → t < fu → oG o → rowIs σ 6 a (fun j => g (25 + j)) → rI σ 2 1 = nI a → ∃ τ, b_X1_bestPair_24 1 x y c9 fu σ (oB o) (oC o) (nI i) (nI j) = c9 τ (oB (fo (oP g a x y i) j t o)) (oC (fo (oP g a x y i) j t o)) (nI (i + 1)) ∧ oG (fo (oP g a x y i) j t o) ∧ Only 107 112 σ τ := by
  intro t
  induction t with
  | zero =>
    intro j fu σ o ht hf ho hr h2
    obtain ⟨fu, rfl⟩ : ∃ q, fu = q + 1 := ⟨fu - 1, by omega⟩
    refine ⟨σ, ?_, ho, Only.rf⟩
    rw [b_X1_bestPair_24, show f_X3_keeperCount σ 1 = nI a from h2, if_pos (nI_le (by omega) (by omega)), nam_e, nI_1]
    rfl
  | succ t ih =>
    intro j fu σ o ht hf ho hr h2
    obtain ⟨fu, rfl⟩ : ∃ q, fu = q + 1 := ⟨fu - 1, by omega⟩
    have h2' : ∀ τ, Only 107 112 σ τ → rI τ 2 1 = nI a := fun τ hτ => by rw [(hτ 2 (by omega)).1]; exact h2
    obtain ⟨s1, a1, b1, c1⟩ := parts_restart σ
    obtain ⟨s2, a2, b2, c2⟩ := tipsC (g := g) (i := i) (j := j) x (-1) ha hi (by omega) a 0 FU s1 [] (by omega) (by unfold FU; omega) (hr.keep c1 (by omega)) (h2' _ c1) b1 (by rw [List.length_nil]; omega)
    have hl1 := wL_len (pS g i j (-1)) x a 0 []
    rw [List.length_nil] at hl1
    have c12 := c1.trans c2
    obtain ⟨s3, a3, b3, c3⟩ := tipsC (g := g) (i := i) (j := j) y 1 ha hi (by omega) a 0 FU s2 _ (by omega) (by unfold FU; omega) (hr.keep c12 (by omega)) (h2' _ c12) b2 (by omega)
    have c13 := c12.trans c3
    have hm := gr_len (lL g a x y i j)
    have hm2 := lL_len g x y i j ha
    obtain ⟨τ, k1, k2, k3⟩ := ih (j + 1) fu s3 (oP g a x y i j o) (by omega) (by omega) (oG_S ho (by omega) (by omega)) (hr.keep c13 (by omega)) (h2' _ c13)
    refine ⟨τ, ?_, k2, c13.trans k3⟩
    have hg : f_X6_greatestPart s3 = nI (gr (lL g a x y i j)) := PI_gr b3
    rw [b_X1_bestPair_24, show f_X3_keeperCount σ 1 = nI a from h2, if_neg (nI_ge (by omega) (by omega)), a1, ob_some, show f_X1_addTips s1 1 x (-1) (nI i) (nI j) = some s2 from a2, ob_some, show f_X1_addTips s2 1 y 1 (nI i) (nI j) = some s3 from a3, ob_some, hg, fo_s]
    unfold b_X1_bestPair_74 b_X1_bestPair_90
    simp only [nam_e, nI_1]
    rw [hg, L8, pk_mul, nI_add]
    exact (best_c (d := 8 * i + j) (m := gr (lL g a x y i j)) (fun p q => b_X1_bestPair_24 1 x y c9 fu s3 p q (nI i) (nI (j + 1))) ho (by omega)).trans k1
def oL (g : Nat → Int32) (a : Nat) (x y : Int32) : Nat → Option (Nat × Nat) → Option (Nat × Nat) := fun i o => fo (oP g a x y i) (i + 1) (a - (i + 1)) o
theorem liftC_out {a : Nat} {g : Nat → Int32} (x y : Int32) (ha : a ≤ 7) : ∀ (t i fu : Nat) (σ : Sg) (o : Option (Nat × Nat)), t + i = a → t < fu → oG o → rowIs σ 6 a (fun j => g (25 + j)) → rI σ 2 1 = nI a → ∃ τ, b_X1_bestPair_9 1 x y fu σ (oB o) (oC o) (nI i) = some (oB (fo (oL g a x y) i t o), τ) ∧ Only 107 112 σ τ := by
  intro t
  induction t with
  | zero =>
    intro i fu σ o ht hf ho hr h2
    obtain ⟨fu, rfl⟩ : ∃ q, fu = q + 1 := ⟨fu - 1, by omega⟩
    refine ⟨σ, ?_, Only.rf⟩
    rw [b_X1_bestPair_9, show f_X3_keeperCount σ 1 = nI a from h2, if_pos (nI_le (by omega) (by omega))]
    rfl
  | succ t ih =>
    intro i fu σ o ht hf ho hr h2
    obtain ⟨fu, rfl⟩ : ∃ q, fu = q + 1 := ⟨fu - 1, by omega⟩
    obtain ⟨s1, a1, b1, c1⟩ := liftC_in (g := g) x y (b_X1_bestPair_9 1 x y fu) ha (show i < a by omega) (a - (i + 1)) (i + 1) FU σ o (by omega) (by unfold FU; omega) ho hr h2
    obtain ⟨τ, k1, k2⟩ := ih (i + 1) fu s1 (oL g a x y i o) (by omega) (by omega) b1 (hr.keep c1 (by omega)) (by rw [(c1 2 (by omega)).1]; exact h2)
    refine ⟨τ, ?_, c1.trans k2⟩
    rw [b_X1_bestPair_9, show f_X3_keeperCount σ 1 = nI a from h2, if_neg (nI_ge (by omega) (by omega)), nam_e, nI_1, fo_s, a1]
    exact k1
theorem tipsR {a i j : Nat} {g : Nat → Int32} (s b : Int32) (ha : a ≤ 7) (hi : i < a) (hj : j < a) (g0 : g 0 = nI a) : ∀ (t k fu : Nat) (σ : Sg) (L : List Int32), t + k = a → t < fu → rI σ 113 = g → QI σ (L.map (fun v => 1 + v)) → ∃ τ, b_X12_partsBy_3 (nI i) (nI j) s b fu σ (nI k) = some τ ∧ QI τ ((fo (wL (pS g i j b) s) k t L).map (fun v => 1 + v)) ∧ Un Pz σ τ := by
  intro t
  induction t with
  | zero =>
    intro k fu σ L ht hf hg h
    obtain ⟨fu, rfl⟩ : ∃ q, fu = q + 1 := ⟨fu - 1, by omega⟩
    refine ⟨σ, ?_, h, Un.rf⟩
    rw [b_X12_partsBy_3, if_pos (show inb 0 (kLen 113) = true from i113 (n := 0) (by omega)), hg, show g (ix 0) = nI a from g0, if_pos (nI_le (by omega) (by omega))]
  | succ t ih =>
    intro k fu σ L ht hf hg h
    obtain ⟨fu, rfl⟩ : ∃ q, fu = q + 1 := ⟨fu - 1, by omega⟩
    have ei : rI σ 113 (ix (25 + nI i)) = g (25 + i) := by rw [hg, L25, nI_add, ix_nI (by omega)]
    have ej : rI σ 113 (ix (25 + nI j)) = g (25 + j) := by rw [hg, L25, nI_add, ix_nI (by omega)]
    have ii : inb (25 + nI i) (kLen 113) = true := by rw [L25, nI_add]; exact i113 (by omega)
    have ij : inb (25 + nI j) (kLen 113) = true := by rw [L25, nI_add]; exact i113 (by omega)
    have e0 : rI σ 113 (ix 0) = nI a := by rw [hg]; exact g0
    rw [b_X12_partsBy_3, if_pos (show inb 0 (kLen 113) = true from i113 (n := 0) (by omega)), e0, if_neg (nI_ge (by omega) (by omega)), if_pos ii, ei, fo_s]
    by_cases q : f_X12_has s (nI k) = 0
    · unfold b_X12_partsBy_81
      rw [if_pos q, show wL (pS g i j b) s k L = L from if_pos q, nam_e, nI_1]
      exact ih (k + 1) fu σ L (by omega) (by omega) hg h
    · obtain ⟨y, y1, y2⟩ := tp3_1 (tp3_true (g (25 + i) + (if k = i then b else 0)) (g (25 + j) + (if k = j then b else 0)))
      have fin : ∀ X Y, (if k = i then b else 0) = X → (if k = j then b else 0) = Y → ∃ τ, b_X12_partsBy_71 (nI i) (nI j) s b (b_X12_partsBy_3 (nI i) (nI j) s b fu) σ (nI k) Y (g (25 + j)) (g (25 + i) + X) 1 = some τ ∧ QI τ ((fo (wL (pS g i j b) s) (k + 1) t (pS g i j b k :: L)).map (fun v => 1 + v)) ∧ Un Pz σ τ := by
        intro X Y hX hY
        obtain ⟨τ, k1, k2, k3⟩ := ih (k + 1) fu (stI σ 120 y (rI σ 120 y + 1)) (pS g i j b k :: L) (by omega) (by omega) (by rw [← hg]; exact funext (fun j => rI_ne _ _ (by omega))) (by rw [List.map_cons, show 1 + pS g i j b k = nI y from y2]; exact QI_add h (by omega))
        refine ⟨τ, ?_, k2, (Un.stI σ 120 y _ rfl).trans k3⟩
        unfold b_X12_partsBy_71 b_X12_partsBy_81
        rw [← hX, ← hY, y2, if_pos (i120 (by omega)), if_pos (i120 (by omega)), ix_nI (by omega), nam_e, nam_e, nI_1]
        exact k1
      rw [if_neg q, show wL (pS g i j b) s k L = pS g i j b k :: L from if_neg q]
      unfold b_X12_partsBy_49
      rw [if_pos ij, if_pos ij, ej]
      simp (disch := omega) only [kd0]
      by_cases w1 : k = i
      · by_cases w2 : k = j
        · rw [if_pos w1, if_pos w2]
          exact fin b b (if_pos w1) (if_pos w2)
        · rw [if_pos w1, if_neg w2]
          exact fin b 0 (if_pos w1) (if_neg w2)
      · by_cases w2 : k = j
        · rw [if_neg w1, if_pos w2]
          exact fin 0 b (if_neg w1) (if_pos w2)
        · rw [if_neg w1, if_neg w2]
          exact fin 0 0 (if_neg w1) (if_neg w2)
theorem lL_tp (g : Nat → Int32) (a : Nat) (x y : Int32) (i j : Nat) : ∀ v, v ∈ lL g a x y i j → tp3 v := wL_mem tp3 y a 0 _ (wL_mem tp3 x a 0 [] (fun v hv => by cases hv) (fun k _ => tp3_true _ _)) (fun k _ => tp3_true _ _)
theorem liftR_in {a i : Nat} {g : Nat → Int32} (x y : Int32) (c39 : Sg → Int32 → Int32 → Int32 → Int32 → Int32 → Option (Int32 × Sg)) (ha : a ≤ 7) (hi : i < a) (g0 : g 0 = nI a) : ∀ (t j fu : Nat) (σ : Sg) (o : Option (Nat × Nat)), t + j = a → t < fu → oG o → rI σ 113 = g → ∃ τ, b_X12_lift_56 c39 fu σ x y (oB o) (oR o) (nI i) (nI j) = c39 τ x y (oB (fo (oP g a x y i) j t o)) (oR (fo (oP g a x y i) j t o)) (nI (i + 1)) ∧ oG (fo (oP g a x y i) j t o) ∧ Un Pz σ τ := by
  intro t
  induction t with
  | zero =>
    intro j fu σ o ht hf ho hg
    obtain ⟨fu, rfl⟩ : ∃ q, fu = q + 1 := ⟨fu - 1, by omega⟩
    have e0 : rI σ 113 (ix 0) = nI a := by rw [hg]; exact g0
    refine ⟨σ, ?_, ho, Un.rf⟩
    rw [b_X12_lift_56, if_pos (show inb 0 (kLen 113) = true from i113 (n := 0) (by omega)), e0, if_pos (nI_le (by omega) (by omega)), nam_e, nI_1]
    rfl
  | succ t ih =>
    intro j fu σ o ht hf ho hg
    obtain ⟨fu, rfl⟩ : ∃ q, fu = q + 1 := ⟨fu - 1, by omega⟩
    have e0 : rI σ 113 (ix 0) = nI a := by rw [hg]; exact g0
    have hg' : ∀ τ, Un Pz σ τ → rI τ 113 = g := fun τ hτ => (funext (Pz_w hτ)).trans hg
    obtain ⟨s1, a1, b1, c1⟩ := empP σ
    obtain ⟨s2, a2, b2, c2⟩ := tipsR (i := i) (j := j) x (-1) ha hi (by omega) g0 a 0 FU s1 [] (by omega) (by unfold FU; omega) (hg' _ c1) b1
    have c12 := c1.trans c2
    obtain ⟨s3, a3, b3, c3⟩ := tipsR (i := i) (j := j) y 1 ha hi (by omega) g0 a 0 FU s2 _ (by omega) (by unfold FU; omega) (hg' _ c12) b2
    have c13 := c12.trans c3
    have hm := gr_len (lL g a x y i j)
    have hm2 := lL_len g x y i j ha
    have hgp : f_X12_greatestPart s3 = some (nI (gr (lL g a x y i j))) := by
      rw [← gr_map one_inj]
      refine greatP b3 (by rw [List.length_map]; exact hm2) (fun v hv => ?_)
      obtain ⟨w, w1, rfl⟩ := List.mem_map.mp hv
      obtain ⟨j', j1, j2⟩ := tp3_1 (lL_tp g a x y i j w w1)
      exact ⟨j', by omega, j2⟩
    obtain ⟨τ, k1, k2, k3⟩ := ih (j + 1) fu s3 (oP g a x y i j o) (by omega) (by omega) (oG_S ho (by omega) (by omega)) (hg' _ c13)
    refine ⟨τ, ?_, k2, c13.trans k3⟩
    rw [b_X12_lift_56, if_pos (show inb 0 (kLen 113) = true from i113 (n := 0) (by omega)), e0, if_neg (nI_ge (by omega) (by omega)), a1, ob_some, show f_X12_partsBy s1 (nI i) (nI j) x (-1) = some s2 from a2, ob_some, show f_X12_partsBy s2 (nI i) (nI j) y 1 = some s3 from a3, ob_some, hgp, ob_some, fo_s]
    unfold b_X12_lift_116 b_X12_lift_131
    simp only [nam_e, nI_1]
    rw [L8, pk_mul, nI_add]
    exact (best_r (d := 8 * i + j) (m := gr (lL g a x y i j)) (fun p q => b_X12_lift_56 c39 fu s3 x y p q (nI i) (nI (j + 1))) ho (by omega)).trans k1
theorem liftR_out {a : Nat} {g : Nat → Int32} (x y : Int32) (ha : a ≤ 7) (g0 : g 0 = nI a) : ∀ (t i fu : Nat) (σ : Sg) (o : Option (Nat × Nat)), t + i = a → t < fu → oG o → rI σ 113 = g → ∃ τ, b_X12_lift_39 fu σ x y (oB o) (oR o) (nI i) = some (oB (fo (oL g a x y) i t o), τ) ∧ Un Pz σ τ := by
  intro t
  induction t with
  | zero =>
    intro i fu σ o ht hf ho hg
    obtain ⟨fu, rfl⟩ : ∃ q, fu = q + 1 := ⟨fu - 1, by omega⟩
    have e0 : rI σ 113 (ix 0) = nI a := by rw [hg]; exact g0
    refine ⟨σ, ?_, Un.rf⟩
    rw [b_X12_lift_39, if_pos (show inb 0 (kLen 113) = true from i113 (n := 0) (by omega)), e0, if_pos (nI_le (by omega) (by omega))]
    rfl
  | succ t ih =>
    intro i fu σ o ht hf ho hg
    obtain ⟨fu, rfl⟩ : ∃ q, fu = q + 1 := ⟨fu - 1, by omega⟩
    have e0 : rI σ 113 (ix 0) = nI a := by rw [hg]; exact g0
    obtain ⟨s1, a1, b1, c1⟩ := liftR_in x y (b_X12_lift_39 fu) ha (show i < a by omega) g0 (a - (i + 1)) (i + 1) FU σ o (by omega) (by unfold FU; omega) ho hg
    obtain ⟨τ, k1, k2⟩ := ih (i + 1) fu s1 (oL g a x y i o) (by omega) (by omega) b1 ((funext (Pz_w c1)).trans hg)
    refine ⟨τ, ?_, c1.trans k2⟩
    rw [b_X12_lift_39, if_pos (show inb 0 (kLen 113) = true from i113 (n := 0) (by omega)), e0, if_neg (nI_ge (by omega) (by omega)), nam_e, nI_1, fo_s, a1]
    exact k1
theorem m_lift {σ : Sg} (h : Inv σ) : Sim f_X11_lift f_X12_lift σ := by
  obtain ⟨x, a, n0, ha, hx, e1, e2⟩ := mays h (-1)
  obtain ⟨y, a', n0', ha', hy, e3, e4⟩ := mays h 1
  have haa : a' = a := nIinj (by omega) (by omega) (n0'.symm.trans n0)
  subst haa
  have hp : 2 ^ a' ≤ 2 ^ 7 := Nat.pow_le_pow_right (by omega) ha
  have hor := or_add0 x (by omega) y (by omega)
  by_cases q : nI x ||| nI y = 0
  · refine Sim.pure h (-1) ?_ ?_
    · unfold f_X11_lift
      rw [e1, ob_some, e3, ob_some, if_pos q]
    · unfold f_X12_lift
      rw [e2 σ (fun _ => rfl), ob_some, e4 σ (fun _ => rfl), ob_some, if_pos (hor.mp q)]
  obtain ⟨a2, b, c, d, e, u, hn, hw, hr⟩ := h.1
  obtain ⟨⟨n2, _⟩, _⟩ := hn
  have haa : a2 = a' := nIinj (by omega) (by omega) (n2.symm.trans n0)
  subst haa
  obtain ⟨r1, r2, r3, r4, r5, r6, r7, r8, r9, r10, r11, r12⟩ := hr
  obtain ⟨s1, a1, c1⟩ := liftC_out (g := rI σ 113) (nI x) (nI y) ha a2 0 FU σ none (by omega) (by unfold FU; omega) oG_0 r3 r1.2.1
  have hc : Un Pc σ s1 := c1.un (fun a j p q => by unfold Pc; omega)
  have hs : ∀ j, rI s1 113 j = rI σ 113 j := fun j => (c1 113 (by omega)).1 j
  have eC : f_X11_lift σ = some (oB (fo (oL (rI σ 113) a2 (nI x) (nI y)) 0 a2 none), s1) := by
    unfold f_X11_lift
    rw [e1, ob_some, e3, ob_some, if_neg q, show f_X1_bestPair σ 1 (nI x) (nI y) = _ from a1, bnd_some]
  have eR : f_X12_lift s1 = if 2 ≤ rI s1 113 0 then b_X12_lift_39 FU s1 (nI x) (nI y) (-1) 1000000 0 else some (-1, s1) := by
    unfold f_X12_lift
    rw [e2 s1 hs, ob_some, e4 s1 hs, ob_some, if_neg (fun z => q (hor.mpr z)), if_pos (show inb 0 (kLen 113) = true from i113 (n := 0) (by omega))]
    rfl
  by_cases q2 : 2 ≤ a2
  · obtain ⟨s2, a3, c2⟩ := liftR_out (g := rI σ 113) (nI x) (nI y) ha n0 a2 0 FU s1 none (by omega) (by unfold FU; omega) oG_0 (funext hs)
    refine ⟨oB (fo (oL (rI σ 113) a2 (nI x) (nI y)) 0 a2 none), s1, s2, eC, ?_, Inv_pass h (hc.trans (c2.mono (fun a j q => by unfold Pz at q; unfold Pc; omega)))⟩
    rw [eR, hs 0, n0, if_pos (show (2 : Int32) ≤ nI a2 from nI_le (a := 2) q2 (by omega))]
    exact a3
  · refine ⟨oB (fo (oL (rI σ 113) a2 (nI x) (nI y)) 0 a2 none), s1, s1, eC, ?_, Inv_pass h hc⟩
    rw [eR, hs 0, n0, if_neg (show ¬ (2 : Int32) ≤ nI a2 from nI_ge (b := 2) (by omega) (by omega))]
    rcases (show a2 = 0 ∨ a2 = 1 by omega) with rfl | rfl <;> rfl
