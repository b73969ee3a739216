/-! ===== parts: how many answers are alike ===== -/
def cn (v : Int32) : List Int32 → Nat
  | [] => 0
  | x :: L => cn v L + (if x = v then 1 else 0)
def gr : List Int32 → Nat
  | [] => 0
  | v :: L => max (gr L) (cn v L + 1)
theorem cn_eq (v : Int32) (L : List Int32) : cn v (v :: L) = cn v L + 1 := by
  show cn v L + (if v = v then 1 else 0) = cn v L + 1
  rw [if_pos rfl]
theorem cn_ne {v x : Int32} (L : List Int32) (h : x ≠ v) : cn v (x :: L) = cn v L := by
  show cn v L + (if x = v then 1 else 0) = cn v L
  rw [if_neg h]
  rfl
theorem gr_c (v : Int32) (L : List Int32) : gr (v :: L) = max (gr L) (cn v L + 1) := rfl
theorem cn_len (v : Int32) : ∀ L : List Int32, cn v L ≤ L.length
  | [] => Nat.le_refl _
  | x :: L => by
    have := cn_len v L
    rw [List.length_cons]
    by_cases q : x = v
    · subst q; rw [cn_eq]; omega
    · rw [cn_ne L q]; omega
theorem gr_len : ∀ L : List Int32, gr L ≤ L.length
  | [] => Nat.le_refl _
  | x :: L => by
    have h1 := gr_len L
    have h2 := cn_len x L
    rw [List.length_cons, gr_c]
    omega
theorem cn_le (v : Int32) : ∀ L : List Int32, cn v L ≤ gr L
  | [] => Nat.le_refl _
  | x :: L => by
    have h1 := cn_le v L
    rw [gr_c]
    by_cases q : x = v
    · subst q; rw [cn_eq]; omega
    · rw [cn_ne L q]; omega
theorem gr_at : ∀ L : List Int32, gr L = 0 ∨ ∃ v, v ∈ L ∧ gr L = cn v L
  | [] => Or.inl rfl
  | x :: L => by
    rw [gr_c]
    by_cases q : gr L ≤ cn x L + 1
    · refine Or.inr ⟨x, List.mem_cons_self, ?_⟩
      rw [cn_eq]; omega
    · rcases gr_at L with h | ⟨v, hv, h⟩
      · omega
      · refine Or.inr ⟨v, List.mem_cons_of_mem _ hv, ?_⟩
        have : x ≠ v := fun z => by subst z; omega
        rw [cn_ne L this]; omega
theorem cn_map {h : Int32 → Int32} (hi : ∀ a b, h a = h b → a = b) (v : Int32) : ∀ L : List Int32, cn (h v) (L.map h) = cn v L
  | [] => rfl
  | x :: L => by
    rw [List.map_cons]
    by_cases q : x = v
    · subst q; rw [cn_eq, cn_eq, cn_map hi x L]
    · rw [cn_ne _ (fun z => q (hi _ _ z)), cn_ne _ q, cn_map hi v L]
theorem gr_map {h : Int32 → Int32} (hi : ∀ a b, h a = h b → a = b) : ∀ L : List Int32, gr (L.map h) = gr L
  | [] => rfl
  | x :: L => by rw [List.map_cons, gr_c, gr_c, gr_map hi L, cn_map hi]
/-- Parts holds the answers of L -/
def PJ (σ : Sg) (L : List Int32) (n : Nat) (f c : Nat → Int32) : Prop := rowIs σ 108 n f ∧ rowIs σ 110 n c ∧ (∀ i, i < n → c i = nI (cn (f i) L)) ∧ (∀ i j, i < n → j < n → f i = f j → i = j) ∧ (∀ v, (∀ i, i < n → f i ≠ v) → cn v L = 0) ∧ rI σ 107 2 = nI (gr L)
def PI (σ : Sg) (L : List Int32) : Prop := ∃ n f c, n ≤ L.length ∧ PJ σ L n f c
theorem parts_restart (σ : Sg) : ∃ τ, f_X6_restart σ = some τ ∧ PI τ [] ∧ Only 107 112 σ τ := by
  obtain ⟨s1, a1, b1, c1⟩ := restart_in σ 108 (fun _ => 0)
  obtain ⟨s2, a2, b2, c2⟩ := restart_in s1 110 (fun _ => 0)
  have o3 : Only 107 108 s2 (stI s2 107 2 0) := Only.stI s2 107 2 0
  refine ⟨stI s2 107 2 0, ?_, ⟨0, _, _, Nat.le_refl _, (b1.keep c2 (by omega)).keep o3 (by omega), b2.keep o3 (by omega), fun i hi => absurd hi (by omega), fun i j hi => absurd hi (by omega), fun _ _ => rfl, rI_eq _ _ _ _⟩, ((c1.mono (by omega) (by omega)).trans (c2.mono (by omega) (by omega))).trans (o3.mono (by omega) (by omega))⟩
  unfold f_X6_restart
  rw [a1, ob_some, a2, ob_some, nam_e]
theorem place_loop {σ : Sg} {n : Nat} {f : Nat → Int32} (v : Int32) (h : rowIs σ 108 n f) (hn : n ≤ 14) : ∀ (t i fu : Nat), t + i = n → t < fu → (∀ j, j < i → f j ≠ v) → (∃ j, j < n ∧ f j = v ∧ b_X6_placeOf_2 v fu σ (nI i) = some (nI j, σ)) ∨ ((∀ j, j < n → f j ≠ v) ∧ b_X6_placeOf_2 v fu σ (nI i) = (f_X7_add σ 108 v).bind fun s1 => (f_X7_add s1 110 0).bind fun s2 => some ((f_X7_size s2 108) - 1, s2)) := by
  intro t
  induction t with
  | zero =>
    intro i fu ht hf hne
    obtain ⟨fu, rfl⟩ : ∃ q, fu = q + 1 := ⟨fu - 1, by omega⟩
    refine Or.inr ⟨fun j hj => hne j (by omega), ?_⟩
    rw [b_X6_placeOf_2, size_in h, if_pos (nI_le (by omega) (by omega))]
  | succ t ih =>
    intro i fu ht hf hne
    obtain ⟨fu, rfl⟩ : ∃ q, fu = q + 1 := ⟨fu - 1, by omega⟩
    rw [b_X6_placeOf_2, size_in h, if_neg (nI_ge (by omega) (by omega)), at_in h (by omega), ob_some]
    by_cases q : f i = v
    · rw [if_pos q]
      exact Or.inl ⟨i, by omega, q, rfl⟩
    · rw [if_neg q, nam_e, nI_1]
      refine ih (i + 1) fu (by omega) (by omega) (fun j hj => ?_)
      by_cases w : j = i
      · rw [w]; exact q
      · exact hne j (by omega)
theorem place_c {σ : Sg} {L : List Int32} (v : Int32) (h : PI σ L) (hL : L.length < 14) : ∃ τ n f c j, f_X6_placeOf σ v = some (nI j, τ) ∧ j < n ∧ f j = v ∧ n ≤ L.length + 1 ∧ PJ τ L n f c ∧ Only 107 112 σ τ := by
  obtain ⟨n, f, c, hn, h1, h2, h3, h4, h5, h6⟩ := h
  rcases place_loop v h1 (by omega) n 0 FU (by omega) (by unfold FU; omega) (fun j hj => absurd hj (by omega)) with ⟨j, j1, j2, j3⟩ | ⟨g1, g2⟩
  · exact ⟨σ, n, f, c, j, j3, j1, j2, by omega, ⟨h1, h2, h3, h4, h5, h6⟩, Only.rf⟩
  · obtain ⟨s1, a1, b1, c1⟩ := add_in v h1 (show n < 14 by omega)
    obtain ⟨s2, a2, b2, c2⟩ := add_in 0 (h2.keep c1 (by omega)) (show n < 14 by omega)
    refine ⟨s2, n + 1, upd f n v, upd c n 0, n, ?_, by omega, pk_us, by omega, ⟨b1.keep c2 (by omega), b2, fun i hi => ?_, fun i j hi hj he => ?_, fun w hw => ?_, ?_⟩, (c1.mono (by omega) (by omega)).trans (c2.mono (by omega) (by omega))⟩
    · refine (show f_X6_placeOf σ v = _ from g2).trans ?_
      rw [a1, ob_some, a2, ob_some, size_in (b1.keep c2 (by omega)), nI_pred]
    · by_cases q : i = n
      · subst q
        rw [pk_us, pk_us, h5 v g1]
        rfl
      · rw [pk_un q, pk_un q]
        exact h3 i (by omega)
    · by_cases q : i = n
      · by_cases w : j = n
        · omega
        · subst q
          rw [pk_us, pk_un w] at he
          exact absurd he.symm (g1 j (by omega))
      · by_cases w : j = n
        · subst w
          rw [pk_us, pk_un q] at he
          exact absurd he (g1 i (by omega))
        · rw [pk_un q, pk_un w] at he
          exact h4 i j (by omega) (by omega) he
    · refine h5 w (fun i hi => ?_)
      have := hw i (by omega)
      rwa [pk_un (by omega)] at this
    · rw [(c2 107 (by omega)).1, (c1 107 (by omega)).1]
      exact h6
theorem parts_add {σ : Sg} {L : List Int32} (v : Int32) (h : PI σ L) (hL : L.length < 14) : ∃ τ, f_X6_add σ v = some τ ∧ PI τ (v :: L) ∧ Only 107 112 σ τ := by
  obtain ⟨s1, n, f, c, j, a1, hj, hv, hn, ⟨h1, h2, h3, h4, h5, h6⟩, c1⟩ := place_c v h hL
  have hc : c j + 1 = nI (cn v L + 1) := by rw [h3 j hj, hv, nI_1]
  have l1 := cn_len v L
  have l2 := gr_len L
  obtain ⟨s2, a2, b2, c2⟩ := put_in (c j + 1) h2 hj
  have hg : rI s2 107 2 = nI (gr L) := by rw [(c2 107 (by omega)).1]; exact h6
  have o3 : Only 107 108 s2 (stI s2 107 2 (nI (gr (v :: L)))) := Only.stI s2 107 2 _
  refine ⟨stI s2 107 2 (nI (gr (v :: L))), ?_, ⟨n, f, upd c j (c j + 1), by rw [List.length_cons]; omega, (h1.keep c2 (by omega)).keep o3 (by omega), b2.keep o3 (by omega), fun i hi => ?_, h4, fun w hw => ?_, rI_eq _ _ _ _⟩, (c1.trans (c2.mono (by omega) (by omega))).trans (o3.mono (by omega) (by omega))⟩
  · unfold f_X6_add
    rw [a1, bnd_some, at_in h2 hj, ob_some, a2, ob_some, at_in b2 hj, ob_some, nam_e, hg, pk_us, hc, gr_c]
    by_cases q : gr L < cn v L + 1
    · rw [if_pos (nI_lt q (by omega)), Nat.max_eq_right (by omega)]
    · rw [if_neg (nI_nlt (by omega) (by omega)), Nat.max_eq_left (by omega)]
  · by_cases q : i = j
    · subst q
      rw [pk_us, hc, hv, cn_eq]
    · rw [pk_un q, cn_ne L (fun z => q (h4 i j hi hj (by rw [hv]; exact z.symm)))]
      exact h3 i hi
  · rw [cn_ne L (fun z => hw j hj (by rw [hv]; exact z))]
    exact h5 w hw
/-- the reference's counts -/
def QI (σ : Sg) (L : List Int32) : Prop := ∀ j, j < 300 → rI σ 120 j = nI (cn (nI j) L)
def Pz (a _j : Nat) : Prop := a = 120
theorem i120 {n : Nat} (h : n < 300) : inb (nI n) (kLen 120) = true := inb_nI h (by decide)
theorem empP_loop : ∀ (t i fu : Nat) (σ : Sg), t + i = 300 → t < fu → (∀ j, j < i → rI σ 120 j = 0) → ∃ τ, b_X12_emptiesParts_2 fu σ (nI i) = some τ ∧ (∀ j, j < 300 → rI τ 120 j = 0) ∧ Un Pz σ τ := by
  intro t
  induction t with
  | zero =>
    intro i fu σ ht hf hm
    obtain ⟨fu, rfl⟩ : ∃ q, fu = q + 1 := ⟨fu - 1, by omega⟩
    refine ⟨σ, ?_, fun j hj => hm j (by omega), Un.rf⟩
    rw [b_X12_emptiesParts_2, if_pos (show (300 : Int32) ≤ nI i from nI_le (a := 300) (by omega) (by omega))]
  | succ t ih =>
    intro i fu σ ht hf hm
    obtain ⟨fu, rfl⟩ : ∃ q, fu = q + 1 := ⟨fu - 1, by omega⟩
    obtain ⟨τ, k1, k2, k3⟩ := ih (i + 1) fu (stI σ 120 i 0) (by omega) (by omega) (fun j hj => by
      rw [rI_stI]
      by_cases q : j = i
      · rw [if_pos ⟨rfl, q⟩]
      · rw [if_neg (fun z => q z.2)]; exact hm j (by omega))
    refine ⟨τ, ?_, k2, (Un.stI σ 120 i _ rfl).trans k3⟩
    rw [b_X12_emptiesParts_2, if_neg (show ¬ (300 : Int32) ≤ nI i from nI_ge (b := 300) (by omega) (by omega)), if_pos (i120 (by omega)), ix_nI (by omega), nam_e, nam_e, nI_1]
    exact k1
theorem empP (σ : Sg) : ∃ τ, f_X12_emptiesParts σ = some τ ∧ QI τ [] ∧ Un Pz σ τ := by
  obtain ⟨τ, k1, k2, k3⟩ := empP_loop 300 0 FU σ rfl (by unfold FU; omega) (fun j hj => absurd hj (by omega))
  exact ⟨τ, k1, fun j hj => k2 j hj, k3⟩
theorem greatP_loop {σ : Sg} {L : List Int32} (h : QI σ L) (hL : L.length ≤ 14) : ∀ (t i fu m : Nat), t + i = 300 → t < fu → m ≤ 14 → ∃ r, b_X12_greatestPart_4 σ fu (nI m) (nI i) = some (nI r) ∧ m ≤ r ∧ (∀ j, i ≤ j → j < 300 → cn (nI j) L ≤ r) ∧ (r = m ∨ ∃ j, j < 300 ∧ r = cn (nI j) L) := by
  intro t
  induction t with
  | zero =>
    intro i fu m ht hf hm
    obtain ⟨fu, rfl⟩ : ∃ q, fu = q + 1 := ⟨fu - 1, by omega⟩
    refine ⟨m, ?_, Nat.le_refl _, fun j h1 h2 => absurd h2 (by omega), Or.inl rfl⟩
    rw [b_X12_greatestPart_4, if_pos (show (300 : Int32) ≤ nI i from nI_le (a := 300) (by omega) (by omega))]
  | succ t ih =>
    intro i fu m ht hf hm
    obtain ⟨fu, rfl⟩ : ∃ q, fu = q + 1 := ⟨fu - 1, by omega⟩
    have hc := cn_len (nI i) L
    rw [b_X12_greatestPart_4, if_neg (show ¬ (300 : Int32) ≤ nI i from nI_ge (b := 300) (by omega) (by omega)), if_pos (i120 (by omega)), ix_nI (by omega), h i (by omega)]
    unfold b_X12_greatestPart_31
    simp only [nam_e, nI_1]
    by_cases q : cn (nI i) L ≤ m
    · obtain ⟨r, k1, k2, k3, k4⟩ := ih (i + 1) fu m (by omega) (by omega) hm
      refine ⟨r, ?_, k2, fun j h1 h2 => ?_, k4⟩
      · rw [if_pos (nI_le q (by omega))]; exact k1
      · by_cases w : j = i
        · subst w; omega
        · exact k3 j (by omega) h2
    · obtain ⟨r, k1, k2, k3, k4⟩ := ih (i + 1) fu (cn (nI i) L) (by omega) (by omega) (by omega)
      refine ⟨r, ?_, by omega, fun j h1 h2 => ?_, Or.inr ?_⟩
      · rw [if_neg (nI_ge (by omega) (by omega)), if_pos (i120 (by omega))]; exact k1
      · by_cases w : j = i
        · subst w; omega
        · exact k3 j (by omega) h2
      · rcases k4 with k4 | k4
        · exact ⟨i, by omega, k4⟩
        · exact k4
theorem greatP {σ : Sg} {L : List Int32} (h : QI σ L) (hL : L.length ≤ 14) (hv : ∀ v, v ∈ L → ∃ j, j < 300 ∧ v = nI j) : f_X12_greatestPart σ = some (nI (gr L)) := by
  obtain ⟨r, k1, _, k3, k4⟩ := greatP_loop h hL 300 0 FU 0 rfl (by unfold FU; omega) (by omega)
  have e1 : r ≤ gr L := by
    rcases k4 with k4 | ⟨j, _, k4⟩
    · omega
    · rw [k4]; exact cn_le _ _
  have e2 : gr L ≤ r := by
    rcases gr_at L with q | ⟨v, q1, q2⟩
    · omega
    · obtain ⟨j, j1, rfl⟩ := hv v q1
      rw [q2]; exact k3 j (by omega) j1
  have : r = gr L := by omega
  rw [← this]
  exact k1
theorem QI_add {σ : Sg} {L : List Int32} {j : Nat} (h : QI σ L) (hj : j < 300) : QI (stI σ 120 j (rI σ 120 j + 1)) (nI j :: L) := by
  intro i hi
  rw [rI_stI]
  by_cases q : i = j
  · subst q
    rw [if_pos ⟨rfl, rfl⟩, h i hi, nI_1, cn_eq]
  · rw [if_neg (fun z => q z.2), h i hi, cn_ne L (fun z => q (nIinj (by omega) (by omega) z).symm)]
theorem QI_zero {σ : Sg} {L : List Int32} {j : Nat} (h : QI σ L) : QI (stI σ 120 j (rI σ 120 j + 0)) L := by
  intro i hi
  rw [rI_stI, Int32.add_zero]
  by_cases q : i = j
  · subst q
    rw [if_pos ⟨rfl, rfl⟩]; exact h i hi
  · rw [if_neg (fun z => q z.2)]; exact h i hi
/-- the first of the least: (which, how many) -/
def oS (o : Option (Nat × Nat)) (d m : Nat) : Option (Nat × Nat) := match o with
  | none => some (d, m)
  | some q => if m < q.2 then some (d, m) else some q
def oB (o : Option (Nat × Nat)) : Int32 := match o with
  | none => -1
  | some q => nI q.1
def oC (o : Option (Nat × Nat)) : Int32 := match o with
  | none => 0
  | some q => nI q.2
def oR (o : Option (Nat × Nat)) : Int32 := match o with
  | none => 1000000
  | some q => nI q.2
def oG (o : Option (Nat × Nat)) : Prop := ∀ q, o = some q → q.1 < 1000 ∧ q.2 < 1000
theorem oG_0 : oG none := fun q h => by cases h
theorem oG_S {o : Option (Nat × Nat)} {d m : Nat} (h : oG o) (hd : d < 1000) (hm : m < 1000) : oG (oS o d m) := by
  intro q hq
  cases o with
  | none =>
    cases hq
    exact ⟨hd, hm⟩
  | some p =>
    by_cases w : m < p.2
    · rw [show oS (some p) d m = some (d, m) from if_pos w] at hq
      cases hq
      exact ⟨hd, hm⟩
    · rw [show oS (some p) d m = some p from if_neg w] at hq
      exact h q hq
theorem nI_nm1 {n : Nat} (h : n < 2 ^ 31) : ¬ nI n = -1 := fun z => by
  have := congrArg Int32.toInt z
  rw [tN h] at this
  have h1 : (-1 : Int32).toInt = -1 := rfl
  omega
theorem best_c {β : Type} {o : Option (Nat × Nat)} {d m : Nat} (X : Int32 → Int32 → β) (h : oG o) (hm : m < 1000) : (if oB o = -1 then X (nI d) (nI m) else (if oC o ≤ nI m then X (oB o) (oC o) else X (nI d) (nI m))) = X (oB (oS o d m)) (oC (oS o d m)) := by
  cases o with
  | none => exact if_pos rfl
  | some p =>
    obtain ⟨h1, h2⟩ := h p rfl
    rw [if_neg (show ¬ oB (some p) = -1 from nI_nm1 (by omega))]
    by_cases w : m < p.2
    · rw [if_neg (show ¬ oC (some p) ≤ nI m from nI_ge w (by omega)), show oS (some p) d m = some (d, m) from if_pos w]
      rfl
    · rw [if_pos (show oC (some p) ≤ nI m from nI_le (by omega) (by omega)), show oS (some p) d m = some p from if_neg w]
theorem best_r {β : Type} {o : Option (Nat × Nat)} {d m : Nat} (Y : Int32 → Int32 → β) (h : oG o) (hm : m < 1000) : (if oR o ≤ nI m then (if oR o ≤ nI m then Y (oB o) (oR o) else Y (oB o) (nI m)) else (if oR o ≤ nI m then Y (nI d) (oR o) else Y (nI d) (nI m))) = Y (oB (oS o d m)) (oR (oS o d m)) := by
  cases o with
  | none =>
    have : ¬ oR none ≤ nI m := nI_ge (b := 1000000) (by omega) (by omega)
    rw [if_neg this, if_neg this]
    rfl
  | some p =>
    obtain ⟨h1, h2⟩ := h p rfl
    by_cases w : m < p.2
    · have : ¬ oR (some p) ≤ nI m := nI_ge w (by omega)
      rw [if_neg this, if_neg this, show oS (some p) d m = some (d, m) from if_pos w]
      rfl
    · have : oR (some p) ≤ nI m := nI_le (by omega) (by omega)
      rw [if_pos this, if_pos this, show oS (some p) d m = some p from if_neg w]
/-- an answer more, where the bit stands -/
def wL (st : Nat → Int32) (b : Int32) : Nat → List Int32 → List Int32 := fun k L => if f_X12_has b (nI k) = 0 then L else st k :: L
theorem wL_len (st : Nat → Int32) (b : Int32) : ∀ (t i : Nat) (L : List Int32), (fo (wL st b) i t L).length ≤ L.length + t
  | 0, _, _ => Nat.le_refl _
  | t + 1, i, L => by
    have h := wL_len st b t (i + 1) (wL st b i L)
    rw [fo_s]
    have h2 : (wL st b i L).length ≤ L.length + 1 := by
      unfold wL
      split
      · omega
      · rw [List.length_cons]; omega
    omega
theorem wL_mem (P : Int32 → Prop) {st : Nat → Int32} (b : Int32) : ∀ (t i : Nat) (L : List Int32), (∀ v, v ∈ L → P v) → (∀ k, k < i + t → P (st k)) → ∀ v, v ∈ fo (wL st b) i t L → P v
  | 0, _, _, h, _, v, hv => h v hv
  | t + 1, i, L, h, hs, v, hv => by
    rw [fo_s] at hv
    refine wL_mem P b t (i + 1) (wL st b i L) (fun w hw => ?_) (fun k hk => hs k (by omega)) v hv
    unfold wL at hw
    by_cases q : f_X12_has b (nI i) = 0
    · rw [if_pos q] at hw; exact h w hw
    · rw [if_neg q] at hw
      rcases List.mem_cons.mp hw with rfl | hw
      · exact hs i (by omega)
      · exact h w hw
theorem wL_map (h : Int32 → Int32) (st : Nat → Int32) (b : Int32) : ∀ (t i : Nat) (L : List Int32), fo (wL (fun k => h (st k)) b) i t (L.map h) = (fo (wL st b) i t L).map h
  | 0, _, _ => rfl
  | t + 1, i, L => by
    rw [fo_s, fo_s, ← wL_map h st b t (i + 1)]
    congr 1
    unfold wL
    by_cases q : f_X12_has b (nI i) = 0
    · rw [if_pos q, if_pos q]
    · rw [if_neg q, if_neg q, List.map_cons]
theorem one_inj (a b : Int32) (h : 1 + a = 1 + b) : a = b := by
  have e : ∀ x : Int32, -1 + (1 + x) = x := fun x => by
    rw [← Int32.add_assoc, show (-1 : Int32) + 1 = 0 from by decide, Int32.zero_add]
  rw [← e a, ← e b, h]
