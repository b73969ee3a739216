/-! ===== the methods, one after another: both answer the same and stay one ===== -/
theorem Inv_bad {σ : Sg} (h : Inv σ) : Inv (stI (stI σ 0 12 (rI σ 0 12 + 1)) 116 0 (rI σ 116 0 + 1)) := by
  obtain ⟨hr, ht, hk, ⟨hs1, hs2⟩, hs3, hs4, hs5⟩ := h
  refine ⟨(hr.same ?_).cong ?_, ht.same ?_ ?_ ?_ ?_, hk.same ?_ ?_ ?_ ?_, ⟨hs1, hs2⟩, ?_, ?_, ?_⟩
  · intro k j h1 h2; rw [rI_stI, if_neg (by omega), rI_stI, if_neg (by omega)]
  · intro j _; rw [rI_stI, if_neg (by omega), rI_stI, if_neg (by omega)]
  · rw [rI_stI, if_neg (by omega), rI_stI, if_neg (by omega)]
  · intro j; rw [rI_stI, if_neg (by omega), rI_stI, if_neg (by omega)]
  · intro j; rw [rI_stI, if_neg (by omega), rI_stI, if_neg (by omega)]
  · intro j; rw [rI_stI, if_neg (by omega), rI_stI, if_neg (by omega)]
  · intro j; rw [rI_stI, if_neg (by omega), rI_stI, if_neg (by omega)]
  · rw [rI_stI, if_neg (by omega), rI_stI, if_neg (by omega)]
  · intro k j _ _; rw [rI_stI, if_neg (by omega), rI_stI, if_neg (by omega)]
  · intro j _ _; rw [rI_stI, if_neg (by omega), rI_stI, if_neg (by omega)]
  · rw [rI_stI, if_neg (by omega), rI_stI, if_pos ⟨rfl, rfl⟩, rI_stI, if_pos ⟨rfl, rfl⟩, hs3]
  · rw [rI_stI, if_neg (by omega), rI_stI, if_neg (by omega), rI_stI, if_neg (by omega), rI_stI, if_neg (by omega)]; exact hs4
  · rw [rI_stI, if_neg (by omega), rI_stI, if_neg (by omega), rI_stI, if_neg (by omega), rI_stI, if_neg (by omega)]; exact hs5
theorem Inv_no {σ : Sg} (h : Inv σ) : Inv (stI (stI σ 0 13 (rI σ 0 13 + 1)) 116 1 (rI σ 116 1 + 1)) := by
  obtain ⟨hr, ht, hk, ⟨hs1, hs2⟩, hs3, hs4, hs5⟩ := h
  refine ⟨(hr.same ?_).cong ?_, ht.same ?_ ?_ ?_ ?_, hk.same ?_ ?_ ?_ ?_, ⟨hs1, hs2⟩, ?_, ?_, ?_⟩
  · intro k j h1 h2; rw [rI_stI, if_neg (by omega), rI_stI, if_neg (by omega)]
  · intro j _; rw [rI_stI, if_neg (by omega), rI_stI, if_neg (by omega)]
  · rw [rI_stI, if_neg (by omega), rI_stI, if_neg (by omega)]
  · intro j; rw [rI_stI, if_neg (by omega), rI_stI, if_neg (by omega)]
  · intro j; rw [rI_stI, if_neg (by omega), rI_stI, if_neg (by omega)]
  · intro j; rw [rI_stI, if_neg (by omega), rI_stI, if_neg (by omega)]
  · intro j; rw [rI_stI, if_neg (by omega), rI_stI, if_neg (by omega)]
  · rw [rI_stI, if_neg (by omega), rI_stI, if_neg (by omega)]
  · intro k j _ _; rw [rI_stI, if_neg (by omega), rI_stI, if_neg (by omega)]
  · intro j _ _; rw [rI_stI, if_neg (by omega), rI_stI, if_neg (by omega)]
  · rw [rI_stI, if_neg (by omega), rI_stI, if_neg (by omega), rI_stI, if_neg (by omega), rI_stI, if_neg (by omega)]; exact hs3
  · rw [rI_stI, if_neg (by omega), rI_stI, if_pos ⟨rfl, rfl⟩, rI_stI, if_pos ⟨rfl, rfl⟩, hs4]
  · rw [rI_stI, if_neg (by omega), rI_stI, if_neg (by omega), rI_stI, if_neg (by omega), rI_stI, if_neg (by omega)]; exact hs5
theorem Inv_full {σ : Sg} (h : Inv σ) : Inv (stI (stI σ 0 14 (rI σ 0 14 + 1)) 116 2 (rI σ 116 2 + 1)) := by
  obtain ⟨hr, ht, hk, ⟨hs1, hs2⟩, hs3, hs4, hs5⟩ := h
  refine ⟨(hr.same ?_).cong ?_, ht.same ?_ ?_ ?_ ?_, hk.same ?_ ?_ ?_ ?_, ⟨hs1, hs2⟩, ?_, ?_, ?_⟩
  · intro k j h1 h2; rw [rI_stI, if_neg (by omega), rI_stI, if_neg (by omega)]
  · intro j _; rw [rI_stI, if_neg (by omega), rI_stI, if_neg (by omega)]
  · rw [rI_stI, if_neg (by omega), rI_stI, if_neg (by omega)]
  · intro j; rw [rI_stI, if_neg (by omega), rI_stI, if_neg (by omega)]
  · intro j; rw [rI_stI, if_neg (by omega), rI_stI, if_neg (by omega)]
  · intro j; rw [rI_stI, if_neg (by omega), rI_stI, if_neg (by omega)]
  · intro j; rw [rI_stI, if_neg (by omega), rI_stI, if_neg (by omega)]
  · rw [rI_stI, if_neg (by omega), rI_stI, if_neg (by omega)]
  · intro k j _ _; rw [rI_stI, if_neg (by omega), rI_stI, if_neg (by omega)]
  · intro j _ _; rw [rI_stI, if_neg (by omega), rI_stI, if_neg (by omega)]
  · rw [rI_stI, if_neg (by omega), rI_stI, if_neg (by omega), rI_stI, if_neg (by omega), rI_stI, if_neg (by omega)]; exact hs3
  · rw [rI_stI, if_neg (by omega), rI_stI, if_neg (by omega), rI_stI, if_neg (by omega), rI_stI, if_neg (by omega)]; exact hs4
  · rw [rI_stI, if_neg (by omega), rI_stI, if_pos ⟨rfl, rfl⟩, rI_stI, if_pos ⟨rfl, rfl⟩, hs5]
theorem m_bad {σ : Sg} (h : Inv σ) (v : Int32) : Sim (fun s => bnd (f_X11_refuseBad s v) fun x s => some (x, s)) (fun s => bnd (f_X12_bad s v) fun x s => some (x, s)) σ := ⟨v, _, _, rfl, rfl, Inv_bad h⟩
theorem m_no {σ : Sg} (h : Inv σ) : Sim (fun s => bnd (f_X11_refuseNo s) fun x s => some (x, s)) (fun s => bnd (f_X12_no s) fun x s => some (x, s)) σ := ⟨-3, _, _, rfl, rfl, Inv_no h⟩
theorem m_full {σ : Sg} (h : Inv σ) : Sim (fun s => bnd (f_X11_refuseFull s) fun x s => some (x, s)) (fun s => bnd (f_X12_full s) fun x s => some (x, s)) σ := ⟨-4, _, _, rfl, rfl, Inv_full h⟩
theorem Sim.of {α : Type} {A B A' B' : Sg → Option (α × Sg)} {σ : Sg} (h : Sim A B σ) (ha : A' σ = A σ) (hb : ∀ τ r, A σ = some (r, τ) → B' τ = B τ) : Sim A' B' σ := by
  obtain ⟨r, σ1, σ2, e1, e2, e3⟩ := h
  exact ⟨r, σ1, σ2, ha.trans e1, (hb σ1 r e1).trans e2, e3⟩
theorem Sim.pure {α : Type} {A B : Sg → Option (α × Sg)} {σ : Sg} (h : Inv σ) (r : α) (ha : A σ = some (r, σ)) (hb : B σ = some (r, σ)) : Sim A B σ := ⟨r, σ, σ, ha, hb, h⟩
