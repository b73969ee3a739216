/-! ===== pure facts: rows again; what a market of the class stands for ===== -/
theorem dropLast_in {σ : Sg} {k n m : Nat} {f : Nat → Int32} (h : rowIs σ k n f) (hm : m ≤ n) : ∃ τ, f_X7_dropLast σ k (nI m) = some τ ∧ rowIs τ k (n - m) f ∧ Only k (k + 2) σ τ := by
  have hl := h.lt
  refine ⟨stI σ k 1 (nI (n - m)), ?_, ⟨Nat.le_trans (Nat.sub_le _ _) h.1, ?_, fun i hi => ?_⟩, (Only.stI σ k 1 _).mono (by omega) (by omega)⟩
  · unfold f_X7_dropLast
    have e1 : (if nI m < 0 then (0 : Int32) else nI m) = nI m := if_neg (nI_pos (by omega))
    rw [e1, h.2.1, pk_sub hm, if_neg (nI_pos (by omega))]
    rfl
  · rw [rI_stI, if_pos ⟨rfl, rfl⟩]
  · rw [rI_stI, if_neg (by omega)]
    exact h.2.2 i (by omega)
theorem dropFirst_loop {k n m : Nat} {f0 : Nat → Int32} (l1 : Int32) (hm : m ≤ n) (h1 : 1 ≤ m) : ∀ (t i fu : Nat) (σ : Sg) (f : Nat → Int32), t + i = n - m → t < fu → rowIs σ k n f → (∀ j, j < i → f j = f0 (j + m)) → (∀ j, i ≤ j → f j = f0 j) → ∃ τ, b_X7_dropFirst_8 k l1 fu σ (nI m) (nI i) = some τ ∧ rowIs τ k (n - m) (fun j => f0 (j + m)) ∧ Only k (k + 2) σ τ := by
  intro t
  induction t with
  | zero =>
    intro i fu σ f ht hf h hlo hhi
    obtain ⟨fu, rfl⟩ : ∃ q, fu = q + 1 := ⟨fu - 1, by omega⟩
    have hl := h.lt
    obtain ⟨τ, e1, e2, e3⟩ := dropLast_in h hm
    refine ⟨τ, ?_, e2.cong (fun j hj => hlo j (by omega)), e3⟩
    rw [b_X7_dropFirst_8, h.2.1, nI_add, if_pos (nI_le (by omega) (by omega)), e1]
    rfl
  | succ t ih =>
    intro i fu σ f ht hf h hlo hhi
    obtain ⟨fu, rfl⟩ : ∃ q, fu = q + 1 := ⟨fu - 1, by omega⟩
    have hl := h.lt
    obtain ⟨τ, e1, e2, e3⟩ := put_in (j := i) (f (i + m)) h (by omega)
    obtain ⟨υ, g1, g2, g3⟩ := ih (i + 1) fu τ _ (by omega) (by omega) e2 (fun j hj => by
      unfold upd
      by_cases q : j = i
      · rw [if_pos q, q]; exact hhi _ (by omega)
      · rw [if_neg q]; exact hlo j (by omega)) (fun j hj => by
      unfold upd
      rw [if_neg (by omega)]
      exact hhi j (by omega))
    refine ⟨υ, ?_, g2, e3.trans g3⟩
    rw [b_X7_dropFirst_8, h.2.1, nI_add, if_neg (nI_ge (by omega) (by omega)), at_in h (by omega)]
    show (f_X7_put σ k (nI i) (f (i + m))).bind _ = _
    rw [e1]
    show b_X7_dropFirst_8 k l1 fu τ (nI m) (nI i + 1) = _
    rw [nI_1]
    exact g1
theorem dropFirst_in {σ : Sg} {k n m : Nat} {f : Nat → Int32} (h : rowIs σ k n f) (hm : m ≤ n) (h1 : 1 ≤ m) : ∃ τ, f_X7_dropFirst σ k (nI m) = some τ ∧ rowIs τ k (n - m) (fun j => f (j + m)) ∧ Only k (k + 2) σ τ := by
  have hl := h.lt
  obtain ⟨τ, e1, e2, e3⟩ := dropFirst_loop (k := k) (f0 := f) (nI m) hm h1 (n - m) 0 FU σ f (by omega) (by unfold FU; omega) h (fun _ q => absurd q (Nat.not_lt_zero _)) (fun _ _ => rfl)
  refine ⟨τ, ?_, e2, e3⟩
  unfold f_X7_dropFirst
  have e0 : (if nI m < 0 then (0 : Int32) else nI m) = nI m := if_neg (nI_pos (by omega))
  rw [e0]
  exact e1
/-- the sum of those of f 0 .. f (n-1) that stand in b -/
def smS (f : Nat → Int32) (b : Int32) : Nat → Int32 → Int32 := fun k s => if f_X12_has b (nI k) = 0 then s else s + f k
def sm (f : Nat → Int32) (b : Int32) (n : Nat) : Int32 := fo (smS f b) 0 n 0
theorem sumOf_loop {σ : Sg} {k n : Nat} {f : Nat → Int32} (b : Int32) (h : rowIs σ k n f) (hn : n ≤ 32) : ∀ (t i fu : Nat) (s : Int32), t + i = n → t < fu → b_X7_sumOf_4 σ k b fu s (nI i) = some (fo (smS f b) i t s) := by
  intro t
  induction t with
  | zero =>
    intro i fu s ht hf
    obtain ⟨fu, rfl⟩ : ∃ q, fu = q + 1 := ⟨fu - 1, by omega⟩
    rw [b_X7_sumOf_4, h.2.1, if_pos (nI_le (by omega) (by omega))]
    rfl
  | succ t ih =>
    intro i fu s ht hf
    obtain ⟨fu, rfl⟩ : ∃ q, fu = q + 1 := ⟨fu - 1, by omega⟩
    rw [b_X7_sumOf_4, h.2.1, if_neg (nI_ge (by omega) (by omega)), hasBit_has b (by omega), fo_s]
    unfold b_X7_sumOf_28 nam
    by_cases q : f_X12_has b (nI i) = 0
    · have : smS f b i s = s := if_pos q
      rw [if_pos q, nI_1, this]
      exact ih (i + 1) fu _ (by omega) (by omega)
    · rw [if_neg q, at_in h (by omega)]
      show b_X7_sumOf_4 σ k b fu (s + f i) (nI i + 1) = _
      rw [nI_1, ih (i + 1) fu _ (by omega) (by omega)]
      have : smS f b i s = s + f i := if_neg q
      rw [this]
theorem sumOf_in {σ : Sg} {k n : Nat} {f : Nat → Int32} (b : Int32) (h : rowIs σ k n f) (hn : n ≤ 32) : f_X7_sumOf σ k b = some (sm f b n) := sumOf_loop b h hn n 0 FU 0 (by omega) (by unfold FU; omega)
def mxS (f : Nat → Int32) : Nat → Int64 → Int64 := fun k s => 31 * s + Int32.toInt64 (f k)
theorem mixed_loop {σ : Sg} {k n : Nat} {f : Nat → Int32} (h : rowIs σ k n f) : ∀ (t i fu : Nat) (s : Int64), t + i = n → t < fu → b_X7_mixedInto_2 σ k fu s (nI i) = some (fo (mxS f) i t s) := by
  intro t
  have hl := h.lt
  induction t with
  | zero =>
    intro i fu s ht hf
    obtain ⟨fu, rfl⟩ : ∃ q, fu = q + 1 := ⟨fu - 1, by omega⟩
    rw [b_X7_mixedInto_2, h.2.1, if_pos (nI_le (by omega) (by omega))]
    rfl
  | succ t ih =>
    intro i fu s ht hf
    obtain ⟨fu, rfl⟩ : ∃ q, fu = q + 1 := ⟨fu - 1, by omega⟩
    rw [b_X7_mixedInto_2, h.2.1, if_neg (nI_ge (by omega) (by omega)), fo_s, at_in h (by omega)]
    show b_X7_mixedInto_2 σ k fu (31 * s + Int32.toInt64 (f i)) (nI i + 1) = _
    rw [nI_1, ih (i + 1) fu _ (by omega) (by omega)]
    rfl
theorem mixed_in {σ : Sg} {k n : Nat} {f : Nat → Int32} (s : Int64) (h : rowIs σ k n f) : f_X7_mixedInto σ k s = some (fo (mxS f) 0 n s) := mixed_loop h n 0 FU s (by omega) (by have := h.lt; unfold FU; omega)
/-- may have changed only where P -/
def Un (P : Nat → Nat → Prop) (σ τ : Sg) : Prop := ∀ a j, ¬ P a j → rI τ a j = rI σ a j ∧ rL τ a j = rL σ a j
theorem Un.rf {P : Nat → Nat → Prop} {σ : Sg} : Un P σ σ := fun _ _ _ => ⟨rfl, rfl⟩
theorem Un.trans {P : Nat → Nat → Prop} {σ τ υ : Sg} (h1 : Un P σ τ) (h2 : Un P τ υ) : Un P σ υ := fun a j h => ⟨(h2 a j h).1.trans (h1 a j h).1, (h2 a j h).2.trans (h1 a j h).2⟩
theorem Un.mono {P Q : Nat → Nat → Prop} {σ τ : Sg} (h : Un P σ τ) (hq : ∀ a j, P a j → Q a j) : Un Q σ τ := fun a j hn => h a j (fun hp => hn (hq a j hp))
theorem Only.un {lo hi : Nat} {P : Nat → Nat → Prop} {σ τ : Sg} (h : Only lo hi σ τ) (hq : ∀ a j, lo ≤ a → a < hi → P a j) : Un P σ τ := fun a j hn => by
  have : a < lo ∨ hi ≤ a := by
    by_cases q : a < lo
    · exact Or.inl q
    · by_cases w : hi ≤ a
      · exact Or.inr w
      · exact absurd (hq a j (by omega) (by omega)) hn
  exact ⟨(h a this).1 j, (h a this).2 j⟩
theorem Un.stI {P : Nat → Nat → Prop} (σ : Sg) (k j : Nat) (v : Int32) (h : P k j) : Un P σ (stI σ k j v) := fun a b hn => ⟨by
  rw [rI_stI, if_neg]
  rintro ⟨rfl, rfl⟩
  exact hn h, rL_stI σ k j v a b⟩
theorem Un.stL {P : Nat → Nat → Prop} (σ : Sg) (k j : Nat) (v : Int64) (h : P k j) : Un P σ (stL σ k j v) := fun a b hn => ⟨rI_stL σ k j v a b, by
  rw [rL_stL, if_neg]
  rintro ⟨rfl, rfl⟩
  exact hn h⟩
def isM (M : Nat) : Prop := M = 1 ∨ M = 23 ∨ M = 45 ∨ M = 70
theorem mkl {M : Nat} (h : isM M) : kLen (M + 1 + 1) = 7 ∧ kLen (M + 3 + 1) = 7 ∧ kLen (M + 5 + 1) = 7 ∧ kLen (M + 7 + 1) = 4 ∧ kLen (M + 9 + 1) = 18 ∧ kLen (M + 11 + 1) = 24 ∧ kLen (M + 13 + 1) = 24 ∧ kLen (M + 15 + 1) = 128 ∧ kLen (M + 17 + 1 + 1) = 7 ∧ kLen (M + 17 + 3 + 1) = 7 := by
  rcases h with rfl | rfl | rfl | rfl <;> exact ⟨rfl, rfl, rfl, rfl, rfl, rfl, rfl, rfl, rfl, rfl⟩
/-- where the reference keeps what stands at j in the class's past -/
def pp (j : Nat) : Nat := j / 16 * 16 + (if j % 16 = 0 then 15 else if j % 16 = 1 then 14 else if j % 2 = 0 then (j % 16 - 2) / 2 else 7 + (j % 16 - 3) / 2)
theorem pp_lt (j : Nat) : pp j < j / 16 * 16 + 16 := by
  unfold pp
  split
  · omega
  · split
    · omega
    · split <;> omega
/-- the rows of a market of the class hold what stands in g -/
def Rw (σ : Sg) (M : Nat) (g : Nat → Int32) (a b c d e u : Nat) : Prop :=
  rowIs σ (M + 1) a (fun j => g (4 + j)) ∧ rowIs σ (M + 3) a (fun j => g (11 + j)) ∧ rowIs σ (M + 5) a (fun j => g (25 + j)) ∧
  rowIs σ (M + 7) b (fun j => g (39 + j)) ∧ rowIs σ (M + 9) (3 * c) (fun j => g (44 + j)) ∧ rowIs σ (M + 11) (4 * d) (fun j => g (63 + j)) ∧
  rowIs σ (M + 13) (4 * e) (fun j => g (88 + j)) ∧ rowIs σ (M + 15) (16 * u) (fun j => g (113 + pp j)) ∧
  rI σ (M + 17) 0 = g 2 ∧ rI σ (M + 17) 1 = g 3 ∧ rowIs σ (M + 17 + 1) a (fun j => g (18 + j)) ∧ rowIs σ (M + 17 + 3) a (fun j => g (32 + j))
def mom (g : Nat → Int32) (p q l t a : Nat) : Prop :=
  (∀ k, k < 7 → (k < a → vIn (g (p + k)) 1 250 ∧ vIn (g (q + k)) 0 9) ∧ (a ≤ k → g (p + k) = 0 ∧ g (q + k) = 0)) ∧ vIn (g l) 0 127 ∧ vIn (g t) 0 9999
def Nm (g : Nat → Int32) (a b c d e u : Nat) : Prop :=
  (g 0 = nI a ∧ a ≤ 7) ∧ (g 1 = nI b ∧ b ≤ 4) ∧ (g 43 = nI c ∧ c ≤ 6) ∧ (g 62 = nI d ∧ d ≤ 6) ∧ (g 87 = nI e ∧ e ≤ 6) ∧ (g 112 = nI u ∧ u ≤ 8)
def Wf (g : Nat → Int32) (a b d e u : Nat) : Prop :=
  (∀ k, k < a → vIn (g (4 + k)) 0 5 ∧ vIn (g (11 + k)) 0 11 ∧ vIn (g (25 + k)) 1 250) ∧
  (∀ k, k < b → vIn (g (39 + k)) 0 5) ∧
  (∀ i, i < d → vIn (g (63 + (4 * i + 1))) 1 250) ∧
  (∀ i, i < e → vIn (g (88 + (4 * i + 1))) 0 999 ∧ vIn (g (88 + (4 * i + 2))) 0 999) ∧
  mom g 18 32 3 2 a ∧
  (∀ i, i < u → mom g (113 + 16 * i) (120 + 16 * i) (127 + 16 * i) (128 + 16 * i) a)
def Rep (σ : Sg) (M : Nat) (g : Nat → Int32) : Prop := ∃ a b c d e u, Nm g a b c d e u ∧ Wf g a b d e u ∧ Rw σ M g a b c d e u
theorem mom.cong {g g' : Nat → Int32} {p q l t a : Nat} (h : mom g p q l t a) (hg : ∀ j, j < 241 → g j = g' j) (h1 : p + 7 ≤ 241) (h2 : q + 7 ≤ 241) (h3 : l < 241) (h4 : t < 241) : mom g' p q l t a := by
  refine ⟨fun k hk => ?_, ?_, ?_⟩
  · rw [← hg (p + k) (by omega), ← hg (q + k) (by omega)]
    exact h.1 k hk
  · rw [← hg l h3]; exact h.2.1
  · rw [← hg t h4]; exact h.2.2
theorem Nm.cong {g g' : Nat → Int32} {a b c d e u : Nat} (h : Nm g a b c d e u) (hg : ∀ j, j < 241 → g j = g' j) : Nm g' a b c d e u := by
  unfold Nm
  rw [← hg 0 (by omega), ← hg 1 (by omega), ← hg 43 (by omega), ← hg 62 (by omega), ← hg 87 (by omega), ← hg 112 (by omega)]
  exact h
theorem Wf.cong {g g' : Nat → Int32} {a b d e u : Nat} (h : Wf g a b d e u) (ha : a ≤ 7) (hb : b ≤ 4) (hd : d ≤ 6) (he : e ≤ 6) (hu : u ≤ 8) (hg : ∀ j, j < 241 → g j = g' j) : Wf g' a b d e u := by
  obtain ⟨h1, h2, h3, h4, h5, h6⟩ := h
  refine ⟨fun k hk => ?_, fun k hk => ?_, fun i hi => ?_, fun i hi => ?_, h5.cong hg (by omega) (by omega) (by omega) (by omega), fun i hi => (h6 i hi).cong hg (by omega) (by omega) (by omega) (by omega)⟩
  · rw [← hg (4 + k) (by omega), ← hg (11 + k) (by omega), ← hg (25 + k) (by omega)]
    exact h1 k hk
  · rw [← hg (39 + k) (by omega)]; exact h2 k hk
  · rw [← hg (63 + (4 * i + 1)) (by omega)]; exact h3 i hi
  · rw [← hg (88 + (4 * i + 1)) (by omega), ← hg (88 + (4 * i + 2)) (by omega)]; exact h4 i hi
theorem Rw.cong {σ : Sg} {M : Nat} {g g' : Nat → Int32} {a b c d e u : Nat} (h : Rw σ M g a b c d e u) (ha : a ≤ 7) (hb : b ≤ 4) (hc : c ≤ 6) (hd : d ≤ 6) (he : e ≤ 6) (hu : u ≤ 8) (hg : ∀ j, j < 241 → g j = g' j) : Rw σ M g' a b c d e u := by
  obtain ⟨r1, r2, r3, r4, r5, r6, r7, r8, r9, r10, r11, r12⟩ := h
  exact ⟨r1.cong (fun j hj => hg _ (by omega)), r2.cong (fun j hj => hg _ (by omega)), r3.cong (fun j hj => hg _ (by omega)), r4.cong (fun j hj => hg _ (by omega)), r5.cong (fun j hj => hg _ (by omega)), r6.cong (fun j hj => hg _ (by omega)), r7.cong (fun j hj => hg _ (by omega)), r8.cong (fun j hj => hg _ (by have := pp_lt j; omega)), r9.trans (hg _ (by omega)), r10.trans (hg _ (by omega)), r11.cong (fun j hj => hg _ (by omega)), r12.cong (fun j hj => hg _ (by omega))⟩
theorem Rep.cong {σ : Sg} {M : Nat} {g g' : Nat → Int32} (h : Rep σ M g) (hg : ∀ j, j < 241 → g j = g' j) : Rep σ M g' := by
  obtain ⟨a, b, c, d, e, u, hn, hw, hr⟩ := h
  have hn2 := hn
  obtain ⟨⟨_, ha⟩, ⟨_, hb⟩, ⟨_, hc⟩, ⟨_, hd⟩, ⟨_, he⟩, ⟨_, hu⟩⟩ := hn2
  exact ⟨a, b, c, d, e, u, hn.cong hg, hw.cong ha hb hd he hu hg, hr.cong ha hb hc hd he hu hg⟩
theorem rowIs.same {σ τ : Sg} {k n : Nat} {f : Nat → Int32} (h : rowIs σ k n f) (h1 : ∀ j, rI τ k j = rI σ k j) (h2 : ∀ j, rI τ (k + 1) j = rI σ (k + 1) j) : rowIs τ k n f := ⟨h.1, by rw [h1]; exact h.2.1, fun j hj => by rw [h2]; exact h.2.2 j hj⟩
theorem Rw.same {σ τ : Sg} {M : Nat} {g : Nat → Int32} {a b c d e u : Nat} (h : Rw σ M g a b c d e u) (hs : ∀ k j, M ≤ k → k < M + 22 → rI τ k j = rI σ k j) : Rw τ M g a b c d e u := by
  obtain ⟨r1, r2, r3, r4, r5, r6, r7, r8, r9, r10, r11, r12⟩ := h
  refine ⟨r1.same ?_ ?_, r2.same ?_ ?_, r3.same ?_ ?_, r4.same ?_ ?_, r5.same ?_ ?_, r6.same ?_ ?_, r7.same ?_ ?_, r8.same ?_ ?_, (hs _ 0 ?_ ?_).trans r9, (hs _ 1 ?_ ?_).trans r10, r11.same ?_ ?_, r12.same ?_ ?_⟩
  all_goals first | omega | exact fun j => hs _ j (by omega) (by omega)
theorem Rep.same {σ τ : Sg} {M : Nat} {g : Nat → Int32} (h : Rep σ M g) (hs : ∀ k j, M ≤ k → k < M + 22 → rI τ k j = rI σ k j) : Rep τ M g := by
  obtain ⟨a, b, c, d, e, u, hn, hw, hr⟩ := h
  exact ⟨a, b, c, d, e, u, hn, hw, hr.same hs⟩
theorem Rep.keep {σ τ : Sg} {M lo hi : Nat} {g : Nat → Int32} (h : Rep σ M g) (ho : Only lo hi σ τ) (hk : M + 22 ≤ lo ∨ hi ≤ M) : Rep τ M g := h.same (fun k j h1 h2 => (ho k (by omega)).1 j)
/-- the class and the reference are one -/
def Tx (σ : Sg) : Prop := ∃ n, n ≤ 150 ∧ rI σ 112 3 = nI n ∧ rowIs σ 67 n (rI σ 115) ∧ ∀ j, j < n → vIn (rI σ 115 j) 0 127
def Kp (σ : Sg) : Prop := ∃ k0 k1 : Nat, k0 ≤ 1 ∧ k1 ≤ 1 ∧ rI σ 114 0 = nI k0 ∧ rI σ 114 1 = nI k1 ∧ rI σ 0 3 = nI (k0 + 2 * k1) ∧ (k0 = 1 → Rep σ 23 (fun j => rI σ 113 (241 + j))) ∧ (k1 = 1 → Rep σ 45 (fun j => rI σ 113 (482 + j)))
def St (σ : Sg) : Prop := (rL σ 0 10 = rL σ 112 4 ∧ rL σ 0 11 = rL σ 112 5) ∧ rI σ 0 12 = rI σ 116 0 ∧ rI σ 0 13 = rI σ 116 1 ∧ rI σ 0 14 = rI σ 116 2
def Inv (σ : Sg) : Prop := Rep σ 1 (rI σ 113) ∧ Tx σ ∧ Kp σ ∧ St σ
theorem Tx.same {σ τ : Sg} (h : Tx σ) (h1 : rI τ 112 3 = rI σ 112 3) (h2 : ∀ j, rI τ 67 j = rI σ 67 j) (h3 : ∀ j, rI τ 68 j = rI σ 68 j) (h4 : ∀ j, rI τ 115 j = rI σ 115 j) : Tx τ := by
  obtain ⟨n, hn, e1, e2, e3⟩ := h
  refine ⟨n, hn, h1.trans e1, (e2.same h2 h3).cong (fun j _ => (h4 j).symm), fun j hj => ?_⟩
  rw [h4]; exact e3 j hj
theorem Kp.same {σ τ : Sg} (h : Kp σ) (h1 : ∀ j, rI τ 114 j = rI σ 114 j) (h2 : rI τ 0 3 = rI σ 0 3) (h3 : ∀ k j, 23 ≤ k → k < 67 → rI τ k j = rI σ k j) (h4 : ∀ j, 241 ≤ j → j < 723 → rI τ 113 j = rI σ 113 j) : Kp τ := by
  obtain ⟨k0, k1, a0, a1, b0, b1, b2, c0, c1⟩ := h
  exact ⟨k0, k1, a0, a1, (h1 0).trans b0, (h1 1).trans b1, h2.trans b2, fun q => ((c0 q).same (fun k j p1 p2 => h3 k j (by omega) (by omega))).cong (fun j hj => (h4 _ (by omega) (by omega)).symm), fun q => ((c1 q).same (fun k j p1 p2 => h3 k j (by omega) (by omega))).cong (fun j hj => (h4 _ (by omega) (by omega)).symm)⟩
/-- the market here and what is only of passing use -/
def Ph (a j : Nat) : Prop := (1 ≤ a ∧ a < 23) ∨ (a = 113 ∧ (j < 241 ∨ 723 ≤ j)) ∨ (69 ≤ a ∧ a < 112) ∨ (a = 112 ∧ 6 ≤ j) ∨ 117 ≤ a
def Pc (a j : Nat) : Prop := (a = 113 ∧ 723 ≤ j) ∨ (69 ≤ a ∧ a < 112) ∨ (a = 112 ∧ 6 ≤ j) ∨ 117 ≤ a
theorem Inv_here {σ τ : Sg} (h : Inv σ) (hr : Rep τ 1 (rI τ 113)) (hu : Un Ph σ τ) : Inv τ := by
  obtain ⟨_, ht, hk, ⟨hs1, hs2⟩, hs3, hs4, hs5⟩ := h
  refine ⟨hr, ht.same ?_ ?_ ?_ ?_, hk.same ?_ ?_ ?_ ?_, ⟨?_, ?_⟩, ?_, ?_, ?_⟩
  · exact (hu _ _ (by unfold Ph; omega)).1
  · exact fun j => (hu _ _ (by unfold Ph; omega)).1
  · exact fun j => (hu _ _ (by unfold Ph; omega)).1
  · exact fun j => (hu _ _ (by unfold Ph; omega)).1
  · exact fun j => (hu _ _ (by unfold Ph; omega)).1
  · exact (hu _ _ (by unfold Ph; omega)).1
  · exact fun k j _ _ => (hu _ _ (by unfold Ph; omega)).1
  · exact fun j _ _ => (hu _ _ (by unfold Ph; omega)).1
  · rw [(hu 0 10 (by unfold Ph; omega)).2, (hu 112 4 (by unfold Ph; omega)).2]; exact hs1
  · rw [(hu 0 11 (by unfold Ph; omega)).2, (hu 112 5 (by unfold Ph; omega)).2]; exact hs2
  · rw [(hu 0 12 (by unfold Ph; omega)).1, (hu 116 0 (by unfold Ph; omega)).1]; exact hs3
  · rw [(hu 0 13 (by unfold Ph; omega)).1, (hu 116 1 (by unfold Ph; omega)).1]; exact hs4
  · rw [(hu 0 14 (by unfold Ph; omega)).1, (hu 116 2 (by unfold Ph; omega)).1]; exact hs5
theorem Inv_pass {σ τ : Sg} (h : Inv σ) (hu : Un Pc σ τ) : Inv τ := by
  refine Inv_here h ?_ (hu.mono (fun a j q => by unfold Pc at q; unfold Ph; omega))
  exact (h.1.same (fun k j h1 h2 => (hu k j (by unfold Pc; omega)).1)).cong (fun j hj => ((hu 113 j (by unfold Pc; omega)).1).symm)
def Sim {α : Type} (A B : Sg → Option (α × Sg)) (σ : Sg) : Prop := ∃ r σ1 σ2, A σ = some (r, σ1) ∧ B σ1 = some (r, σ2) ∧ Inv σ2
