/-! ===== years ===== -/
def yX (X : Nat) : Nat := (X * 1103515245 + 12345) % 2147483648
def yK (X : Nat) : Nat := yX X / 65536 % 7
def yF (X : Nat) : Nat := yX X / 1048576 % 10
theorem yX_lt (X : Nat) : yX X < 2147483648 := Nat.mod_lt _ (by omega)
theorem yK_lt (X : Nat) : yK X < 7 := Nat.mod_lt _ (by omega)
theorem yF_lt (X : Nat) : yF X < 10 := Nat.mod_lt _ (by omega)
theorem year_num {X : Nat} (hX : X < 2147483648) : ((lN X * 1103515245) + 12345) - ((lN X * 1103515245) + 12345) / 2147483648 * 2147483648 = lN (yX X) := by
  have e1 : (1103515245 : Int64) = lN 1103515245 := rfl
  have e2 : (12345 : Int64) = lN 12345 := rfl
  have e3 : (2147483648 : Int64) = lN 2147483648 := rfl
  rw [e1, e2, e3, lN_mul, lN_add]
  exact pk_lRem (by omega) (by omega) (by omega)
theorem year_k (X : Nat) : Int64.toInt32 ((lN (yX X) / 65536) - (lN (yX X) / 65536) / 7 * 7) = nI (yK X) := by
  have hY := yX_lt X
  have e1 : (65536 : Int64) = lN 65536 := rfl
  have e2 : (7 : Int64) = lN 7 := rfl
  rw [e1, e2, pk_lDiv (by omega) (by omega) (by omega), pk_lRem (by omega) (by omega) (by omega), lN_i]
  rfl
theorem year_f (X : Nat) : Int64.toInt32 ((lN (yX X) / 1048576) - (lN (yX X) / 1048576) / 10 * 10) = nI (yF X) := by
  have hY := yX_lt X
  have e1 : (1048576 : Int64) = lN 1048576 := rfl
  have e2 : (10 : Int64) = lN 10 := rfl
  rw [e1, e2, pk_lDiv (by omega) (by omega) (by omega), pk_lRem (by omega) (by omega) (by omega), lN_i]
  rfl
/-- the moods and what is lent in a step of years -/
def yN (g : Nat → Int32) (a i : Nat) (m : Nat → Int32) (l : Int32) (X : Nat) : Nat → Int32 := if yK X < a ∧ f_X12_has l (nI (yK X)) = 0 then upd m (yK X) (f_X12_moodBehind (m (yK X)) (nI (yF X)) (f_X12_lends (g (4 + yK X)) (g 2 + nI i) (m (yK X)) (nI (yF X)))) else m
def yL (g : Nat → Int32) (a i : Nat) (m : Nat → Int32) (l : Int32) (X : Nat) : Int32 := if yK X < a ∧ f_X12_has l (nI (yK X)) = 0 then f_X12_lends (g (4 + yK X)) (g 2 + nI i) (m (yK X)) (nI (yF X)) else 0
def yV (g : Nat → Int32) (a : Nat) : Nat → Nat → (Nat → Int32) → Int32 → Nat → Int32 → Int32
  | 0, _, _, _, _, s => s
  | t + 1, i, m, l, X, s => yV g a t (i + 1) (fun j => moodS (yN g a i m l X j)) 0 (yX X) (s + yL g a i m l X)
theorem hk_ge {n a : Nat} (ha : a < 2 ^ 31) (hn : n < 2 ^ 31) (h : a ≤ n) : f_X11_between (nI n) 0 (nI a - 1) = 0 := by
  rw [btw_iff, tm1 ha, tN hn]
  exact Or.inr (by omega)
theorem yN_v {g : Nat → Int32} {a i X : Nat} {m : Nat → Int32} {l : Int32} (h : ∀ j, j < a → vIn (m j) 0 9) : ∀ j, j < a → vIn (yN g a i m l X j) 0 9 := by
  intro j hj
  unfold yN
  by_cases q : yK X < a ∧ f_X12_has l (nI (yK X)) = 0
  · rw [if_pos q]
    refine upd_vIn j ?_ (fun _ => h j hj)
    obtain ⟨x, _, x2, x3⟩ := h _ q.1
    obtain ⟨⟨y, y1, y2⟩, z, z1, z2⟩ := mood_v x (by omega) (yF X) (yF_lt X)
    rw [x3]
    rcases lends01 (g (4 + yK X)) (g 2 + nI i) (nI x) (nI (yF X)) with w | w
    · rw [w]; exact ⟨y, by omega, by omega, y2⟩
    · rw [w]; exact ⟨z, by omega, by omega, z2⟩
  · rw [if_neg q]; exact h j hj
theorem year_c {a n : Nat} {g : Nat → Int32} (ha : a ≤ 7) (hn : n ≤ 60) (hkd : ∀ j, j < a → vIn (g (4 + j)) 0 5) (l1 : Int32) : ∀ (t i fu : Nat) (σ : Sg) (m fs : Nat → Int32) (l s : Int32) (X : Nat), t + i = n → t < fu → X < 2147483648 → rowIs σ 2 a (fun j => g (4 + j)) → rowIs σ 95 a fs → rowIs σ 97 a m → (∀ j, j < a → vIn (fs j) 1 250) → (∀ j, j < a → vIn (m j) 0 9) → rI σ 94 0 = g 2 + nI i → rI σ 94 1 = l → ∃ τ, b_X11_years_51 l1 (nI n) fu σ (lN X) s (nI i) = some (yV g a t i m l X s, τ) ∧ Only 94 99 σ τ := by
  intro t
  induction t with
  | zero =>
    intro i fu σ m fs l s X ht hf _ _ _ _ _ _ _ _
    obtain ⟨fu, rfl⟩ : ∃ q, fu = q + 1 := ⟨fu - 1, by omega⟩
    refine ⟨σ, ?_, Only.rf⟩
    rw [b_X11_years_51, if_pos (nI_le (by omega) (by omega))]
    rfl
  | succ t ih =>
    intro i fu σ m fs l s X ht hf hX r1 r2 r3 v2 v3 hd hl
    obtain ⟨fu, rfl⟩ : ∃ q, fu = q + 1 := ⟨fu - 1, by omega⟩
    have hK := yK_lt X
    have hp : ∀ (σ' : Sg) (s' : Int32), rowIs σ' 2 a (fun j => g (4 + j)) → rowIs σ' 95 a fs → rowIs σ' 97 a (yN g a i m l X) → rI σ' 94 0 = g 2 + nI i → Only 94 99 σ σ' → ∃ τ, b_X11_years_148 l1 (nI n) (b_X11_years_51 l1 (nI n) fu) σ' (lN (yX X)) s' (nI i) = some (yV g a t (i + 1) (fun j => moodS (yN g a i m l X j)) 0 (yX X) s', τ) ∧ Only 94 99 σ τ := by
      intro σ' s' p1 p2 p3 p5 p6
      have p4 := yN_v (g := g) (i := i) (X := X) (l := l) v3
      obtain ⟨s2, a1, b1, b2, b3, b4, c1⟩ := passDay_loop (k0 := 94) (k1 := 2) (d := g 2 + nI i) (f := fs) (m := yN g a i m l X) (kd := fun j => g (4 + j)) (by omega) ha v2 p4 hkd a 0 FU σ' (by omega) (by unfold FU; omega) (p2.cong (fun j hj => (if_neg (by omega)).symm)) (p3.cong (fun j hj => (if_neg (by omega)).symm)) p1 p5
      obtain ⟨τ, k1, k2⟩ := ih (i + 1) fu s2 (fun j => moodS (yN g a i m l X j)) _ 0 s' (yX X) (by omega) (by omega) (yX_lt X) (p1.keep c1 (by omega)) b1 b2 (fun j hj => by
        obtain ⟨x, x1, x2, x3⟩ := v2 j hj
        obtain ⟨y, _, y2, y3⟩ := hkd j hj
        show vIn (f_X12_goes (g (4 + j)) (fs j) (g 2 + nI i)) 1 250
        rw [x3, y3]
        exact (goes_same _ y2 x1 x2).2) (fun j hj => (moodS_in (p4 j hj)).2) (by rw [b3, Int32.add_assoc, nI_1]) b4
      refine ⟨τ, ?_, (p6.trans (c1.mono (by omega) (by omega))).trans k2⟩
      unfold b_X11_years_148
      rw [show f_X4_passDay σ' 94 2 = some s2 from a1, ob_some, nam_e, nI_1]
      exact k1
    have hkK : f_X3_hasKeeper σ 1 (nI (yK X)) = f_X11_between (nI (yK X)) 0 (nI a - 1) := by
      rw [← r1.2.1]; rfl
    have hli : f_X4_isLent σ 94 (nI (yK X)) = f_X12_has l (nI (yK X)) := by
      unfold f_X4_isLent; rw [hl, hasBit_has _ (by omega)]
    rw [b_X11_years_51, if_neg (nI_ge (by omega) (by omega)), year_num hX]
    simp only [nam_e]
    rw [year_k, year_f, hkK]
    show ∃ τ, _ = some (yV g a t (i + 1) (fun j => moodS (yN g a i m l X j)) 0 (yX X) (s + yL g a i m l X), τ) ∧ _
    by_cases q1 : yK X < a
    · rw [hk_in (by omega) q1, if_neg (show ¬ (1 : Int32) = 0 by decide), hli]
      by_cases q2 : f_X12_has l (nI (yK X)) = 0
      · obtain ⟨y, _, y2, y3⟩ := hkd _ q1
        obtain ⟨s1, a1, b1, b2, b3, b4, c1⟩ := bring_c (k0 := 94) (k := yK X) (f := yF X) y3 y2 q1 ha (yF_lt X) r3 (v3 _ q1) hd hl
        have eN : yN g a i m l X = upd m (yK X) (f_X12_moodBehind (m (yK X)) (nI (yF X)) (f_X12_lends (g (4 + yK X)) (g 2 + nI i) (m (yK X)) (nI (yF X)))) := if_pos ⟨q1, q2⟩
        have eL : yL g a i m l X = f_X12_lends (g (4 + yK X)) (g 2 + nI i) (m (yK X)) (nI (yF X)) := if_pos ⟨q1, q2⟩
        have r2' : rowIs s1 95 a fs := r2.same (fun j => (b4 95 j (by omega) (by omega) (by omega)).1) (fun j => (b4 96 j (by omega) (by omega) (by omega)).1)
        rw [if_pos q2, show f_X7_at σ 2 (nI (yK X)) = some (g (4 + yK X)) from at_in r1 q1, ob_some, a1, bnd_some]
        rcases lends01 (g (4 + yK X)) (g 2 + nI i) (m (yK X)) (nI (yF X)) with q3 | q3
        · have es : s + yL g a i m l X = s := by rw [eL, q3]; exact Int32.add_zero s
          rw [if_pos q3, es]
          exact hp s1 s (r1.keep c1 (by omega)) r2' (by rw [eN]; exact b1) b2 (c1.mono (by omega) (by omega))
        · have es : s + yL g a i m l X = s + 1 := by rw [eL, q3]
          rw [if_neg (by rw [q3]; decide), es]
          exact hp s1 (s + 1) (r1.keep c1 (by omega)) r2' (by rw [eN]; exact b1) b2 (c1.mono (by omega) (by omega))
      · have eN : yN g a i m l X = m := if_neg (fun z => q2 z.2)
        have es : s + yL g a i m l X = s := by rw [show yL g a i m l X = 0 from if_neg (fun z => q2 z.2)]; exact Int32.add_zero s
        rw [if_neg q2, es]
        exact hp σ s r1 r2 (by rw [eN]; exact r3) hd Only.rf
    · have eN : yN g a i m l X = m := if_neg (fun z => q1 z.1)
      have es : s + yL g a i m l X = s := by rw [show yL g a i m l X = 0 from if_neg (fun z => q1 z.1)]; exact Int32.add_zero s
      rw [hk_ge (by omega) (by omega) (by omega), if_pos rfl, es]
      exact hp σ s r1 r2 (by rw [eN]; exact r3) hd Only.rf
def Py (a _j : Nat) : Prop := a = 121
theorem i121 {n : Nat} (h : n < 7) : inb (nI n) (kLen 121) = true := inb_nI h (by decide)
theorem yearR_218 {a : Nat} {g : Nat → Int32} (l1 l2 : Int32) (c : Sg → Int32 → Int64 → Int32 → Int32 → Option (Int32 × Sg)) (l3 : Int32) (l4 : Int64) (l6 l7 : Int32) (ha : a ≤ 7) (g0 : g 0 = nI a) (m : Nat → Int32) : ∀ (t i fu : Nat) (σ : Sg), t + i = a → t < fu → rI σ 113 = g → (∀ j, j < a → rI σ 121 j = if j < i then moodS (m j) else m j) → ∃ τ, b_X12_years_218 l1 l2 c fu σ l3 l4 l6 l7 (nI i) = c τ l3 l4 l6 (l7 + 1) ∧ rI τ 113 = g ∧ (∀ j, j < a → rI τ 121 j = moodS (m j)) ∧ Un Py σ τ := by
  intro t
  induction t with
  | zero =>
    intro i fu σ ht hf hg hm
    obtain ⟨fu, rfl⟩ : ∃ q, fu = q + 1 := ⟨fu - 1, by omega⟩
    refine ⟨σ, ?_, hg, fun j hj => by rw [hm j hj, if_pos (by omega)], Un.rf⟩
    rw [b_X12_years_218, if_pos (show inb 0 (kLen 113) = true from i113 (n := 0) (by omega)), hg, show g (ix 0) = nI a from g0, if_pos (nI_le (by omega) (by omega)), nam_e]
  | succ t ih =>
    intro i fu σ ht hf hg hm
    obtain ⟨fu, rfl⟩ : ∃ q, fu = q + 1 := ⟨fu - 1, by omega⟩
    have hi : i < a := by omega
    have hmi : rI σ 121 i = m i := by rw [hm i hi, if_neg (by omega)]
    obtain ⟨τ, k1, k2, k3, k4⟩ := ih (i + 1) fu (stI σ 121 i (moodS (m i))) (by omega) (by omega) (by rw [← hg]; exact funext (fun j => rI_ne _ _ (by omega))) (fun j hj => by
      rw [rI_stI]
      by_cases q : j = i
      · rw [if_pos ⟨rfl, q⟩, if_pos (by omega), q]
      · rw [if_neg (fun z => q z.2), hm j hj]
        by_cases w : j < i
        · rw [if_pos w, if_pos (by omega)]
        · rw [if_neg w, if_neg (by omega)])
    refine ⟨τ, ?_, k2, k3, (Un.stI σ 121 i _ rfl).trans k4⟩
    rw [b_X12_years_218, if_pos (show inb 0 (kLen 113) = true from i113 (n := 0) (by omega)), hg, show g (ix 0) = nI a from g0, if_neg (nI_ge (by omega) (by omega))]
    unfold b_X12_years_282
    simp (disch := omega) only [i121, if_true, ix_nI, hmi, nam_e, nI_1]
    by_cases p1 : m i ≤ 5
    · by_cases p2 : 5 ≤ m i
      · rw [if_pos p1, if_pos p2]
        rw [show moodS (m i) = 5 by unfold moodS; rw [if_pos p1, if_pos p2]] at k1
        exact k1
      · rw [if_pos p1, if_neg p2]
        rw [show moodS (m i) = m i + 1 by unfold moodS; rw [if_pos p1, if_neg p2]] at k1
        exact k1
    · rw [if_neg p1]
      rw [show moodS (m i) = m i - 1 by unfold moodS; rw [if_neg p1]] at k1
      exact k1
theorem yearR_77 {a n : Nat} {g : Nat → Int32} (ha : a ≤ 7) (hn : n ≤ 60) (g0 : g 0 = nI a) (l1 : Int32) : ∀ (t i fu : Nat) (σ : Sg) (m : Nat → Int32) (l s : Int32) (X : Nat), t + i = n → t < fu → X < 2147483648 → rI σ 113 = g → (∀ j, j < a → rI σ 121 j = m j) → ∃ τ, b_X12_years_77 l1 (nI n) fu σ l (lN X) s (nI i) = some (yV g a t i m l X s, τ) ∧ Un Py σ τ := by
  intro t
  induction t with
  | zero =>
    intro i fu σ m l s X ht hf _ _ _
    obtain ⟨fu, rfl⟩ : ∃ q, fu = q + 1 := ⟨fu - 1, by omega⟩
    refine ⟨σ, ?_, Un.rf⟩
    rw [b_X12_years_77, if_pos (nI_le (by omega) (by omega))]
    rfl
  | succ t ih =>
    intro i fu σ m l s X ht hf hX hg hm
    obtain ⟨fu, rfl⟩ : ∃ q, fu = q + 1 := ⟨fu - 1, by omega⟩
    have hK := yK_lt X
    have hp : ∀ (σ' : Sg) (s' : Int32), rI σ' 113 = g → (∀ j, j < a → rI σ' 121 j = yN g a i m l X j) → Un Py σ σ' → ∃ τ, b_X12_years_213 l1 (nI n) (b_X12_years_77 l1 (nI n) fu) σ' (lN (yX X)) s' (nI i) = some (yV g a t (i + 1) (fun j => moodS (yN g a i m l X j)) 0 (yX X) s', τ) ∧ Un Py σ τ := by
      intro σ' s' p1 p2 p3
      obtain ⟨s2, a1, b1, b2, c1⟩ := yearR_218 l1 (nI n) (b_X12_years_77 l1 (nI n) fu) 0 (lN (yX X)) s' (nI i) ha g0 (yN g a i m l X) a 0 FU σ' (by omega) (by unfold FU; omega) p1 (fun j hj => by rw [p2 j hj, if_neg (by omega)])
      obtain ⟨τ, k1, k2⟩ := ih (i + 1) fu s2 (fun j => moodS (yN g a i m l X j)) 0 s' (yX X) (by omega) (by omega) (yX_lt X) b1 b2
      refine ⟨τ, ?_, (p3.trans c1).trans k2⟩
      unfold b_X12_years_213
      rw [nI_1] at a1
      exact (show b_X12_years_218 l1 (nI n) (b_X12_years_77 l1 (nI n) fu) FU σ' 0 (lN (yX X)) s' (nI i) (nI 0) = _ from a1).trans k1
    rw [b_X12_years_77, if_neg (nI_ge (by omega) (by omega)), year_num hX]
    simp only [nam_e]
    rw [year_k, year_f, if_pos (show inb 0 (kLen 113) = true from i113 (n := 0) (by omega)), hg, show g (ix 0) = nI a from g0]
    show ∃ τ, _ = some (yV g a t (i + 1) (fun j => moodS (yN g a i m l X j)) 0 (yX X) (s + yL g a i m l X), τ) ∧ _
    by_cases q1 : yK X < a
    · rw [if_neg (nI_ge q1 (by omega))]
      by_cases q2 : f_X12_has l (nI (yK X)) = 0
      · have eN : yN g a i m l X = upd m (yK X) (f_X12_moodBehind (m (yK X)) (nI (yF X)) (f_X12_lends (g (4 + yK X)) (g 2 + nI i) (m (yK X)) (nI (yF X)))) := if_pos ⟨q1, q2⟩
        have eL : yL g a i m l X = f_X12_lends (g (4 + yK X)) (g 2 + nI i) (m (yK X)) (nI (yF X)) := if_pos ⟨q1, q2⟩
        have h1 : ∀ v, rI (stI σ 121 (yK X) v) 113 = g := fun v => by rw [← hg]; exact funext (fun j => rI_ne _ _ (by omega))
        have h2 : ∀ j, j < a → rI (stI σ 121 (yK X) (f_X12_moodBehind (m (yK X)) (nI (yF X)) (f_X12_lends (g (4 + yK X)) (g 2 + nI i) (m (yK X)) (nI (yF X))))) 121 j = yN g a i m l X j := fun j hj => by
          rw [eN, rI_stI]
          unfold upd
          by_cases q : j = yK X
          · rw [if_pos ⟨rfl, q⟩, if_pos q]
          · rw [if_neg (fun z => q z.2), if_neg q]; exact hm j hj
        rw [if_pos q2]
        unfold b_X12_years_210
        have i2 : inb 2 (kLen 113) = true := i113 (n := 2) (by omega)
        have x2 : ix (2 : Int32) = 2 := ix_nI (n := 2) (by omega)
        simp (disch := omega) only [L4, nI_add, i113, i121, if_true, ix_nI, i2, x2, hm _ q1, nam_e]
        rcases lends01 (g (4 + yK X)) (g 2 + nI i) (m (yK X)) (nI (yF X)) with q3 | q3
        · have es : s + yL g a i m l X = s + 0 := by rw [eL, q3]
          rw [if_pos q3, es]
          exact hp _ (s + 0) (h1 _) h2 (Un.stI _ _ _ _ rfl)
        · have es : s + yL g a i m l X = s + 1 := by rw [eL, q3]
          rw [if_neg (by rw [q3]; decide), es]
          exact hp _ (s + 1) (h1 _) h2 (Un.stI _ _ _ _ rfl)
      · have eN : yN g a i m l X = m := if_neg (fun z => q2 z.2)
        have es : s + yL g a i m l X = s := by rw [show yL g a i m l X = 0 from if_neg (fun z => q2 z.2)]; exact Int32.add_zero s
        rw [if_neg q2, es]
        exact hp σ s hg (fun j hj => by rw [eN]; exact hm j hj) Un.rf
    · have eN : yN g a i m l X = m := if_neg (fun z => q1 z.1)
      have es : s + yL g a i m l X = s := by rw [show yL g a i m l X = 0 from if_neg (fun z => q1 z.1)]; exact Int32.add_zero s
      rw [if_pos (nI_le (by omega) (by omega)), es]
      exact hp σ s hg (fun j hj => by rw [eN]; exact hm j hj) Un.rf
theorem yearR_33 {g : Nat → Int32} (l1 l2 : Int32) : ∀ (t i fu : Nat) (σ : Sg), t + i = 7 → t < fu → rI σ 113 = g → (∀ j, j < i → rI σ 121 j = g (32 + j)) → ∃ τ, b_X12_years_33 l1 l2 fu σ (nI i) = b_X12_years_77 l1 l2 FU τ (g 3) (Int32.toInt64 l1) 0 0 ∧ rI τ 113 = g ∧ (∀ j, j < 7 → rI τ 121 j = g (32 + j)) ∧ Un Py σ τ := by
  intro t
  induction t with
  | zero =>
    intro i fu σ ht hf hg hm
    obtain ⟨fu, rfl⟩ : ∃ q, fu = q + 1 := ⟨fu - 1, by omega⟩
    refine ⟨σ, ?_, hg, fun j hj => hm j (by omega), Un.rf⟩
    rw [b_X12_years_33, if_pos (show (7 : Int32) ≤ nI i from nI_le (a := 7) (by omega) (by omega)), if_pos (show inb 3 (kLen 113) = true from i113 (n := 3) (by omega)), hg, nam_e, nam_e]
    rfl
  | succ t ih =>
    intro i fu σ ht hf hg hm
    obtain ⟨fu, rfl⟩ : ∃ q, fu = q + 1 := ⟨fu - 1, by omega⟩
    obtain ⟨τ, k1, k2, k3, k4⟩ := ih (i + 1) fu (stI σ 121 i (g (32 + i))) (by omega) (by omega) (by rw [← hg]; exact funext (fun j => rI_ne _ _ (by omega))) (fun j hj => by
      rw [rI_stI]
      by_cases q : j = i
      · rw [if_pos ⟨rfl, q⟩, q]
      · rw [if_neg (fun z => q z.2)]; exact hm j (by omega))
    refine ⟨τ, ?_, k2, k3, (Un.stI σ 121 i _ rfl).trans k4⟩
    rw [b_X12_years_33, if_neg (show ¬ (7 : Int32) ≤ nI i from nI_ge (b := 7) (by omega) (by omega)), L32, nI_add, if_pos (i113 (by omega)), if_pos (i121 (by omega)), hg, ix_nI (by omega), ix_nI (by omega), nam_e, nam_e, nI_1]
    exact k1
theorem take_dream {σ : Sg} {a : Nat} {fs m : Nat → Int32} (ha : a ≤ 7) (r1 : rowIs σ 19 a fs) (r2 : rowIs σ 21 a m) : ∃ τ, f_X4_take σ 94 18 = some τ ∧ rowIs τ 95 a fs ∧ rowIs τ 97 a m ∧ rI τ 94 0 = rI σ 18 0 ∧ rI τ 94 1 = rI σ 18 1 ∧ Only 94 99 σ τ := by
  have o1 : Only 94 95 σ (stI (stI σ 94 0 (rI σ 18 0)) 94 1 (rI (stI σ 94 0 (rI σ 18 0)) 18 1)) := (Only.stI σ 94 0 _).trans (Only.stI _ 94 1 _)
  obtain ⟨s1, a1, b1, c1⟩ := take_in (k0 := 95) (k1 := 19) (by omega) (Nat.le_trans ha (by decide)) (r1.keep o1 (by omega))
  obtain ⟨s2, a2, b2, c2⟩ := take_in (k0 := 97) (k1 := 21) (by omega) (Nat.le_trans ha (by decide)) ((r2.keep o1 (by omega)).keep c1 (by omega))
  refine ⟨s2, ?_, b1.keep c2 (by omega), b2, ?_, ?_, ((o1.mono (by omega) (by omega)).trans (c1.mono (by omega) (by omega))).trans (c2.mono (by omega) (by omega))⟩
  · show ((f_X7_take (stI (stI σ 94 0 (rI σ 18 0)) 94 1 (rI (stI σ 94 0 (rI σ 18 0)) 18 1)) 95 19).bind fun s3 => (f_X7_take s3 97 21).bind fun s4 => some s4) = some s2
    rw [a1, ob_some, a2, ob_some]
  · rw [(c2 94 (by omega)).1, (c1 94 (by omega)).1, rI_nj _ _ (by omega), rI_eq]
  · rw [(c2 94 (by omega)).1, (c1 94 (by omega)).1, rI_eq, rI_ne _ _ (by omega)]
theorem m_years {σ : Sg} (h : Inv σ) (v1 v2 : Int32) : Sim (fun s => f_X11_years s v1 v2) (fun s => f_X12_years s v1 v2) σ := by
  by_cases q1 : f_X11_between v1 0 999999 = 0
  · refine ref_bad h (-2) id ?_ (fun τ ht => ?_)
    · show f_X11_years σ v1 v2 = _
      unfold f_X11_years; rw [if_pos q1]; rfl
    · show f_X12_years τ v1 v2 = _
      unfold f_X12_years; rw [in_0_999999, if_pos q1]; rfl
  by_cases q2 : f_X11_between v2 0 60 = 0
  · refine ref_bad h (-2) id ?_ (fun τ ht => ?_)
    · show f_X11_years σ v1 v2 = _
      unfold f_X11_years; rw [if_neg q1, if_pos q2]; rfl
    · show f_X12_years τ v1 v2 = _
      unfold f_X12_years; rw [in_0_999999, if_neg q1, in_0_60, if_pos q2]; rfl
  obtain ⟨sd, _, p1, rfl⟩ := btw_of (lo := 0) (hi := 999999) (by omega) q1 (by omega)
  obtain ⟨n, _, p2, rfl⟩ := btw_of (lo := 0) (hi := 60) (by omega) q2 (by omega)
  obtain ⟨a, b, c, d, e, u, hn, hw, hr⟩ := h.1
  obtain ⟨⟨n0, ha⟩, _⟩ := hn
  obtain ⟨r1, r2, r3, r4, r5, r6, r7, r8, r9, r10, r11, r12⟩ := hr
  obtain ⟨s1, a1, b1, b2, b3, b4, c1⟩ := take_dream ha r11 r12
  obtain ⟨s2, a2, c2⟩ := year_c (g := rI σ 113) ha p2 (fun j hj => (hw.1 j hj).1) (nI sd) n 0 FU s1 (fun j => rI σ 113 (32 + j)) _ (rI σ 113 3) 0 sd (by omega) (by unfold FU; omega) (by omega) (r1.keep c1 (by omega)) b1 b2 (fun j hj => ((hw.2.2.2.2.1.1 j (by omega)).1 hj).1) (fun j hj => ((hw.2.2.2.2.1.1 j (by omega)).1 hj).2) (by rw [b3, show rI σ 18 0 = rI σ 113 2 from r9]; exact (Int32.add_zero _).symm) (b4.trans r10)
  have hu1 : Un Pc σ s2 := (c1.trans c2).un (fun a j p q => by unfold Pc; omega)
  have hg2 : rI s2 113 = rI σ 113 := funext (fun j => ((c1.trans c2) 113 (by omega)).1 j)
  obtain ⟨s3, a3, b5, b6, c3⟩ := yearR_33 (g := rI σ 113) (nI sd) (nI n) 7 0 FU s2 (by omega) (by unfold FU; omega) hg2 (fun j hj => absurd hj (by omega))
  obtain ⟨s4, a4, c4⟩ := yearR_77 (g := rI σ 113) ha p2 n0 (nI sd) n 0 FU s3 (fun j => rI σ 113 (32 + j)) (rI σ 113 3) 0 sd (by omega) (by unfold FU; omega) (by omega) b5 (fun j hj => b6 j (by omega))
  refine ⟨yV (rI σ 113) a n 0 (fun j => rI σ 113 (32 + j)) (rI σ 113 3) sd 0, s2, s4, ?_, ?_, Inv_pass h (hu1.trans ((c3.trans c4).mono (fun a j q => by unfold Py at q; unfold Pc; omega)))⟩
  · show f_X11_years σ (nI sd) (nI n) = _
    unfold f_X11_years
    rw [if_neg q1, if_neg q2, a1, ob_some, nam_e, nI_l (by omega)]
    exact a2
  · show f_X12_years s2 (nI sd) (nI n) = _
    unfold f_X12_years
    rw [in_0_999999, if_neg q1, in_0_60, if_neg q2]
    refine (show b_X12_years_33 (nI sd) (nI n) FU s2 (nI 0) = _ from a3).trans ?_
    rw [nI_l (by omega)]
    exact a4
/-! ===== parts: how many answers are alike ===== -/
def cn (v : Int32) : List Int32 → Nat
  | [] => 0
  | x :: L => cn v L + (if x = v then 1 else 0)
def gr : List Int32 → Nat
  | [] => 0
  | v :: L => max (gr L) (cn v L + 1)
theorem cn_eq (v : Int32) (L : List Int32) : cn v (v :: L) = cn v L + 1 := by
  unfold cn
  rw [if_pos rfl]
  rfl
theorem cn_ne {v x : Int32} (L : List Int32) (h : x ≠ v) : cn v (x :: L) = cn v L := by
  show cn v L + (if x = v then 1 else 0) = cn v L
  rw [if_neg h]
  rfl
theorem gr_c (v : Int32) (L : List Int32) : gr (v :: L) = max (gr L) (cn v L + 1) := rfl
theorem cn_len (v : Int32) : ∀ L : List Int32, cn v L ≤ L.length
  | [] => Nat.le_refl _
  | x :: L => by
    have := cn_len v L
    rw [List.length_cons]
    by_cases q : x = v
    · subst q; rw [cn_eq]; omega
    · rw [cn_ne L q]; omega
theorem gr_len : ∀ L : List Int32, gr L ≤ L.length
  | [] => Nat.le_refl _
  | x :: L => by
    have h1 := gr_len L
    have h2 := cn_len x L
    rw [List.length_cons, gr_c]
    omega
theorem cn_le (v : Int32) : ∀ L : List Int32, cn v L ≤ gr L
  | [] => Nat.le_refl _
  | x :: L => by
    have h1 := cn_le v L
    rw [gr_c]
    by_cases q : x = v
    · subst q; rw [cn_eq]; omega
    · rw [cn_ne L q]; omega
theorem gr_at : ∀ L : List Int32, gr L = 0 ∨ ∃ v, v ∈ L ∧ gr L = cn v L
  | [] => Or.inl rfl
  | x :: L => by
    rw [gr_c]
    by_cases q : gr L ≤ cn x L + 1
    · refine Or.inr ⟨x, List.mem_cons_self, ?_⟩
      rw [cn_eq]; omega
    · rcases gr_at L with h | ⟨v, hv, h⟩
      · omega
      · refine Or.inr ⟨v, List.mem_cons_of_mem _ hv, ?_⟩
        have : x ≠ v := fun z => by subst z; omega
        rw [cn_ne L this]; omega
theorem cn_map {h : Int32 → Int32} (hi : ∀ a b, h a = h b → a = b) (v : Int32) : ∀ L : List Int32, cn (h v) (L.map h) = cn v L
  | [] => rfl
  | x :: L => by
    rw [List.map_cons]
    by_cases q : x = v
    · subst q; rw [cn_eq, cn_eq, cn_map hi x L]
    · rw [cn_ne _ (fun z => q (hi _ _ z)), cn_ne _ q, cn_map hi v L]
theorem gr_map {h : Int32 → Int32} (hi : ∀ a b, h a = h b → a = b) : ∀ L : List Int32, gr (L.map h) = gr L
  | [] => rfl
  | x :: L => by rw [List.map_cons, gr_c, gr_c, gr_map hi L, cn_map hi]
/-- Parts holds the answers of L -/
def PJ (σ : Sg) (L : List Int32) (n : Nat) (f c : Nat → Int32) : Prop := rowIs σ 108 n f ∧ rowIs σ 110 n c ∧ (∀ i, i < n → c i = nI (cn (f i) L)) ∧ (∀ i j, i < n → j < n → f i = f j → i = j) ∧ (∀ v, (∀ i, i < n → f i ≠ v) → cn v L = 0) ∧ rI σ 107 2 = nI (gr L)
def PI (σ : Sg) (L : List Int32) : Prop := ∃ n f c, n ≤ L.length ∧ PJ σ L n f c
theorem parts_restart (σ : Sg) : ∃ τ, f_X6_restart σ = some τ ∧ PI τ [] ∧ Only 107 112 σ τ := by
  obtain ⟨s1, a1, b1, c1⟩ := restart_in σ 108 (fun _ => 0)
  obtain ⟨s2, a2, b2, c2⟩ := restart_in s1 110 (fun _ => 0)
  have o3 : Only 107 108 s2 (stI s2 107 2 0) := Only.stI s2 107 2 0
  refine ⟨stI s2 107 2 0, ?_, ⟨0, _, _, Nat.le_refl _, (b1.keep c2 (by omega)).keep o3 (by omega), b2.keep o3 (by omega), fun i hi => absurd hi (by omega), fun i j hi => absurd hi (by omega), fun _ _ => rfl, rI_eq _ _ _ _⟩, ((c1.mono (by omega) (by omega)).trans (c2.mono (by omega) (by omega))).trans (o3.mono (by omega) (by omega))⟩
  unfold f_X6_restart
  rw [a1, ob_some, a2, ob_some, nam_e]
theorem place_loop {σ : Sg} {n : Nat} {f : Nat → Int32} (v : Int32) (h : rowIs σ 108 n f) (hn : n ≤ 14) : ∀ (t i fu : Nat), t + i = n → t < fu → (∀ j, j < i → f j ≠ v) → (∃ j, j < n ∧ f j = v ∧ b_X6_placeOf_2 v fu σ (nI i) = some (nI j, σ)) ∨ ((∀ j, j < n → f j ≠ v) ∧ b_X6_placeOf_2 v fu σ (nI i) = (f_X7_add σ 108 v).bind fun s1 => (f_X7_add s1 110 0).bind fun s2 => some ((f_X7_size s2 108) - 1, s2)) := by
  intro t
  induction t with
  | zero =>
    intro i fu ht hf hne
    obtain ⟨fu, rfl⟩ : ∃ q, fu = q + 1 := ⟨fu - 1, by omega⟩
    refine Or.inr ⟨fun j hj => hne j (by omega), ?_⟩
    rw [b_X6_placeOf_2, size_in h, if_pos (nI_le (by omega) (by omega))]
  | succ t ih =>
    intro i fu ht hf hne
    obtain ⟨fu, rfl⟩ : ∃ q, fu = q + 1 := ⟨fu - 1, by omega⟩
    rw [b_X6_placeOf_2, size_in h, if_neg (nI_ge (by omega) (by omega)), at_in h (by omega), ob_some]
    by_cases q : f i = v
    · rw [if_pos q]
      exact Or.inl ⟨i, by omega, q, rfl⟩
    · rw [if_neg q, nam_e, nI_1]
      refine ih (i + 1) fu (by omega) (by omega) (fun j hj => ?_)
      by_cases w : j = i
      · rw [w]; exact q
      · exact hne j (by omega)
theorem place_c {σ : Sg} {L : List Int32} (v : Int32) (h : PI σ L) (hL : L.length < 14) : ∃ τ n f c j, f_X6_placeOf σ v = some (nI j, τ) ∧ j < n ∧ f j = v ∧ n ≤ L.length + 1 ∧ PJ τ L n f c ∧ Only 107 112 σ τ := by
  obtain ⟨n, f, c, hn, h1, h2, h3, h4, h5, h6⟩ := h
  rcases place_loop v h1 (by omega) n 0 FU (by omega) (by unfold FU; omega) (fun j hj => absurd hj (by omega)) with ⟨j, j1, j2, j3⟩ | ⟨g1, g2⟩
  · exact ⟨σ, n, f, c, j, j3, j1, j2, by omega, ⟨h1, h2, h3, h4, h5, h6⟩, Only.rf⟩
  · obtain ⟨s1, a1, b1, c1⟩ := add_in v h1 (show n < 14 by omega)
    obtain ⟨s2, a2, b2, c2⟩ := add_in 0 (h2.keep c1 (by omega)) (show n < 14 by omega)
    refine ⟨s2, n + 1, upd f n v, upd c n 0, n, ?_, by omega, pk_us, by omega, ⟨b1.keep c2 (by omega), b2, fun i hi => ?_, fun i j hi hj he => ?_, fun w hw => ?_, ?_⟩, (c1.mono (by omega) (by omega)).trans (c2.mono (by omega) (by omega))⟩
    · refine (show f_X6_placeOf σ v = _ from g2).trans ?_
      rw [a1, ob_some, a2, ob_some, size_in (b1.keep c2 (by omega)), nI_pred]
    · by_cases q : i = n
      · subst q
        rw [pk_us, pk_us, h5 v g1]
        rfl
      · rw [pk_un q, pk_un q]
        exact h3 i (by omega)
    · by_cases q : i = n
      · by_cases w : j = n
        · omega
        · subst q
          rw [pk_us, pk_un w] at he
          exact absurd he.symm (g1 j (by omega))
      · by_cases w : j = n
        · subst w
          rw [pk_us, pk_un q] at he
          exact absurd he (g1 i (by omega))
        · rw [pk_un q, pk_un w] at he
          exact h4 i j (by omega) (by omega) he
    · refine h5 w (fun i hi => ?_)
      have := hw i (by omega)
      rwa [pk_un (by omega)] at this
    · rw [(c2 107 (by omega)).1, (c1 107 (by omega)).1]
      exact h6
theorem parts_add {σ : Sg} {L : List Int32} (v : Int32) (h : PI σ L) (hL : L.length < 14) : ∃ τ, f_X6_add σ v = some τ ∧ PI τ (v :: L) ∧ Only 107 112 σ τ := by
  obtain ⟨s1, n, f, c, j, a1, hj, hv, hn, ⟨h1, h2, h3, h4, h5, h6⟩, c1⟩ := place_c v h hL
  have hc : c j + 1 = nI (cn v L + 1) := by rw [h3 j hj, hv, nI_1]
  have l1 := cn_len v L
  have l2 := gr_len L
  obtain ⟨s2, a2, b2, c2⟩ := put_in (c j + 1) h2 hj
  have hg : rI s2 107 2 = nI (gr L) := by rw [(c2 107 (by omega)).1]; exact h6
  have o3 : Only 107 108 s2 (stI s2 107 2 (nI (gr (v :: L)))) := Only.stI s2 107 2 _
  refine ⟨stI s2 107 2 (nI (gr (v :: L))), ?_, ⟨n, f, upd c j (c j + 1), by rw [List.length_cons]; omega, (h1.keep c2 (by omega)).keep o3 (by omega), b2.keep o3 (by omega), fun i hi => ?_, h4, fun w hw => ?_, rI_eq _ _ _ _⟩, (c1.trans (c2.mono (by omega) (by omega))).trans (o3.mono (by omega) (by omega))⟩
  · unfold f_X6_add
    rw [a1, bnd_some, at_in h2 hj, ob_some, a2, ob_some, at_in b2 hj, ob_some, nam_e, hg, pk_us, hc, gr_c]
    by_cases q : gr L < cn v L + 1
    · rw [if_pos (nI_lt q (by omega)), Nat.max_eq_right (by omega)]
    · rw [if_neg (nI_nlt (by omega) (by omega)), Nat.max_eq_left (by omega)]
  · by_cases q : i = j
    · subst q
      rw [pk_us, hc, hv, cn_eq]
    · rw [pk_un q, cn_ne L (fun z => q (h4 i j hi hj (by rw [hv]; exact z.symm)))]
      exact h3 i hi
  · rw [cn_ne L (fun z => hw j hj (by rw [hv]; exact z))]
    exact h5 w hw
/-- the reference's counts -/
def QI (σ : Sg) (L : List Int32) : Prop := ∀ j, j < 300 → rI σ 120 j = nI (cn (nI j) L)
def Pz (a _j : Nat) : Prop := a = 120
theorem i120 {n : Nat} (h : n < 300) : inb (nI n) (kLen 120) = true := inb_nI h (by decide)
theorem empP_loop : ∀ (t i fu : Nat) (σ : Sg), t + i = 300 → t < fu → (∀ j, j < i → rI σ 120 j = 0) → ∃ τ, b_X12_emptiesParts_2 fu σ (nI i) = some τ ∧ (∀ j, j < 300 → rI τ 120 j = 0) ∧ Un Pz σ τ := by
  intro t
  induction t with
  | zero =>
    intro i fu σ ht hf hm
    obtain ⟨fu, rfl⟩ : ∃ q, fu = q + 1 := ⟨fu - 1, by omega⟩
    refine ⟨σ, ?_, fun j hj => hm j (by omega), Un.rf⟩
    rw [b_X12_emptiesParts_2, if_pos (show (300 : Int32) ≤ nI i from nI_le (a := 300) (by omega) (by omega))]
  | succ t ih =>
    intro i fu σ ht hf hm
    obtain ⟨fu, rfl⟩ : ∃ q, fu = q + 1 := ⟨fu - 1, by omega⟩
    obtain ⟨τ, k1, k2, k3⟩ := ih (i + 1) fu (stI σ 120 i 0) (by omega) (by omega) (fun j hj => by
      rw [rI_stI]
      by_cases q : j = i
      · rw [if_pos ⟨rfl, q⟩]
      · rw [if_neg (fun z => q z.2)]; exact hm j (by omega))
    refine ⟨τ, ?_, k2, (Un.stI σ 120 i _ rfl).trans k3⟩
    rw [b_X12_emptiesParts_2, if_neg (show ¬ (300 : Int32) ≤ nI i from nI_ge (b := 300) (by omega) (by omega)), if_pos (i120 (by omega)), ix_nI (by omega), nam_e, nam_e, nI_1]
    exact k1
theorem empP (σ : Sg) : ∃ τ, f_X12_emptiesParts σ = some τ ∧ QI τ [] ∧ Un Pz σ τ := by
  obtain ⟨τ, k1, k2, k3⟩ := empP_loop 300 0 FU σ rfl (by unfold FU; omega) (fun j hj => absurd hj (by omega))
  exact ⟨τ, k1, fun j hj => k2 j hj, k3⟩
theorem greatP_loop {σ : Sg} {L : List Int32} (h : QI σ L) (hL : L.length ≤ 14) : ∀ (t i fu m : Nat), t + i = 300 → t < fu → m ≤ 14 → ∃ r, b_X12_greatestPart_4 σ fu (nI m) (nI i) = some (nI r) ∧ m ≤ r ∧ (∀ j, i ≤ j → j < 300 → cn (nI j) L ≤ r) ∧ (r = m ∨ ∃ j, j < 300 ∧ r = cn (nI j) L) := by
  intro t
  induction t with
  | zero =>
    intro i fu m ht hf hm
    obtain ⟨fu, rfl⟩ : ∃ q, fu = q + 1 := ⟨fu - 1, by omega⟩
    refine ⟨m, ?_, Nat.le_refl _, fun j h1 h2 => absurd h2 (by omega), Or.inl rfl⟩
    rw [b_X12_greatestPart_4, if_pos (show (300 : Int32) ≤ nI i from nI_le (a := 300) (by omega) (by omega))]
  | succ t ih =>
    intro i fu m ht hf hm
    obtain ⟨fu, rfl⟩ : ∃ q, fu = q + 1 := ⟨fu - 1, by omega⟩
    have hc := cn_len (nI i) L
    rw [b_X12_greatestPart_4, if_neg (show ¬ (300 : Int32) ≤ nI i from nI_ge (b := 300) (by omega) (by omega)), if_pos (i120 (by omega)), ix_nI (by omega), h i (by omega)]
    unfold b_X12_greatestPart_31
    simp only [nam_e, nI_1]
    by_cases q : cn (nI i) L ≤ m
    · obtain ⟨r, k1, k2, k3, k4⟩ := ih (i + 1) fu m (by omega) (by omega) hm
      refine ⟨r, ?_, k2, fun j h1 h2 => ?_, k4⟩
      · rw [if_pos (nI_le q (by omega))]; exact k1
      · by_cases w : j = i
        · subst w; omega
        · exact k3 j (by omega) h2
    · obtain ⟨r, k1, k2, k3, k4⟩ := ih (i + 1) fu (cn (nI i) L) (by omega) (by omega) (by omega)
      refine ⟨r, ?_, by omega, fun j h1 h2 => ?_, Or.inr ?_⟩
      · rw [if_neg (nI_ge (by omega) (by omega)), if_pos (i120 (by omega))]; exact k1
      · by_cases w : j = i
        · subst w; omega
        · exact k3 j (by omega) h2
      · rcases k4 with k4 | k4
        · exact ⟨i, by omega, k4⟩
        · exact k4
theorem greatP {σ : Sg} {L : List Int32} (h : QI σ L) (hL : L.length ≤ 14) (hv : ∀ v, v ∈ L → ∃ j, j < 300 ∧ v = nI j) : f_X12_greatestPart σ = some (nI (gr L)) := by
  obtain ⟨r, k1, _, k3, k4⟩ := greatP_loop h hL 300 0 FU 0 rfl (by unfold FU; omega) (by omega)
  have e1 : r ≤ gr L := by
    rcases k4 with k4 | ⟨j, _, k4⟩
    · omega
    · rw [k4]; exact cn_le _ _
  have e2 : gr L ≤ r := by
    rcases gr_at L with q | ⟨v, q1, q2⟩
    · omega
    · obtain ⟨j, j1, rfl⟩ := hv v q1
      rw [q2]; exact k3 j (by omega) j1
  have : r = gr L := by omega
  rw [← this]
  exact k1
theorem QI_add {σ : Sg} {L : List Int32} {j : Nat} (h : QI σ L) (hj : j < 300) : QI (stI σ 120 j (rI σ 120 j + 1)) (nI j :: L) := by
  intro i hi
  rw [rI_stI]
  by_cases q : i = j
  · subst q
    rw [if_pos ⟨rfl, rfl⟩, h i hi, nI_1, cn_eq]
  · rw [if_neg (fun z => q z.2), h i hi, cn_ne L (fun z => q (nIinj (by omega) (by omega) z).symm)]
theorem QI_zero {σ : Sg} {L : List Int32} {j : Nat} (h : QI σ L) : QI (stI σ 120 j (rI σ 120 j + 0)) L := by
  intro i hi
  rw [rI_stI, Int32.add_zero]
  by_cases q : i = j
  · subst q
    rw [if_pos ⟨rfl, rfl⟩]; exact h i hi
  · rw [if_neg (fun z => q z.2)]; exact h i hi
/-- the first of the least: (which, how many) -/
def oS (o : Option (Nat × Nat)) (d m : Nat) : Option (Nat × Nat) := match o with
  | none => some (d, m)
  | some q => if m < q.2 then some (d, m) else some q
def oB (o : Option (Nat × Nat)) : Int32 := match o with
  | none => -1
  | some q => nI q.1
def oC (o : Option (Nat × Nat)) : Int32 := match o with
  | none => 0
  | some q => nI q.2
def oR (o : Option (Nat × Nat)) : Int32 := match o with
  | none => 1000000
  | some q => nI q.2
def oG (o : Option (Nat × Nat)) : Prop := ∀ q, o = some q → q.1 < 1000 ∧ q.2 < 1000
theorem oG_0 : oG none := fun q h => by cases h
theorem oG_S {o : Option (Nat × Nat)} {d m : Nat} (h : oG o) (hd : d < 1000) (hm : m < 1000) : oG (oS o d m) := by
  intro q hq
  cases o with
  | none =>
    cases hq
    exact ⟨hd, hm⟩
  | some p =>
    by_cases w : m < p.2
    · rw [show oS (some p) d m = some (d, m) from if_pos w] at hq
      cases hq
      exact ⟨hd, hm⟩
    · rw [show oS (some p) d m = some p from if_neg w] at hq
      exact h q hq
theorem nI_nm1 {n : Nat} (h : n < 2 ^ 31) : ¬ nI n = -1 := fun z => by
  have := congrArg Int32.toInt z
  rw [tN h] at this
  have h1 : (-1 : Int32).toInt = -1 := rfl
  omega
theorem best_c {β : Type} {o : Option (Nat × Nat)} {d m : Nat} (X : Int32 → Int32 → β) (h : oG o) (hm : m < 1000) : (if oB o = -1 then X (nI d) (nI m) else (if oC o ≤ nI m then X (oB o) (oC o) else X (nI d) (nI m))) = X (oB (oS o d m)) (oC (oS o d m)) := by
  cases o with
  | none => exact if_pos rfl
  | some p =>
    obtain ⟨h1, h2⟩ := h p rfl
    rw [if_neg (show ¬ oB (some p) = -1 from nI_nm1 (by omega))]
    by_cases w : m < p.2
    · rw [if_neg (show ¬ oC (some p) ≤ nI m from nI_ge w (by omega)), show oS (some p) d m = some (d, m) from if_pos w]
      rfl
    · rw [if_pos (show oC (some p) ≤ nI m from nI_le (by omega) (by omega)), show oS (some p) d m = some p from if_neg w]
theorem best_r {β : Type} {o : Option (Nat × Nat)} {d m : Nat} (Y : Int32 → Int32 → β) (h : oG o) (hm : m < 1000) : (if oR o ≤ nI m then (if oR o ≤ nI m then Y (oB o) (oR o) else Y (oB o) (nI m)) else (if oR o ≤ nI m then Y (nI d) (oR o) else Y (nI d) (nI m))) = Y (oB (oS o d m)) (oR (oS o d m)) := by
  cases o with
  | none =>
    have : ¬ oR none ≤ nI m := nI_ge (b := 1000000) (by omega) (by omega)
    rw [if_neg this, if_neg this]
    rfl
  | some p =>
    obtain ⟨h1, h2⟩ := h p rfl
    by_cases w : m < p.2
    · have : ¬ oR (some p) ≤ nI m := nI_ge w (by omega)
      rw [if_neg this, if_neg this, show oS (some p) d m = some (d, m) from if_pos w]
      rfl
    · have : oR (some p) ≤ nI m := nI_le (by omega) (by omega)
      rw [if_pos this, if_pos this, show oS (some p) d m = some p from if_neg w]
/-- an answer more, where the bit stands -/
def wL (st : Nat → Int32) (b : Int32) : Nat → List Int32 → List Int32 := fun k L => if f_X12_has b (nI k) = 0 then L else st k :: L
theorem wL_len (st : Nat → Int32) (b : Int32) : ∀ (t i : Nat) (L : List Int32), (fo (wL st b) i t L).length ≤ L.length + t
  | 0, _, _ => Nat.le_refl _
  | t + 1, i, L => by
    have h := wL_len st b t (i + 1) (wL st b i L)
    rw [fo_s]
    have h2 : (wL st b i L).length ≤ L.length + 1 := by
      unfold wL
      split
      · omega
      · rw [List.length_cons]; omega
    omega
theorem wL_mem (P : Int32 → Prop) {st : Nat → Int32} (b : Int32) : ∀ (t i : Nat) (L : List Int32), (∀ v, v ∈ L → P v) → (∀ k, k < i + t → P (st k)) → ∀ v, v ∈ fo (wL st b) i t L → P v
  | 0, _, _, h, _, v, hv => h v hv
  | t + 1, i, L, h, hs, v, hv => by
    rw [fo_s] at hv
    refine wL_mem P b t (i + 1) (wL st b i L) (fun w hw => ?_) (fun k hk => hs k (by omega)) v hv
    unfold wL at hw
    by_cases q : f_X12_has b (nI i) = 0
    · rw [if_pos q] at hw; exact h w hw
    · rw [if_neg q] at hw
      rcases List.mem_cons.mp hw with rfl | hw
      · exact hs i (by omega)
      · exact h w hw
theorem wL_map (h : Int32 → Int32) (st : Nat → Int32) (b : Int32) : ∀ (t i : Nat) (L : List Int32), fo (wL (fun k => h (st k)) b) i t (L.map h) = (fo (wL st b) i t L).map h
  | 0, _, _ => rfl
  | t + 1, i, L => by
    rw [fo_s, fo_s, ← wL_map h st b t (i + 1)]
    congr 1
    unfold wL
    by_cases q : f_X12_has b (nI i) = 0
    · rw [if_pos q, if_pos q]
    · rw [if_neg q, if_neg q, List.map_cons]
theorem one_inj (a b : Int32) (h : 1 + a = 1 + b) : a = b := by
  have e : ∀ x : Int32, -1 + (1 + x) = x := fun x => by
    rw [← Int32.add_assoc, show (-1 : Int32) + 1 = 0 from by decide, Int32.zero_add]
  rw [← e a, ← e b, h]
/-! ===== watch ===== -/
def stD (g : Int32) (d : Nat) : Nat → Int32 := fun k => f_X12_goes (nI k) g (nI d)
theorem PI_gr {σ : Sg} {L : List Int32} (h : PI σ L) : f_X6_greatestPart σ = nI (gr L) := by
  obtain ⟨n, f, c, _, _, _, _, _, _, h6⟩ := h
  exact h6
theorem dayC_in {x d : Nat} (b : Int32) (c8 : Sg → Int32 → Int32 → Int32 → Option (Int32 × Sg)) {o : Option (Nat × Nat)} (hx : 1 ≤ x) (hx2 : x ≤ 250) (ho : oG o) : ∀ (t i fu : Nat) (σ : Sg) (L : List Int32), t + i = 6 → t < fu → PI σ L → L.length + t ≤ 14 → ∃ τ, b_X1_bestDay_22 b (nI x) c8 fu σ (oB o) (oC o) (nI d) (nI i) = c8 τ (oB (oS o d (gr (fo (wL (stD (nI x) d) b) i t L)))) (oC (oS o d (gr (fo (wL (stD (nI x) d) b) i t L)))) (nI (d + 1)) ∧ Only 107 112 σ τ := by
  intro t
  induction t with
  | zero =>
    intro i fu σ L ht hf h hL
    obtain ⟨fu, rfl⟩ : ∃ q, fu = q + 1 := ⟨fu - 1, by omega⟩
    have hl := gr_len L
    refine ⟨σ, ?_, Only.rf⟩
    rw [b_X1_bestDay_22, if_pos (show (6 : Int32) ≤ nI i from nI_le (a := 6) (by omega) (by omega)), PI_gr h]
    unfold b_X1_bestDay_70 b_X1_bestDay_79
    simp only [nam_e, nI_1]
    rw [PI_gr h]
    exact best_c (m := gr L) (fun a b => c8 σ a b (nI (d + 1))) ho (by omega)
  | succ t ih =>
    intro i fu σ L ht hf h hL
    obtain ⟨fu, rfl⟩ : ∃ q, fu = q + 1 := ⟨fu - 1, by omega⟩
    rw [b_X1_bestDay_22, if_neg (show ¬ (6 : Int32) ≤ nI i from nI_ge (b := 6) (by omega) (by omega)), hasBit_has _ (by omega), fo_s]
    unfold b_X1_bestDay_50
    simp only [nam_e, nI_1]
    by_cases q : f_X12_has b (nI i) = 0
    · rw [if_pos q, show wL (stD (nI x) d) b i L = L from if_pos q]
      exact ih (i + 1) fu σ L (by omega) (by omega) h (by omega)
    · obtain ⟨s1, a1, b1, c1⟩ := parts_add (stD (nI x) d i) h (by omega)
      obtain ⟨τ, k1, k2⟩ := ih (i + 1) fu s1 (stD (nI x) d i :: L) (by omega) (by omega) b1 (by rw [List.length_cons]; omega)
      rw [if_neg q, show wL (stD (nI x) d) b i L = stD (nI x) d i :: L from if_neg q, (goes_same (nI d) (show i ≤ 5 by omega) hx hx2).1, show f_X6_add σ (f_X12_goes (nI i) (nI x) (nI d)) = some s1 from a1, ob_some]
      exact ⟨τ, k1, c1.trans k2⟩
theorem dayC_out {x : Nat} (b : Int32) (hx : 1 ≤ x) (hx2 : x ≤ 250) : ∀ (t i fu : Nat) (σ : Sg) (o : Option (Nat × Nat)), t + i = 12 → t < fu → oG o → ∃ τ, b_X1_bestDay_8 b (nI x) fu σ (oB o) (oC o) (nI i) = some (oB (fo (fun d o => oS o d (gr (fo (wL (stD (nI x) d) b) 0 6 []))) i t o), τ) ∧ Only 107 112 σ τ := by
  intro t
  induction t with
  | zero =>
    intro i fu σ o ht hf ho
    obtain ⟨fu, rfl⟩ : ∃ q, fu = q + 1 := ⟨fu - 1, by omega⟩
    refine ⟨σ, ?_, Only.rf⟩
    rw [b_X1_bestDay_8, if_pos (show (11 : Int32) < nI i from nI_lt (a := 11) (by omega) (by omega))]
    rfl
  | succ t ih =>
    intro i fu σ o ht hf ho
    obtain ⟨fu, rfl⟩ : ∃ q, fu = q + 1 := ⟨fu - 1, by omega⟩
    obtain ⟨s1, a1, b1, c1⟩ := parts_restart σ
    obtain ⟨s2, a2, c2⟩ := dayC_in (d := i) b (b_X1_bestDay_8 b (nI x) fu) hx hx2 ho 6 0 FU s1 [] (by omega) (by unfold FU; omega) b1 (by decide)
    have hl := wL_len (stD (nI x) i) b 6 0 []
    have hl2 := gr_len (fo (wL (stD (nI x) i) b) 0 6 [])
    rw [List.length_nil] at hl
    obtain ⟨τ, k1, k2⟩ := ih (i + 1) fu s2 (oS o i (gr (fo (wL (stD (nI x) i) b) 0 6 []))) (by omega) (by omega) (oG_S ho (by omega) (by omega))
    refine ⟨τ, ?_, (c1.trans c2).trans k2⟩
    rw [b_X1_bestDay_8, if_neg (show ¬ (11 : Int32) < nI i from nI_nlt (a := 11) (b := i) (by omega) (by omega)), a1, ob_some, fo_s]
    exact (show b_X1_bestDay_22 b (nI x) (b_X1_bestDay_8 b (nI x) fu) FU s1 (oB o) (oC o) (nI i) (nI 0) = _ from a2).trans k1
theorem Pz_w {σ τ : Sg} (h : Un Pz σ τ) (j : Nat) : rI τ 113 j = rI σ 113 j := (h 113 j (by unfold Pz; omega)).1
theorem dayR_in {x d k : Nat} (b : Int32) (c30 : Sg → Int32 → Int32 → Int32 → Int32 → Option (Int32 × Sg)) {o : Option (Nat × Nat)} (hk : k < 7) (hx : 1 ≤ x) (hx2 : x ≤ 250) (ho : oG o) : ∀ (t i fu : Nat) (σ : Sg) (L : List Int32), t + i = 6 → t < fu → QI σ L → rI σ 113 (18 + k) = nI x → L.length + t ≤ 14 → (∀ v, v ∈ L → ∃ j, j < 300 ∧ v = nI j) → ∃ τ, b_X12_watch_48 (nI k) c30 fu σ b (oB o) (oR o) (nI d) (nI i) = c30 τ b (oB (oS o d (gr (fo (wL (stD (nI x) d) b) i t L)))) (oR (oS o d (gr (fo (wL (stD (nI x) d) b) i t L)))) (nI (d + 1)) ∧ Un Pz σ τ := by
  intro t
  induction t with
  | zero =>
    intro i fu σ L ht hf h hg hL hv
    obtain ⟨fu, rfl⟩ : ∃ q, fu = q + 1 := ⟨fu - 1, by omega⟩
    have hl := gr_len L
    refine ⟨σ, ?_, Un.rf⟩
    rw [b_X12_watch_48, if_pos (show (6 : Int32) ≤ nI i from nI_le (a := 6) (by omega) (by omega)), greatP h (by omega) hv, ob_some]
    unfold b_X12_watch_118 b_X12_watch_133
    simp only [nam_e, nI_1]
    exact best_r (m := gr L) (fun a b' => c30 σ b a b' (nI (d + 1))) ho (by omega)
  | succ t ih =>
    intro i fu σ L ht hf h hg hL hv
    obtain ⟨fu, rfl⟩ : ∃ q, fu = q + 1 := ⟨fu - 1, by omega⟩
    obtain ⟨y, y1, y2, y3⟩ := (goes_same (nI d) (show i ≤ 5 by omega) hx hx2).2
    have e1 : inb (18 + nI k) (kLen 113) = true := by rw [L18, nI_add]; exact i113 (by omega)
    have e2 : rI σ 113 (ix (18 + nI k)) = nI x := by rw [L18, nI_add, ix_nI (by omega)]; exact hg
    have e3 : stD (nI x) d i = nI y := y3
    rw [b_X12_watch_48, if_neg (show ¬ (6 : Int32) ≤ nI i from nI_ge (b := 6) (by omega) (by omega)), if_pos e1, e2, y3, if_pos (i120 (by omega)), ix_nI (by omega), fo_s]
    unfold b_X12_watch_91
    rw [if_pos (i120 (show y < 300 by omega)), if_pos (i120 (show y < 300 by omega)), ix_nI (by omega)]
    simp only [nam_e, nI_1]
    by_cases q : f_X12_has b (nI i) = 0
    · rw [if_pos q, show wL (stD (nI x) d) b i L = L from if_pos q]
      obtain ⟨τ, k1, k2⟩ := ih (i + 1) fu (stI σ 120 y (rI σ 120 y + 0)) L (by omega) (by omega) (QI_zero h) (by rw [rI_ne _ _ (by omega)]; exact hg) (by omega) hv
      exact ⟨τ, k1, (Un.stI σ 120 y _ rfl).trans k2⟩
    · rw [if_neg q, show wL (stD (nI x) d) b i L = nI y :: L from (if_neg q).trans (by rw [e3])]
      obtain ⟨τ, k1, k2⟩ := ih (i + 1) fu (stI σ 120 y (rI σ 120 y + 1)) (nI y :: L) (by omega) (by omega) (QI_add h (by omega)) (by rw [rI_ne _ _ (by omega)]; exact hg) (by rw [List.length_cons]; omega) (fun v hv2 => by
        rcases List.mem_cons.mp hv2 with rfl | hv2
        · exact ⟨y, by omega, rfl⟩
        · exact hv v hv2)
      exact ⟨τ, k1, (Un.stI σ 120 y _ rfl).trans k2⟩
theorem dayR_out {x k z : Nat} (hz : 0 < z) (hz2 : z < 64) (hk : k < 7) (hx : 1 ≤ x) (hx2 : x ≤ 250) : ∀ (t i fu : Nat) (σ : Sg) (o : Option (Nat × Nat)), t + i = 12 → t < fu → oG o → rI σ 113 (18 + k) = nI x → ∃ τ, b_X12_watch_30 (nI k) fu σ (nI z) (oB o) (oR o) (nI i) = some (oB (fo (fun d o => oS o d (gr (fo (wL (stD (nI x) d) (nI z)) 0 6 []))) i t o), τ) ∧ Un Pz σ τ := by
  intro t
  induction t with
  | zero =>
    intro i fu σ o ht hf ho hg
    obtain ⟨fu, rfl⟩ : ∃ q, fu = q + 1 := ⟨fu - 1, by omega⟩
    refine ⟨σ, ?_, Un.rf⟩
    rw [b_X12_watch_30, if_pos (show (12 : Int32) ≤ nI i from nI_le (a := 12) (by omega) (by omega))]
    rfl
  | succ t ih =>
    intro i fu σ o ht hf ho hg
    obtain ⟨fu, rfl⟩ : ∃ q, fu = q + 1 := ⟨fu - 1, by omega⟩
    obtain ⟨s1, a1, b1, c1⟩ := empP σ
    obtain ⟨s2, a2, c2⟩ := dayR_in (d := i) (nI z) (b_X12_watch_30 (nI k) fu) hk hx hx2 ho 6 0 FU s1 [] (by omega) (by unfold FU; omega) b1 ((Pz_w c1 _).trans hg) (by decide) (fun v hv => by cases hv)
    have hl := wL_len (stD (nI x) i) (nI z) 6 0 []
    have hl2 := gr_len (fo (wL (stD (nI x) i) (nI z)) 0 6 [])
    rw [List.length_nil] at hl
    obtain ⟨τ, k1, k2⟩ := ih (i + 1) fu s2 (oS o i (gr (fo (wL (stD (nI x) i) (nI z)) 0 6 []))) (by omega) (by omega) (oG_S ho (by omega) (by omega)) ((Pz_w c2 _).trans ((Pz_w c1 _).trans hg))
    refine ⟨τ, ?_, (c1.trans c2).trans k2⟩
    rw [b_X12_watch_30, if_neg (show ¬ (12 : Int32) ≤ nI i from nI_ge (b := 12) (by omega) (by omega)), if_neg (show ¬ nI z ≤ 0 from nI_nle hz (by omega)), a1, ob_some, fo_s]
    exact (show b_X12_watch_48 (nI k) (b_X12_watch_30 (nI k) fu) FU s1 (nI z) (oB o) (oR o) (nI i) (nI 0) = _ from a2).trans k1
theorem m_watch {σ : Sg} (h : Inv σ) (v : Int32) : Sim (fun s => f_X11_watch s v) (fun s => f_X12_watch s v) σ := by
  by_cases q1 : f_X11_between v 0 (rI σ 113 0 - 1) = 0
  · refine ref_bad h (-2) id ?_ (fun τ ht => ?_)
    · show f_X11_watch σ v = _
      unfold f_X11_watch; rw [hasK_c h, if_pos q1]; rfl
    · show f_X12_watch τ v = _
      unfold f_X12_watch; rw [isK_r, ht 113 0 (by omega), ob_some, if_pos q1]; rfl
  obtain ⟨z, z1, e1, e2⟩ := kindsN h v
  by_cases qz : z = 0
  · subst qz
    refine Sim.pure h (-1) ?_ ?_
    · show f_X11_watch σ v = _
      unfold f_X11_watch
      rw [hasK_c h, if_neg q1, e1, ob_some, if_pos (show nI 0 = 0 from rfl)]
    · show f_X12_watch σ v = _
      unfold f_X12_watch
      rw [isK_r, ob_some, if_neg q1, e2 σ (fun _ => rfl), ob_some]
      obtain ⟨fu, hfu⟩ : ∃ q, FU = q + 1 := ⟨999999, rfl⟩
      rw [hfu, b_X12_watch_30, if_neg (by decide), if_pos (show nI 0 ≤ 0 by decide)]
  obtain ⟨a, b, c, d, e, u, hn, hw, hr⟩ := h.1
  obtain ⟨⟨n0, ha⟩, _⟩ := hn
  have q1' := q1
  rw [n0] at q1'
  obtain ⟨k, hk, rfl⟩ := hk_of (by omega) q1'
  obtain ⟨r1, r2, r3, r4, r5, r6, r7, r8, r9, r10, r11, r12⟩ := hr
  obtain ⟨x, x1, x2, x3⟩ := ((hw.2.2.2.2.1.1 k (by omega)).1 hk).1
  obtain ⟨s1, a1, c1⟩ := dayC_out (nI z) x1 x2 12 0 FU σ none (by omega) (by unfold FU; omega) oG_0
  have hc : Un Pc σ s1 := c1.un (fun a j p q => by unfold Pc; omega)
  have hs : ∀ j, rI s1 113 j = rI σ 113 j := fun j => (c1 113 (by omega)).1 j
  obtain ⟨s2, a2, c2⟩ := dayR_out (k := k) (z := z) (by omega) z1 (by omega) x1 x2 12 0 FU s1 none (by omega) (by unfold FU; omega) oG_0 ((hs _).trans x3)
  refine ⟨oB (fo (fun d o => oS o d (gr (fo (wL (stD (nI x) d) (nI z)) 0 6 []))) 0 12 none), s1, s2, ?_, ?_, Inv_pass h (hc.trans (c2.mono (fun a j q => by unfold Pz at q; unfold Pc; omega)))⟩
  · show f_X11_watch σ (nI k) = _
    unfold f_X11_watch
    rw [hasK_c h, if_neg q1, e1, ob_some, if_neg (nI_ne0 (by omega) (by omega)), show f_X7_at σ 19 (nI k) = some (rI σ 113 (18 + k)) from at_in r11 hk, ob_some, x3, show f_X1_bestDay σ (nI z) (nI x) = _ from a1, bnd_some]
  · show f_X12_watch s1 (nI k) = _
    unfold f_X12_watch
    rw [isK_r, hs 0, ob_some, if_neg q1, e2 s1 hs, ob_some]
    exact a2
/-! ===== lay ===== -/
def tp3 (v : Int32) : Prop := v = 0 ∨ v = 1 ∨ v = -1
theorem tp3_true (x y : Int32) : tp3 (f_X12_trueTip x y) := by
  unfold f_X12_trueTip
  split
  · split
    · exact Or.inl rfl
    · exact Or.inr (Or.inr rfl)
  · exact Or.inr (Or.inl rfl)
theorem tp3_neg {v : Int32} (h : tp3 v) : tp3 (-v) := by
  rcases h with rfl | rfl | rfl
  · exact Or.inl (by decide)
  · exact Or.inr (Or.inr rfl)
  · exact Or.inr (Or.inl (by decide))
theorem tp3_stiff (x y : Int32) : tp3 (f_X12_stiffTip x y) := by
  unfold f_X12_stiffTip
  split
  · exact tp3_true x y
  · exact Or.inl rfl
theorem tp3_tip (k x y : Int32) : tp3 (f_X12_tipOf k x y) := by
  unfold f_X12_tipOf
  repeat' split
  all_goals first | exact tp3_stiff _ _ | exact tp3_true _ _ | exact tp3_neg (tp3_true _ _) | exact Or.inl rfl
theorem tp3_1 {v : Int32} (h : tp3 v) : ∃ j, j < 3 ∧ 1 + v = nI j := by
  rcases h with rfl | rfl | rfl
  · exact ⟨1, by omega, by decide⟩
  · exact ⟨2, by omega, by decide⟩
  · exact ⟨0, by omega, by decide⟩
def tS (d : Nat) : Nat → Int32 := fun k => f_X12_tipOf (nI k) (nI (d / 10)) (nI (d % 10))
theorem layC_add {l r : Nat} (b : Int32) (hl : l ≤ 9) (hr : r ≤ 9) : ∀ (t i fu : Nat) (σ : Sg) (L : List Int32), t + i = 6 → t < fu → PI σ L → L.length + t ≤ 14 → ∃ τ, b_X1_addTipsOfKinds_3 b (nI l) (nI r) fu σ (nI i) = some τ ∧ PI τ (fo (wL (tS (10 * l + r)) b) i t L) ∧ Only 107 112 σ τ := by
  intro t
  induction t with
  | zero =>
    intro i fu σ L ht hf h hL
    obtain ⟨fu, rfl⟩ : ∃ q, fu = q + 1 := ⟨fu - 1, by omega⟩
    refine ⟨σ, ?_, h, Only.rf⟩
    rw [b_X1_addTipsOfKinds_3, if_pos (show (6 : Int32) ≤ nI i from nI_le (a := 6) (by omega) (by omega))]
  | succ t ih =>
    intro i fu σ L ht hf h hL
    obtain ⟨fu, rfl⟩ : ∃ q, fu = q + 1 := ⟨fu - 1, by omega⟩
    have e1 : tS (10 * l + r) i = f_X12_tipOf (nI i) (nI l) (nI r) := by
      unfold tS
      rw [show (10 * l + r) / 10 = l by omega, show (10 * l + r) % 10 = r by omega]
    rw [b_X1_addTipsOfKinds_3, if_neg (show ¬ (6 : Int32) ≤ nI i from nI_ge (b := 6) (by omega) (by omega)), hasBit_has _ (by omega), fo_s]
    unfold b_X1_addTipsOfKinds_30
    simp only [nam_e, nI_1]
    by_cases q : f_X12_has b (nI i) = 0
    · rw [if_pos q, show wL (tS (10 * l + r)) b i L = L from if_pos q]
      exact ih (i + 1) fu σ L (by omega) (by omega) h (by omega)
    · obtain ⟨s1, a1, b1, c1⟩ := parts_add (tS (10 * l + r) i) h (by omega)
      obtain ⟨τ, k1, k2, k3⟩ := ih (i + 1) fu s1 (tS (10 * l + r) i :: L) (by omega) (by omega) b1 (by rw [List.length_cons]; omega)
      rw [if_neg q, show wL (tS (10 * l + r)) b i L = tS (10 * l + r) i :: L from if_neg q, tip_kind (show i ≤ 5 by omega) (show l ≤ 2000 by omega) (show r ≤ 2000 by omega), ← e1, a1, ob_some]
      exact ⟨τ, k1, k2, c1.trans k3⟩
/-- what the question d leaves at worst -/
def tM (b : Int32) (d : Nat) : Nat := gr (fo (wL (tS d) b) 0 6 [])
theorem tM_le (b : Int32) (d : Nat) : tM b d ≤ 6 := by
  have hl := wL_len (tS d) b 6 0 []
  have hl2 := gr_len (fo (wL (tS d) b) 0 6 [])
  rw [List.length_nil] at hl
  unfold tM
  omega
def oT (b : Int32) : Nat → Option (Nat × Nat) → Option (Nat × Nat) := fun d o => oS o d (tM b d)
theorem layC_in {l : Nat} (b : Int32) (c7 : Sg → Int32 → Int32 → Int32 → Option (Int32 × Sg)) (hl : l ≤ 9) : ∀ (t r fu : Nat) (σ : Sg) (o : Option (Nat × Nat)), t + r = 10 → t < fu → oG o → ∃ τ, b_X1_bestGrains_17 b c7 fu σ (oB o) (oC o) (nI l) (nI r) = c7 τ (oB (fo (oT b) (10 * l + r) t o)) (oC (fo (oT b) (10 * l + r) t o)) (nI (l + 1)) ∧ oG (fo (oT b) (10 * l + r) t o) ∧ Only 107 112 σ τ := by
  intro t
  induction t with
  | zero =>
    intro r fu σ o ht hf ho
    obtain ⟨fu, rfl⟩ : ∃ q, fu = q + 1 := ⟨fu - 1, by omega⟩
    refine ⟨σ, ?_, ho, Only.rf⟩
    rw [b_X1_bestGrains_17, if_pos (show (9 : Int32) < nI r from nI_lt (a := 9) (by omega) (by omega)), nam_e, nI_1]
    rfl
  | succ t ih =>
    intro r fu σ o ht hf ho
    obtain ⟨fu, rfl⟩ : ∃ q, fu = q + 1 := ⟨fu - 1, by omega⟩
    have hm := tM_le b (10 * l + r)
    obtain ⟨s1, a1, b1, c1⟩ := parts_restart σ
    obtain ⟨s2, a2, b2, c2⟩ := layC_add b hl (show r ≤ 9 by omega) 6 0 FU s1 [] (by omega) (by unfold FU; omega) b1 (by decide)
    obtain ⟨τ, k1, k2, k3⟩ := ih (r + 1) fu s2 (oT b (10 * l + r) o) (by omega) (by omega) (oG_S ho (by omega) (by omega))
    refine ⟨τ, ?_, k2, (c1.trans c2).trans k3⟩
    have hg : f_X6_greatestPart s2 = nI (tM b (10 * l + r)) := PI_gr b2
    rw [b_X1_bestGrains_17, if_neg (show ¬ (9 : Int32) < nI r from nI_nlt (a := 9) (b := r) (by omega) (by omega)), a1, ob_some, show f_X1_addTipsOfKinds s1 b (nI l) (nI r) = some s2 from a2, ob_some, hg, fo_s]
    unfold b_X1_bestGrains_50 b_X1_bestGrains_64
    simp only [nam_e, nI_1]
    rw [hg, L10, pk_mul, nI_add]
    exact (best_c (d := 10 * l + r) (m := tM b (10 * l + r)) (fun x y => b_X1_bestGrains_17 b c7 fu s2 x y (nI l) (nI (r + 1))) ho (by omega)).trans k1
theorem layC_out (b : Int32) : ∀ (t l fu : Nat) (σ : Sg) (o : Option (Nat × Nat)), t + l = 10 → t < fu → oG o → ∃ τ, b_X1_bestGrains_7 b fu σ (oB o) (oC o) (nI l) = some (oB (fo (oT b) (10 * l) (10 * t) o), τ) ∧ Only 107 112 σ τ := by
  intro t
  induction t with
  | zero =>
    intro l fu σ o ht hf ho
    obtain ⟨fu, rfl⟩ : ∃ q, fu = q + 1 := ⟨fu - 1, by omega⟩
    refine ⟨σ, ?_, Only.rf⟩
    rw [b_X1_bestGrains_7, if_pos (show (9 : Int32) < nI l from nI_lt (a := 9) (by omega) (by omega))]
    rfl
  | succ t ih =>
    intro l fu σ o ht hf ho
    obtain ⟨fu, rfl⟩ : ∃ q, fu = q + 1 := ⟨fu - 1, by omega⟩
    obtain ⟨s1, a1, b1, c1⟩ := layC_in b (b_X1_bestGrains_7 b fu) (show l ≤ 9 by omega) 10 0 FU σ o (by omega) (by unfold FU; omega) ho
    obtain ⟨τ, k1, k2⟩ := ih (l + 1) fu s1 (fo (oT b) (10 * l + 0) 10 o) (by omega) (by omega) b1
    refine ⟨τ, ?_, c1.trans k2⟩
    rw [b_X1_bestGrains_7, if_neg (show ¬ (9 : Int32) < nI l from nI_nlt (a := 9) (b := l) (by omega) (by omega)), show 10 * (t + 1) = 10 + 10 * t by omega, fo_add]
    exact (show b_X1_bestGrains_17 b (b_X1_bestGrains_7 b fu) FU σ (oB o) (oC o) (nI l) (nI 0) = _ from a1).trans k1
theorem layR_in {d : Nat} (l1 b : Int32) (c30 : Sg → Int32 → Int32 → Int32 → Int32 → Option (Int32 × Sg)) {o : Option (Nat × Nat)} (hd : d < 100) (ho : oG o) : ∀ (t i fu : Nat) (σ : Sg) (L : List Int32), t + i = 6 → t < fu → QI σ (L.map (fun v => 1 + v)) → L.length + t ≤ 14 → (∀ v, v ∈ L → tp3 v) → ∃ τ, b_X12_lay_48 l1 c30 fu σ b (oB o) (oR o) (nI d) (nI i) = c30 τ b (oB (oS o d (gr (fo (wL (tS d) b) i t L)))) (oR (oS o d (gr (fo (wL (tS d) b) i t L)))) (nI (d + 1)) ∧ Un Pz σ τ := by
  intro t
  induction t with
  | zero =>
    intro i fu σ L ht hf h hL hv
    obtain ⟨fu, rfl⟩ : ∃ q, fu = q + 1 := ⟨fu - 1, by omega⟩
    have hl := gr_len L
    refine ⟨σ, ?_, Un.rf⟩
    rw [b_X12_lay_48, if_pos (show (6 : Int32) ≤ nI i from nI_le (a := 6) (by omega) (by omega)), greatP h (by rw [List.length_map]; omega) (fun v hv2 => by
      obtain ⟨w, w1, rfl⟩ := List.mem_map.mp hv2
      obtain ⟨j, j1, j2⟩ := tp3_1 (hv w w1)
      exact ⟨j, by omega, j2⟩), ob_some, gr_map one_inj]
    unfold b_X12_lay_119 b_X12_lay_134
    simp only [nam_e, nI_1]
    exact best_r (m := gr L) (fun a b' => c30 σ b a b' (nI (d + 1))) ho (by omega)
  | succ t ih =>
    intro i fu σ L ht hf h hL hv
    obtain ⟨fu, rfl⟩ : ∃ q, fu = q + 1 := ⟨fu - 1, by omega⟩
    have ht3 : tp3 (tS d i) := tp3_tip _ _ _
    obtain ⟨y, y1, y2⟩ := tp3_1 ht3
    have e1 : 1 + f_X12_tipOf (nI i) (nI d / 10) (nI d - nI d / 10 * 10) = nI y := by
      rw [← y2, L10, pk_div (by omega) (by omega) (by omega), pk_mul, pk_sub (by omega)]
      unfold tS
      rw [show d - d / 10 * 10 = d % 10 by omega]
    rw [b_X12_lay_48, if_neg (show ¬ (6 : Int32) ≤ nI i from nI_ge (b := 6) (by omega) (by omega)), e1, if_pos (i120 (by omega)), ix_nI (by omega), fo_s]
    unfold b_X12_lay_92
    rw [if_pos (i120 (show y < 300 by omega)), if_pos (i120 (show y < 300 by omega)), ix_nI (by omega)]
    simp only [nam_e, nI_1]
    by_cases q : f_X12_has b (nI i) = 0
    · rw [if_pos q, show wL (tS d) b i L = L from if_pos q]
      obtain ⟨τ, k1, k2⟩ := ih (i + 1) fu (stI σ 120 y (rI σ 120 y + 0)) L (by omega) (by omega) (QI_zero h) (by omega) hv
      exact ⟨τ, k1, (Un.stI σ 120 y _ rfl).trans k2⟩
    · rw [if_neg q, show wL (tS d) b i L = tS d i :: L from if_neg q]
      obtain ⟨τ, k1, k2⟩ := ih (i + 1) fu (stI σ 120 y (rI σ 120 y + 1)) (tS d i :: L) (by omega) (by omega) (by rw [List.map_cons, y2]; exact QI_add h (by omega)) (by rw [List.length_cons]; omega) (fun v hv2 => by
        rcases List.mem_cons.mp hv2 with rfl | hv2
        · exact ht3
        · exact hv v hv2)
      exact ⟨τ, k1, (Un.stI σ 120 y _ rfl).trans k2⟩
theorem layR_out {z : Nat} (l1 : Int32) (hz : 0 < z) (hz2 : z < 64) : ∀ (t i fu : Nat) (σ : Sg) (o : Option (Nat × Nat)), t + i = 100 → t < fu → oG o → ∃ τ, b_X12_lay_30 l1 fu σ (nI z) (oB o) (oR o) (nI i) = some (oB (fo (oT (nI z)) i t o), τ) ∧ Un Pz σ τ := by
  intro t
  induction t with
  | zero =>
    intro i fu σ o ht hf ho
    obtain ⟨fu, rfl⟩ : ∃ q, fu = q + 1 := ⟨fu - 1, by omega⟩
    refine ⟨σ, ?_, Un.rf⟩
    rw [b_X12_lay_30, if_pos (show (100 : Int32) ≤ nI i from nI_le (a := 100) (by omega) (by omega))]
    rfl
  | succ t ih =>
    intro i fu σ o ht hf ho
    obtain ⟨fu, rfl⟩ : ∃ q, fu = q + 1 := ⟨fu - 1, by omega⟩
    have hm := tM_le (nI z) i
    obtain ⟨s1, a1, b1, c1⟩ := empP σ
    obtain ⟨s2, a2, c2⟩ := layR_in (d := i) l1 (nI z) (b_X12_lay_30 l1 fu) (by omega) ho 6 0 FU s1 [] (by omega) (by unfold FU; omega) b1 (by decide) (fun v hv => by cases hv)
    obtain ⟨τ, k1, k2⟩ := ih (i + 1) fu s2 (oT (nI z) i o) (by omega) (by omega) (oG_S ho (by omega) (by omega))
    refine ⟨τ, ?_, (c1.trans c2).trans k2⟩
    rw [b_X12_lay_30, if_neg (show ¬ (100 : Int32) ≤ nI i from nI_ge (b := 100) (by omega) (by omega)), if_neg (show ¬ nI z ≤ 0 from nI_nle hz (by omega)), a1, ob_some, fo_s]
    exact (show b_X12_lay_48 l1 (b_X12_lay_30 l1 fu) FU s1 (nI z) (oB o) (oR o) (nI i) (nI 0) = _ from a2).trans k1
theorem m_lay {σ : Sg} (h : Inv σ) (v : Int32) : Sim (fun s => f_X11_lay s v) (fun s => f_X12_lay s v) σ := by
  by_cases q1 : f_X11_between v 0 (rI σ 113 1 - 1) = 0
  · refine ref_bad h (-2) id ?_ (fun τ ht => ?_)
    · show f_X11_lay σ v = _
      unfold f_X11_lay; rw [hasB_c h, if_pos q1]; rfl
    · show f_X12_lay τ v = _
      unfold f_X12_lay; rw [isB_r, ht 113 1 (by omega), ob_some, if_pos q1]; rfl
  obtain ⟨z, z1, e1, e2⟩ := kindsT h v
  by_cases qz : z = 0
  · subst qz
    refine Sim.pure h (-1) ?_ ?_
    · show f_X11_lay σ v = _
      unfold f_X11_lay
      rw [hasB_c h, if_neg q1, e1, ob_some, if_pos (show nI 0 = 0 from rfl)]
    · show f_X12_lay σ v = _
      unfold f_X12_lay
      rw [isB_r, ob_some, if_neg q1, e2 σ (fun _ => rfl), ob_some]
      obtain ⟨fu, hfu⟩ : ∃ q, FU = q + 1 := ⟨999999, rfl⟩
      rw [hfu, b_X12_lay_30, if_neg (by decide), if_pos (show nI 0 ≤ 0 by decide)]
  obtain ⟨s1, a1, c1⟩ := layC_out (nI z) 10 0 FU σ none (by omega) (by unfold FU; omega) oG_0
  have hc : Un Pc σ s1 := c1.un (fun a j p q => by unfold Pc; omega)
  have hs : ∀ j, rI s1 113 j = rI σ 113 j := fun j => (c1 113 (by omega)).1 j
  obtain ⟨s2, a2, c2⟩ := layR_out (z := z) v (by omega) z1 100 0 FU s1 none (by omega) (by unfold FU; omega) oG_0
  refine ⟨oB (fo (oT (nI z)) 0 100 none), s1, s2, ?_, ?_, Inv_pass h (hc.trans (c2.mono (fun a j q => by unfold Pz at q; unfold Pc; omega)))⟩
  · show f_X11_lay σ v = _
    unfold f_X11_lay
    rw [hasB_c h, if_neg q1, e1, ob_some, if_neg (nI_ne0 (by omega) (by omega)), show f_X1_bestGrains σ (nI z) = _ from a1, bnd_some]
  · show f_X12_lay s1 v = _
    unfold f_X12_lay
    rw [isB_r, hs 1, ob_some, if_neg q1, e2 s1 hs, ob_some]
    exact a2
/-! ===== lift ===== -/
theorem has_one : ∀ i, i < 7 → ∀ k, k < 7 → f_X12_has (1 <<< (nI i &&& 31)) (nI k) = if k = i then 1 else 0 := by decide +kernel
theorem or_add0 : ∀ x, x < 128 → ∀ y, y < 128 → (nI x ||| nI y = 0 ↔ nI x + nI y = 0) := by decide +kernel
theorem sm_one (f : Nat → Int32) {i n : Nat} (hi : i < n) (hn : n ≤ 7) : sm f (1 <<< (nI i &&& 31)) n = f i := by
  have := fo_inv (st := smS f (1 <<< (nI i &&& 31))) (fun k s => s = if i < k then f i else 0) n 0 0 (if_neg (by omega)).symm (fun j x h1 h2 hx => by
    show smS f (1 <<< (nI i &&& 31)) j x = if i < j + 1 then f i else 0
    unfold smS
    rw [has_one i (by omega) j (by omega), hx]
    by_cases q : j = i
    · subst q
      rw [if_pos rfl, if_neg (by decide), if_neg (by omega), if_pos (by omega), Int32.zero_add]
    · rw [if_neg q, if_pos rfl]
      by_cases w : i < j
      · rw [if_pos w, if_pos (by omega)]
      · rw [if_neg w, if_neg (by omega)])
  exact this.trans (if_pos (by omega))
def pS (g : Nat → Int32) (i j : Nat) (b : Int32) : Nat → Int32 := fun k => f_X12_trueTip (g (25 + i) + (if k = i then b else 0)) (g (25 + j) + (if k = j then b else 0))
theorem tiG_one (g : Nat → Int32) {n i j k : Nat} (b : Int32) (hn : n ≤ 7) (hi : i < n) (hj : j < n) (hk : k < 7) : tiG g n (1 <<< (nI i &&& 31)) (1 <<< (nI j &&& 31)) k b = pS g i j b k := by
  have hb : ∀ x, x < 7 → (if f_X12_has (1 <<< (nI x &&& 31)) (nI k) = 0 then (0 : Int32) else b) = if k = x then b else 0 := fun x hx => by
    rw [has_one x hx k hk]
    by_cases q : k = x
    · rw [if_pos q, if_pos q, if_neg (by decide)]
    · rw [if_neg q, if_neg q, if_pos rfl]
  unfold tiG pS
  rw [sm_one _ hi hn, sm_one _ hj hn, hb i (by omega), hb j (by omega)]
theorem tipsC {a i j : Nat} {g : Nat → Int32} (s b : Int32) (ha : a ≤ 7) (hi : i < a) (hj : j < a) : ∀ (t k fu : Nat) (σ : Sg) (L : List Int32), t + k = a → t < fu → rowIs σ 6 a (fun j => g (25 + j)) → rI σ 2 1 = nI a → PI σ L → L.length + t ≤ 14 → ∃ τ, b_X1_addTips_3 1 s b (nI i) (nI j) fu σ (nI k) = some τ ∧ PI τ (fo (wL (pS g i j b) s) k t L) ∧ Only 107 112 σ τ := by
  intro t
  induction t with
  | zero =>
    intro k fu σ L ht hf hr h2 h hL
    obtain ⟨fu, rfl⟩ : ∃ q, fu = q + 1 := ⟨fu - 1, by omega⟩
    refine ⟨σ, ?_, h, Only.rf⟩
    rw [b_X1_addTips_3, show f_X3_keeperCount σ 1 = nI a from h2, if_pos (nI_le (by omega) (by omega))]
  | succ t ih =>
    intro k fu σ L ht hf hr h2 h hL
    obtain ⟨fu, rfl⟩ : ∃ q, fu = q + 1 := ⟨fu - 1, by omega⟩
    rw [b_X1_addTips_3, show f_X3_keeperCount σ 1 = nI a from h2, if_neg (nI_ge (by omega) (by omega)), hasBit_has _ (by omega), fo_s]
    unfold b_X1_addTips_43
    simp only [nam_e, nI_1]
    by_cases q : f_X12_has s (nI k) = 0
    · rw [if_pos q, show wL (pS g i j b) s k L = L from if_pos q]
      exact ih (k + 1) fu σ L (by omega) (by omega) hr h2 h (by omega)
    · obtain ⟨s1, a1, b1, c1⟩ := parts_add (pS g i j b k) h (by omega)
      obtain ⟨τ, k1, k2, k3⟩ := ih (k + 1) fu s1 (pS g i j b k :: L) (by omega) (by omega) (hr.keep c1 (by omega)) (by rw [(c1 2 (by omega)).1]; exact h2) b1 (by rw [List.length_cons]; omega)
      have et : f_X1_tipIfOff σ (1 + 5) (1 <<< (nI i &&& 31)) (1 <<< (nI j &&& 31)) (nI k) b = some (pS g i j b k) := by
        rw [← tiG_one g b ha hi hj (show k < 7 by omega)]
        exact ti_c (k0 := 6) hr ha (by omega) _ _ b
      rw [if_neg q, show wL (pS g i j b) s k L = pS g i j b k :: L from if_neg q, et, ob_some, a1, ob_some]
      exact ⟨τ, k1, k2, c1.trans k3⟩
/-- what the pair i, j leaves at worst -/
def lL (g : Nat → Int32) (a : Nat) (x y : Int32) (i j : Nat) : List Int32 := fo (wL (pS g i j 1) y) 0 a (fo (wL (pS g i j (-1)) x) 0 a [])
def oP (g : Nat → Int32) (a : Nat) (x y : Int32) (i : Nat) : Nat → Option (Nat × Nat) → Option (Nat × Nat) := fun j o => oS o (8 * i + j) (gr (lL g a x y i j))
theorem lL_len (g : Nat → Int32) {a : Nat} (x y : Int32) (i j : Nat) (ha : a ≤ 7) : (lL g a x y i j).length ≤ 14 := by
  have h1 := wL_len (pS g i j (-1)) x a 0 []
  have h2 := wL_len (pS g i j 1) y a 0 (fo (wL (pS g i j (-1)) x) 0 a [])
  rw [List.length_nil] at h1
  unfold lL
  omega
theorem liftC_in {a i : Nat} {g : Nat → Int32} (x y : Int32) (c9 : Sg → Int32 → Int32 → Int32 → Option (Int32 × Sg)) (ha : a ≤ 7) (hi : i < a) : ∀ (t j fu : Nat) (σ : Sg) (o : Option (Nat × Nat)), t + j = a → t < fu → oG o → rowIs σ 6 a (fun j => g (25 + j)) → rI σ 2 1 = nI a → ∃ τ, b_X1_bestPair_24 1 x y c9 fu σ (oB o) (oC o) (nI i) (nI j) = c9 τ (oB (fo (oP g a x y i) j t o)) (oC (fo (oP g a x y i) j t o)) (nI (i + 1)) ∧ oG (fo (oP g a x y i) j t o) ∧ Only 107 112 σ τ := by
  intro t
  induction t with
  | zero =>
    intro j fu σ o ht hf ho hr h2
    obtain ⟨fu, rfl⟩ : ∃ q, fu = q + 1 := ⟨fu - 1, by omega⟩
    refine ⟨σ, ?_, ho, Only.rf⟩
    rw [b_X1_bestPair_24, show f_X3_keeperCount σ 1 = nI a from h2, if_pos (nI_le (by omega) (by omega)), nam_e, nI_1]
    rfl
  | succ t ih =>
    intro j fu σ o ht hf ho hr h2
    obtain ⟨fu, rfl⟩ : ∃ q, fu = q + 1 := ⟨fu - 1, by omega⟩
    have h2' : ∀ τ, Only 107 112 σ τ → rI τ 2 1 = nI a := fun τ hτ => by rw [(hτ 2 (by omega)).1]; exact h2
    obtain ⟨s1, a1, b1, c1⟩ := parts_restart σ
    obtain ⟨s2, a2, b2, c2⟩ := tipsC (g := g) (i := i) (j := j) x (-1) ha hi (by omega) a 0 FU s1 [] (by omega) (by unfold FU; omega) (hr.keep c1 (by omega)) (h2' _ c1) b1 (by rw [List.length_nil]; omega)
    have hl1 := wL_len (pS g i j (-1)) x a 0 []
    rw [List.length_nil] at hl1
    have c12 := c1.trans c2
    obtain ⟨s3, a3, b3, c3⟩ := tipsC (g := g) (i := i) (j := j) y 1 ha hi (by omega) a 0 FU s2 _ (by omega) (by unfold FU; omega) (hr.keep c12 (by omega)) (h2' _ c12) b2 (by omega)
    have c13 := c12.trans c3
    have hm := gr_len (lL g a x y i j)
    have hm2 := lL_len g x y i j ha
    obtain ⟨τ, k1, k2, k3⟩ := ih (j + 1) fu s3 (oP g a x y i j o) (by omega) (by omega) (oG_S ho (by omega) (by omega)) (hr.keep c13 (by omega)) (h2' _ c13)
    refine ⟨τ, ?_, k2, c13.trans k3⟩
    have hg : f_X6_greatestPart s3 = nI (gr (lL g a x y i j)) := PI_gr b3
    rw [b_X1_bestPair_24, show f_X3_keeperCount σ 1 = nI a from h2, if_neg (nI_ge (by omega) (by omega)), a1, ob_some, show f_X1_addTips s1 1 x (-1) (nI i) (nI j) = some s2 from a2, ob_some, show f_X1_addTips s2 1 y 1 (nI i) (nI j) = some s3 from a3, ob_some, hg, fo_s]
    unfold b_X1_bestPair_74 b_X1_bestPair_90
    simp only [nam_e, nI_1]
    rw [hg, L8, pk_mul, nI_add]
    exact (best_c (d := 8 * i + j) (m := gr (lL g a x y i j)) (fun p q => b_X1_bestPair_24 1 x y c9 fu s3 p q (nI i) (nI (j + 1))) ho (by omega)).trans k1
def oL (g : Nat → Int32) (a : Nat) (x y : Int32) : Nat → Option (Nat × Nat) → Option (Nat × Nat) := fun i o => fo (oP g a x y i) (i + 1) (a - (i + 1)) o
theorem liftC_out {a : Nat} {g : Nat → Int32} (x y : Int32) (ha : a ≤ 7) : ∀ (t i fu : Nat) (σ : Sg) (o : Option (Nat × Nat)), t + i = a → t < fu → oG o → rowIs σ 6 a (fun j => g (25 + j)) → rI σ 2 1 = nI a → ∃ τ, b_X1_bestPair_9 1 x y fu σ (oB o) (oC o) (nI i) = some (oB (fo (oL g a x y) i t o), τ) ∧ Only 107 112 σ τ := by
  intro t
  induction t with
  | zero =>
    intro i fu σ o ht hf ho hr h2
    obtain ⟨fu, rfl⟩ : ∃ q, fu = q + 1 := ⟨fu - 1, by omega⟩
    refine ⟨σ, ?_, Only.rf⟩
    rw [b_X1_bestPair_9, show f_X3_keeperCount σ 1 = nI a from h2, if_pos (nI_le (by omega) (by omega))]
    rfl
  | succ t ih =>
    intro i fu σ o ht hf ho hr h2
    obtain ⟨fu, rfl⟩ : ∃ q, fu = q + 1 := ⟨fu - 1, by omega⟩
    obtain ⟨s1, a1, b1, c1⟩ := liftC_in (g := g) x y (b_X1_bestPair_9 1 x y fu) ha (show i < a by omega) (a - (i + 1)) (i + 1) FU σ o (by omega) (by unfold FU; omega) ho hr h2
    obtain ⟨τ, k1, k2⟩ := ih (i + 1) fu s1 (oL g a x y i o) (by omega) (by omega) b1 (hr.keep c1 (by omega)) (by rw [(c1 2 (by omega)).1]; exact h2)
    refine ⟨τ, ?_, c1.trans k2⟩
    rw [b_X1_bestPair_9, show f_X3_keeperCount σ 1 = nI a from h2, if_neg (nI_ge (by omega) (by omega)), nam_e, nI_1, fo_s, a1]
    exact k1
theorem tipsR {a i j : Nat} {g : Nat → Int32} (s b : Int32) (ha : a ≤ 7) (hi : i < a) (hj : j < a) (g0 : g 0 = nI a) : ∀ (t k fu : Nat) (σ : Sg) (L : List Int32), t + k = a → t < fu → rI σ 113 = g → QI σ (L.map (fun v => 1 + v)) → ∃ τ, b_X12_partsBy_3 (nI i) (nI j) s b fu σ (nI k) = some τ ∧ QI τ ((fo (wL (pS g i j b) s) k t L).map (fun v => 1 + v)) ∧ Un Pz σ τ := by
  intro t
  induction t with
  | zero =>
    intro k fu σ L ht hf hg h
    obtain ⟨fu, rfl⟩ : ∃ q, fu = q + 1 := ⟨fu - 1, by omega⟩
    refine ⟨σ, ?_, h, Un.rf⟩
    rw [b_X12_partsBy_3, if_pos (show inb 0 (kLen 113) = true from i113 (n := 0) (by omega)), hg, show g (ix 0) = nI a from g0, if_pos (nI_le (by omega) (by omega))]
  | succ t ih =>
    intro k fu σ L ht hf hg h
    obtain ⟨fu, rfl⟩ : ∃ q, fu = q + 1 := ⟨fu - 1, by omega⟩
    have ei : rI σ 113 (ix (25 + nI i)) = g (25 + i) := by rw [hg, L25, nI_add, ix_nI (by omega)]
    have ej : rI σ 113 (ix (25 + nI j)) = g (25 + j) := by rw [hg, L25, nI_add, ix_nI (by omega)]
    have ii : inb (25 + nI i) (kLen 113) = true := by rw [L25, nI_add]; exact i113 (by omega)
    have ij : inb (25 + nI j) (kLen 113) = true := by rw [L25, nI_add]; exact i113 (by omega)
    have e0 : rI σ 113 (ix 0) = nI a := by rw [hg]; exact g0
    rw [b_X12_partsBy_3, if_pos (show inb 0 (kLen 113) = true from i113 (n := 0) (by omega)), e0, if_neg (nI_ge (by omega) (by omega)), if_pos ii, ei, fo_s]
    by_cases q : f_X12_has s (nI k) = 0
    · unfold b_X12_partsBy_81
      rw [if_pos q, show wL (pS g i j b) s k L = L from if_pos q, nam_e, nI_1]
      exact ih (k + 1) fu σ L (by omega) (by omega) hg h
    · obtain ⟨y, y1, y2⟩ := tp3_1 (tp3_true (g (25 + i) + (if k = i then b else 0)) (g (25 + j) + (if k = j then b else 0)))
      have fin : ∀ X Y, (if k = i then b else 0) = X → (if k = j then b else 0) = Y → ∃ τ, b_X12_partsBy_71 (nI i) (nI j) s b (b_X12_partsBy_3 (nI i) (nI j) s b fu) σ (nI k) Y (g (25 + j)) (g (25 + i) + X) 1 = some τ ∧ QI τ ((fo (wL (pS g i j b) s) (k + 1) t (pS g i j b k :: L)).map (fun v => 1 + v)) ∧ Un Pz σ τ := by
        intro X Y hX hY
        obtain ⟨τ, k1, k2, k3⟩ := ih (k + 1) fu (stI σ 120 y (rI σ 120 y + 1)) (pS g i j b k :: L) (by omega) (by omega) (by rw [← hg]; exact funext (fun j => rI_ne _ _ (by omega))) (by rw [List.map_cons, show 1 + pS g i j b k = nI y from y2]; exact QI_add h (by omega))
        refine ⟨τ, ?_, k2, (Un.stI σ 120 y _ rfl).trans k3⟩
        unfold b_X12_partsBy_71 b_X12_partsBy_81
        rw [← hX, ← hY, y2, if_pos (i120 (by omega)), if_pos (i120 (by omega)), ix_nI (by omega), nam_e, nam_e, nI_1]
        exact k1
      rw [if_neg q, show wL (pS g i j b) s k L = pS g i j b k :: L from if_neg q]
      unfold b_X12_partsBy_49
      rw [if_pos ij, if_pos ij, ej]
      simp (disch := omega) only [kd0]
      by_cases w1 : k = i
      · by_cases w2 : k = j
        · rw [if_pos w1, if_pos w2]
          exact fin b b (if_pos w1) (if_pos w2)
        · rw [if_pos w1, if_neg w2]
          exact fin b 0 (if_pos w1) (if_neg w2)
      · by_cases w2 : k = j
        · rw [if_neg w1, if_pos w2]
          exact fin 0 b (if_neg w1) (if_pos w2)
        · rw [if_neg w1, if_neg w2]
          exact fin 0 0 (if_neg w1) (if_neg w2)
theorem lL_tp (g : Nat → Int32) (a : Nat) (x y : Int32) (i j : Nat) : ∀ v, v ∈ lL g a x y i j → tp3 v := wL_mem tp3 y a 0 _ (wL_mem tp3 x a 0 [] (fun v hv => by cases hv) (fun k _ => tp3_true _ _)) (fun k _ => tp3_true _ _)
theorem liftR_in {a i : Nat} {g : Nat → Int32} (x y : Int32) (c39 : Sg → Int32 → Int32 → Int32 → Int32 → Int32 → Option (Int32 × Sg)) (ha : a ≤ 7) (hi : i < a) (g0 : g 0 = nI a) : ∀ (t j fu : Nat) (σ : Sg) (o : Option (Nat × Nat)), t + j = a → t < fu → oG o → rI σ 113 = g → ∃ τ, b_X12_lift_56 c39 fu σ x y (oB o) (oR o) (nI i) (nI j) = c39 τ x y (oB (fo (oP g a x y i) j t o)) (oR (fo (oP g a x y i) j t o)) (nI (i + 1)) ∧ oG (fo (oP g a x y i) j t o) ∧ Un Pz σ τ := by
  intro t
  induction t with
  | zero =>
    intro j fu σ o ht hf ho hg
    obtain ⟨fu, rfl⟩ : ∃ q, fu = q + 1 := ⟨fu - 1, by omega⟩
    have e0 : rI σ 113 (ix 0) = nI a := by rw [hg]; exact g0
    refine ⟨σ, ?_, ho, Un.rf⟩
    rw [b_X12_lift_56, if_pos (show inb 0 (kLen 113) = true from i113 (n := 0) (by omega)), e0, if_pos (nI_le (by omega) (by omega)), nam_e, nI_1]
    rfl
  | succ t ih =>
    intro j fu σ o ht hf ho hg
    obtain ⟨fu, rfl⟩ : ∃ q, fu = q + 1 := ⟨fu - 1, by omega⟩
    have e0 : rI σ 113 (ix 0) = nI a := by rw [hg]; exact g0
    have hg' : ∀ τ, Un Pz σ τ → rI τ 113 = g := fun τ hτ => (funext (Pz_w hτ)).trans hg
    obtain ⟨s1, a1, b1, c1⟩ := empP σ
    obtain ⟨s2, a2, b2, c2⟩ := tipsR (i := i) (j := j) x (-1) ha hi (by omega) g0 a 0 FU s1 [] (by omega) (by unfold FU; omega) (hg' _ c1) b1
    have c12 := c1.trans c2
    obtain ⟨s3, a3, b3, c3⟩ := tipsR (i := i) (j := j) y 1 ha hi (by omega) g0 a 0 FU s2 _ (by omega) (by unfold FU; omega) (hg' _ c12) b2
    have c13 := c12.trans c3
    have hm := gr_len (lL g a x y i j)
    have hm2 := lL_len g x y i j ha
    have hgp : f_X12_greatestPart s3 = some (nI (gr (lL g a x y i j))) := by
      rw [← gr_map one_inj]
      refine greatP b3 (by rw [List.length_map]; exact hm2) (fun v hv => ?_)
      obtain ⟨w, w1, rfl⟩ := List.mem_map.mp hv
      obtain ⟨j', j1, j2⟩ := tp3_1 (lL_tp g a x y i j w w1)
      exact ⟨j', by omega, j2⟩
    obtain ⟨τ, k1, k2, k3⟩ := ih (j + 1) fu s3 (oP g a x y i j o) (by omega) (by omega) (oG_S ho (by omega) (by omega)) (hg' _ c13)
    refine ⟨τ, ?_, k2, c13.trans k3⟩
    rw [b_X12_lift_56, if_pos (show inb 0 (kLen 113) = true from i113 (n := 0) (by omega)), e0, if_neg (nI_ge (by omega) (by omega)), a1, ob_some, show f_X12_partsBy s1 (nI i) (nI j) x (-1) = some s2 from a2, ob_some, show f_X12_partsBy s2 (nI i) (nI j) y 1 = some s3 from a3, ob_some, hgp, ob_some, fo_s]
    unfold b_X12_lift_116 b_X12_lift_131
    simp only [nam_e, nI_1]
    rw [L8, pk_mul, nI_add]
    exact (best_r (d := 8 * i + j) (m := gr (lL g a x y i j)) (fun p q => b_X12_lift_56 c39 fu s3 x y p q (nI i) (nI (j + 1))) ho (by omega)).trans k1
theorem liftR_out {a : Nat} {g : Nat → Int32} (x y : Int32) (ha : a ≤ 7) (g0 : g 0 = nI a) : ∀ (t i fu : Nat) (σ : Sg) (o : Option (Nat × Nat)), t + i = a → t < fu → oG o → rI σ 113 = g → ∃ τ, b_X12_lift_39 fu σ x y (oB o) (oR o) (nI i) = some (oB (fo (oL g a x y) i t o), τ) ∧ Un Pz σ τ := by
  intro t
  induction t with
  | zero =>
    intro i fu σ o ht hf ho hg
    obtain ⟨fu, rfl⟩ : ∃ q, fu = q + 1 := ⟨fu - 1, by omega⟩
    have e0 : rI σ 113 (ix 0) = nI a := by rw [hg]; exact g0
    refine ⟨σ, ?_, Un.rf⟩
    rw [b_X12_lift_39, if_pos (show inb 0 (kLen 113) = true from i113 (n := 0) (by omega)), e0, if_pos (nI_le (by omega) (by omega))]
    rfl
  | succ t ih =>
    intro i fu σ o ht hf ho hg
    obtain ⟨fu, rfl⟩ : ∃ q, fu = q + 1 := ⟨fu - 1, by omega⟩
    have e0 : rI σ 113 (ix 0) = nI a := by rw [hg]; exact g0
    obtain ⟨s1, a1, b1, c1⟩ := liftR_in x y (b_X12_lift_39 fu) ha (show i < a by omega) g0 (a - (i + 1)) (i + 1) FU σ o (by omega) (by unfold FU; omega) ho hg
    obtain ⟨τ, k1, k2⟩ := ih (i + 1) fu s1 (oL g a x y i o) (by omega) (by omega) b1 ((funext (Pz_w c1)).trans hg)
    refine ⟨τ, ?_, c1.trans k2⟩
    rw [b_X12_lift_39, if_pos (show inb 0 (kLen 113) = true from i113 (n := 0) (by omega)), e0, if_neg (nI_ge (by omega) (by omega)), nam_e, nI_1, fo_s, a1]
    exact k1
theorem m_lift {σ : Sg} (h : Inv σ) : Sim f_X11_lift f_X12_lift σ := by
  obtain ⟨x, a, n0, ha, hx, e1, e2⟩ := mays h (-1)
  obtain ⟨y, a', n0', ha', hy, e3, e4⟩ := mays h 1
  have haa : a' = a := nIinj (by omega) (by omega) (n0'.symm.trans n0)
  subst haa
  have hp : 2 ^ a' ≤ 2 ^ 7 := Nat.pow_le_pow_right (by omega) ha
  have hor := or_add0 x (by omega) y (by omega)
  by_cases q : nI x ||| nI y = 0
  · refine Sim.pure h (-1) ?_ ?_
    · unfold f_X11_lift
      rw [e1, ob_some, e3, ob_some, if_pos q]
    · unfold f_X12_lift
      rw [e2 σ (fun _ => rfl), ob_some, e4 σ (fun _ => rfl), ob_some, if_pos (hor.mp q)]
  obtain ⟨a2, b, c, d, e, u, hn, hw, hr⟩ := h.1
  obtain ⟨⟨n2, _⟩, _⟩ := hn
  have haa : a2 = a' := nIinj (by omega) (by omega) (n2.symm.trans n0)
  subst haa
  obtain ⟨r1, r2, r3, r4, r5, r6, r7, r8, r9, r10, r11, r12⟩ := hr
  obtain ⟨s1, a1, c1⟩ := liftC_out (g := rI σ 113) (nI x) (nI y) ha a2 0 FU σ none (by omega) (by unfold FU; omega) oG_0 r3 r1.2.1
  have hc : Un Pc σ s1 := c1.un (fun a j p q => by unfold Pc; omega)
  have hs : ∀ j, rI s1 113 j = rI σ 113 j := fun j => (c1 113 (by omega)).1 j
  have eC : f_X11_lift σ = some (oB (fo (oL (rI σ 113) a2 (nI x) (nI y)) 0 a2 none), s1) := by
    unfold f_X11_lift
    rw [e1, ob_some, e3, ob_some, if_neg q, show f_X1_bestPair σ 1 (nI x) (nI y) = _ from a1, bnd_some]
  have eR : f_X12_lift s1 = if 2 ≤ rI s1 113 0 then b_X12_lift_39 FU s1 (nI x) (nI y) (-1) 1000000 0 else some (-1, s1) := by
    unfold f_X12_lift
    rw [e2 s1 hs, ob_some, e4 s1 hs, ob_some, if_neg (fun z => q (hor.mpr z)), if_pos (show inb 0 (kLen 113) = true from i113 (n := 0) (by omega))]
    rfl
  by_cases q2 : 2 ≤ a2
  · obtain ⟨s2, a3, c2⟩ := liftR_out (g := rI σ 113) (nI x) (nI y) ha n0 a2 0 FU s1 none (by omega) (by unfold FU; omega) oG_0 (funext hs)
    refine ⟨oB (fo (oL (rI σ 113) a2 (nI x) (nI y)) 0 a2 none), s1, s2, eC, ?_, Inv_pass h (hc.trans (c2.mono (fun a j q => by unfold Pz at q; unfold Pc; omega)))⟩
    rw [eR, hs 0, n0, if_pos (show (2 : Int32) ≤ nI a2 from nI_le (a := 2) q2 (by omega))]
    exact a3
  · refine ⟨oB (fo (oL (rI σ 113) a2 (nI x) (nI y)) 0 a2 none), s1, s1, eC, ?_, Inv_pass h hc⟩
    rw [eR, hs 0, n0, if_neg (show ¬ (2 : Int32) ≤ nI a2 from nI_ge (b := 2) (by omega) (by omega))]
    rcases (show a2 = 0 ∨ a2 = 1 by omega) with rfl | rfl <;> rfl
/-! ===== pans: ways in figures of three ===== -/
def wy (e : Nat) : Int32 := if e = 1 then -1 else if e = 2 then 1 else 0
def okW (u : Nat → Bool) : Nat → Nat → Nat → Bool
  | _, 0, _ => true
  | k, m + 1, r => (decide (r % 3 = 0) || u k) && okW u (k + 1) m (r / 3)
def usW : Nat → Nat → Nat
  | 0, _ => 0
  | m + 1, r => (if r % 3 = 0 then 0 else 1) + usW m (r / 3)
def hsW (h : Nat → Int32) : Nat → Nat → Nat → Int32
  | _, 0, _ => 0
  | k, m + 1, r => wy (r % 3) * h k + hsW h (k + 1) m (r / 3)
def nxW (u : Nat → Bool) : Nat → Nat → Nat → Option Nat
  | _, 0, _ => none
  | k, m + 1, r => if u k = true ∧ r % 3 ≠ 2 then some (r + 1) else (nxW u (k + 1) m (r / 3)).map (fun q => 3 * q)
theorem okW_s (u : Nat → Bool) (k m r : Nat) : okW u k (m + 1) r = ((decide (r % 3 = 0) || u k) && okW u (k + 1) m (r / 3)) := rfl
theorem usW_s (m r : Nat) : usW (m + 1) r = (if r % 3 = 0 then 0 else 1) + usW m (r / 3) := rfl
theorem hsW_s (h : Nat → Int32) (k m r : Nat) : hsW h k (m + 1) r = wy (r % 3) * h k + hsW h (k + 1) m (r / 3) := rfl
theorem nxW_s (u : Nat → Bool) (k m r : Nat) : nxW u k (m + 1) r = if u k = true ∧ r % 3 ≠ 2 then some (r + 1) else (nxW u (k + 1) m (r / 3)).map (fun q => 3 * q) := rfl
theorem okW_mul (u : Nat → Bool) (k m q : Nat) : okW u k (m + 1) (3 * q) = okW u (k + 1) m q := by
  rw [okW_s, show 3 * q % 3 = 0 by omega, show 3 * q / 3 = q by omega, decide_eq_true rfl, Bool.true_or, Bool.true_and]
theorem nxW_spec (u : Nat → Bool) : ∀ (m k r : Nat), okW u k m r = true → r < 3 ^ m → (∃ r', nxW u k m r = some r' ∧ okW u k m r' = true ∧ r < r' ∧ r' < 3 ^ m ∧ ∀ x, r < x → x < r' → okW u k m x = false) ∨ (nxW u k m r = none ∧ ∀ x, r < x → x < 3 ^ m → okW u k m x = false)
  | 0, k, r, h, hr => by
    refine Or.inr ⟨rfl, fun x h1 h2 => ?_⟩
    rw [Nat.pow_zero] at hr h2
    omega
  | m + 1, k, r, h, hr => by
    rw [Nat.pow_succ] at hr ⊢
    rw [okW_s, Bool.and_eq_true, Bool.or_eq_true, decide_eq_true_eq] at h
    obtain ⟨h1, h2⟩ := h
    rw [nxW_s]
    by_cases q : u k = true ∧ r % 3 ≠ 2
    · rw [if_pos q]
      refine Or.inl ⟨r + 1, rfl, ?_, by omega, by omega, fun x h3 h4 => by omega⟩
      rw [okW_s, q.1, Bool.or_true, Bool.true_and, show (r + 1) / 3 = r / 3 by omega]
      exact h2
    · rw [if_neg q]
      have hsm : ∀ x, r < x → x / 3 = r / 3 → okW u k (m + 1) x = false := fun x h3 h4 => by
        rw [okW_s]
        have : u k = false := by
          cases hu : u k with
          | false => rfl
          | true => exact absurd ⟨hu, by omega⟩ q
        rw [this, Bool.or_false, decide_eq_false (by rcases h1 with h1 | h1; · omega
                                                    · rw [this] at h1; cases h1), Bool.false_and]
      rcases nxW_spec u m (k + 1) (r / 3) h2 (by omega) with ⟨q', e1, e2, e3, e4, e5⟩ | ⟨e1, e2⟩
      · refine Or.inl ⟨3 * q', by rw [e1]; rfl, by rw [okW_mul]; exact e2, by omega, by omega, fun x h3 h4 => ?_⟩
        by_cases w : x / 3 = r / 3
        · exact hsm x h3 w
        · rw [okW_s, e5 (x / 3) (by omega) (by omega), Bool.and_false]
      · refine Or.inr ⟨by rw [e1]; rfl, fun x h3 h4 => ?_⟩
        by_cases w : x / 3 = r / 3
        · exact hsm x h3 w
        · rw [okW_s, e2 (x / 3) (by omega) (by omega), Bool.and_false]
theorem usW_le : ∀ m r, usW m r ≤ m
  | 0, _ => Nat.le_refl _
  | m + 1, r => by
    have := usW_le m (r / 3)
    rw [usW_s]
    split <;> omega
theorem usW_0 : ∀ m, usW m 0 = 0
  | 0 => rfl
  | m + 1 => by rw [usW_s, show 0 / 3 = 0 from rfl, usW_0 m]; rfl
theorem hsW_0 (h : Nat → Int32) : ∀ m k, hsW h k m 0 = 0
  | 0, _ => rfl
  | m + 1, k => by
    rw [hsW_s, show 0 / 3 = 0 from rfl, hsW_0 h m, show wy (0 % 3) = 0 from rfl, Int32.zero_mul, Int32.add_zero]
theorem hsW_b {h : Nat → Int32} {n : Nat} (hh : ∀ j, j < n → vIn (h j) 1 250) : ∀ m k r, k + m ≤ n → m ≤ 7 → -(250 * (m : Int)) ≤ (hsW h k m r).toInt ∧ (hsW h k m r).toInt ≤ 250 * (m : Int)
  | 0, _, _, _, _ => by
    have : (0 : Int32).toInt = 0 := rfl
    unfold hsW
    omega
  | m + 1, k, r, hk, hm => by
    obtain ⟨i1, i2⟩ := hsW_b hh m (k + 1) (r / 3) (by omega) (by omega)
    obtain ⟨x, x1, x2, x3⟩ := hh k (by omega)
    have hx : (nI x).toInt = x := tN (by omega)
    rw [hsW_s, x3]
    have hw : -250 ≤ (wy (r % 3) * nI x).toInt ∧ (wy (r % 3) * nI x).toInt ≤ 250 := by
      rcases (show r % 3 = 0 ∨ r % 3 = 1 ∨ r % 3 = 2 by omega) with q | q | q
      · rw [q, show wy 0 = 0 from rfl, Int32.zero_mul]; decide
      · rw [q, show wy 1 = -1 from rfl, ← Int32.neg_eq_neg_one_mul, tneg (by omega), hx]; omega
      · rw [q, show wy 2 = 1 from rfl, Int32.one_mul, hx]; omega
    rw [tadd (by omega) (by omega)]
    omega
theorem pw7 {n : Nat} (hn : n ≤ 7) : 3 ^ n ≤ 2187 := Nat.pow_le_pow_right (n := 3) (by omega) hn
theorem ring1 (p q h R : Int32) : (p * h + R) + (q - p) * h = q * h + R := by
  rw [Int32.sub_mul, Int32.add_comm (p * h) R, Int32.add_assoc, Int32.add_comm (p * h), Int32.sub_add_cancel, Int32.add_comm]
/-- where the stones stand at level k, the rest of the code being r -/
def dgW (k r : Nat) : Nat → Int32 := fun j => if j < k then 0 else nI (r / 3 ^ (j - k) % 3)
theorem dgW_at (k r : Nat) : dgW k r k = nI (r % 3) := by
  unfold dgW
  rw [if_neg (by omega), Nat.sub_self, Nat.pow_zero, Nat.div_one]
theorem dgW_hi {k j : Nat} (r : Nat) (h : k < j) : dgW k r j = dgW (k + 1) (r / 3) j := by
  unfold dgW
  rw [if_neg (by omega), if_neg (by omega), show j - k = (j - (k + 1)) + 1 by omega, Nat.pow_succ, Nat.mul_comm, ← Nat.div_div_eq_div_mul]
theorem dgW_lo {k j : Nat} (r : Nat) (h : j < k) : dgW k r j = 0 := if_pos h
/-- the pans at level k, r left of m figures -/
def LW (h t : Nat → Int32) (σ : Sg) (k m r : Nat) : Prop := rowIs σ 100 7 (dgW k r) ∧ rI σ 99 6 = nI (usW m r) ∧ rI σ 99 7 = nI (3 ^ k * r) ∧ rI σ 99 8 = hsW h k m r ∧ rI σ 99 9 = hsW t k m r
theorem LW_up {h t : Nat → Int32} {σ : Sg} {k m q : Nat} (hk : k < 7) : LW h t σ k (m + 1) (3 * q) ↔ LW h t σ (k + 1) m q := by
  have e1 : 3 * q % 3 = 0 := by omega
  have e2 : 3 * q / 3 = q := by omega
  have d1 : ∀ j, j < 7 → dgW k (3 * q) j = dgW (k + 1) q j := fun j hj => by
    by_cases w : j < k
    · rw [dgW_lo _ w, dgW_lo _ (by omega)]
    · by_cases z : j = k
      · subst z
        rw [dgW_at, dgW_lo _ (by omega), e1]
        rfl
      · rw [dgW_hi _ (by omega), e2]
  have d2 : usW (m + 1) (3 * q) = usW m q := by rw [usW_s, e1, e2, if_pos rfl, Nat.zero_add]
  have d3 : 3 ^ k * (3 * q) = 3 ^ (k + 1) * q := by rw [Nat.pow_succ, Nat.mul_assoc]
  have d4 : ∀ h : Nat → Int32, hsW h k (m + 1) (3 * q) = hsW h (k + 1) m q := fun h => by
    rw [hsW_s, e1, e2, show wy 0 = 0 from rfl, Int32.zero_mul, Int32.zero_add]
  unfold LW
  rw [d2, d3, d4, d4]
  exact ⟨fun ⟨a1, a2⟩ => ⟨a1.cong d1, a2⟩, fun ⟨a1, a2⟩ => ⟨a1.cong (fun j hj => (d1 j hj).symm), a2⟩⟩
def nxe (e : Nat) : Nat := if e = 2 then 0 else e + 1
theorem move_c {σ : Sg} {k e : Nat} {W H T : Int32} {f : Nat → Int32} (hr : rowIs σ 100 7 f) (hk : k < 7) (he : f k = nI e) (h3 : e < 3) : ∃ τ, f_X5_move σ (nI k) W H T = some τ ∧ rowIs τ 100 7 (upd f k (nI (nxe e))) ∧ rI τ 99 6 = rI σ 99 6 + (if e = 0 then 1 else if e = 2 then -1 else 0) ∧ rI τ 99 7 = rI σ 99 7 + W * (nI (nxe e) - nI e) ∧ rI τ 99 8 = rI σ 99 8 + (wy (nxe e) - wy e) * H ∧ rI τ 99 9 = rI σ 99 9 + (wy (nxe e) - wy e) * T ∧ (∀ j, j < 5 → rI τ 99 j = rI σ 99 j) ∧ Only 99 102 σ τ := by
  obtain ⟨s1, a1, b1, c1⟩ := put_in (nI (nxe e)) hr hk
  have o9 : ∀ j, rI s1 99 j = rI σ 99 j := fun j => (c1 99 (by omega)).1 j
  have fin : ∀ δ : Int32, ∃ τ, b_X5_move_79 (nI k) W H T s1 (nI e) (nI (nxe e)) (wy (nxe e) - wy e) δ (rI s1 99 6) = some τ ∧ rowIs τ 100 7 (upd f k (nI (nxe e))) ∧ rI τ 99 6 = rI σ 99 6 + δ ∧ rI τ 99 7 = rI σ 99 7 + W * (nI (nxe e) - nI e) ∧ rI τ 99 8 = rI σ 99 8 + (wy (nxe e) - wy e) * H ∧ rI τ 99 9 = rI σ 99 9 + (wy (nxe e) - wy e) * T ∧ (∀ j, j < 5 → rI τ 99 j = rI σ 99 j) ∧ Only 99 102 σ τ := by
    intro δ
    unfold b_X5_move_79
    simp only [nam_e]
    have o2 : ∀ a b c d : Int32, Only 99 100 s1 (stI (stI (stI (stI s1 99 6 a) 99 7 b) 99 8 c) 99 9 d) := fun a b c d => (((Only.stI s1 99 6 a).trans (Only.stI _ 99 7 b)).trans (Only.stI _ 99 8 c)).trans (Only.stI _ 99 9 d)
    refine ⟨_, rfl, b1.keep (o2 _ _ _ _) (by omega), ?_, ?_, ?_, ?_, fun j hj => ?_, (c1.mono (by omega) (by omega)).trans ((o2 _ _ _ _).mono (by omega) (by omega))⟩
    · rw [rI_nj _ _ (by omega), rI_nj _ _ (by omega), rI_nj _ _ (by omega), rI_eq, o9]
    · rw [rI_nj _ _ (by omega), rI_nj _ _ (by omega), rI_eq, rI_nj _ _ (by omega), o9]
    · rw [rI_nj _ _ (by omega), rI_eq, rI_nj _ _ (by omega), rI_nj _ _ (by omega), o9]
    · rw [rI_eq, rI_nj _ _ (by omega), rI_nj _ _ (by omega), rI_nj _ _ (by omega), o9]
    · rw [rI_nj _ _ (by omega), rI_nj _ _ (by omega), rI_nj _ _ (by omega), rI_nj _ _ (by omega), o9]
  unfold f_X5_move b_X5_move_30
  rw [at_in hr hk, ob_some, he]
  rcases (show e = 0 ∨ e = 1 ∨ e = 2 by omega) with rfl | rfl | rfl
  · rw [if_pos (show nI 0 = 0 from rfl), nam_e, show f_X7_put σ 100 (nI k) 1 = some s1 from a1, ob_some, if_pos (show nI 0 = 0 from rfl)]
    exact fin 1
  · rw [if_neg (show ¬ nI 1 = 0 by decide), if_pos (show nI 1 = 1 from rfl), nam_e, show f_X7_put σ 100 (nI k) 2 = some s1 from a1, ob_some, if_neg (show ¬ nI 1 = 0 by decide), if_neg (show ¬ (2 : Int32) = 0 by decide)]
    exact fin 0
  · rw [if_neg (show ¬ nI 2 = 0 by decide), if_neg (show ¬ nI 2 = 1 by decide), nam_e, show f_X7_put σ 100 (nI k) 0 = some s1 from a1, ob_some, if_neg (show ¬ nI 2 = 0 by decide), if_pos rfl]
    exact fin (-1)
theorem move_L {h t : Nat → Int32} {σ : Sg} {k m q e : Nat} (hL : LW h t σ k (m + 1) (3 * q + e)) (hk : k < 7) (h3 : e < 3) : ∃ τ, f_X5_move σ (nI k) (nI (3 ^ k)) (h k) (t k) = some τ ∧ LW h t τ k (m + 1) (3 * q + nxe e) ∧ (∀ j, j < 5 → rI τ 99 j = rI σ 99 j) ∧ Only 99 102 σ τ := by
  obtain ⟨r1, r2, r3, r4, r5⟩ := hL
  have m1 : ∀ x, x < 3 → (3 * q + x) % 3 = x := fun x hx => by omega
  have m2 : ∀ x, x < 3 → (3 * q + x) / 3 = q := fun x hx => by omega
  have hn : nxe e < 3 := by unfold nxe; split <;> omega
  obtain ⟨τ, a1, b1, b2, b3, b4, b5, b6, c1⟩ := move_c (W := nI (3 ^ k)) (H := h k) (T := t k) r1 hk (by rw [dgW_at, m1 e h3]) h3
  refine ⟨τ, a1, ⟨b1.cong (fun j hj => ?_), ?_, ?_, ?_, ?_⟩, b6, c1⟩
  · by_cases w : j = k
    · subst w
      rw [pk_us, dgW_at, m1 _ hn]
    · rw [pk_un w]
      by_cases z : j < k
      · rw [dgW_lo _ z, dgW_lo _ z]
      · rw [dgW_hi _ (by omega), dgW_hi _ (by omega), m2 e h3, m2 _ hn]
  · rw [b2, r2, usW_s, usW_s, m1 e h3, m1 _ hn, m2 e h3, m2 _ hn]
    rcases (show e = 0 ∨ e = 1 ∨ e = 2 by omega) with rfl | rfl | rfl
    · rw [if_pos rfl, if_pos rfl, if_neg (by decide), nI_1, Nat.zero_add, Nat.add_comm]
    · rw [if_neg (by decide), if_neg (by decide), if_neg (by decide), if_neg (by decide), Int32.add_zero]
    · rw [if_neg (by decide), if_neg (by decide), if_pos rfl, if_pos (by decide), Nat.add_comm, pk_m1, Nat.zero_add]
  · rw [b3, r3, Int32.mul_comm]
    have key : ∀ x, nI (3 ^ k * (3 * q + x)) = nI x * nI (3 ^ k) + nI (3 ^ k * (3 * q)) := fun x => by
      rw [pk_mul, nI_add, Nat.mul_add, Nat.add_comm, Nat.mul_comm x]
    rw [key, key, ring1]
  · rw [b4, r4, hsW_s, hsW_s, m1 e h3, m1 _ hn, m2 e h3, m2 _ hn, ring1]
  · rw [b5, r5, hsW_s, hsW_s, m1 e h3, m1 _ hn, m2 e h3, m2 _ hn, ring1]
def uW (b : Int32) : Nat → Bool := fun k => decide (¬ f_X12_has b (nI k) = 0)
theorem next_loop {n : Nat} {h t : Nat → Int32} (b : Int32) (hn : n ≤ 7) : ∀ (m k fu : Nat) (σ : Sg) (r : Nat), m + k = n → m < fu → r < 3 ^ m → okW (uW b) k m r = true → LW h t σ k m r → rowIs σ 6 n h → rowIs σ 19 n t → rI σ 2 1 = nI n → ∃ τ, (∀ j, j < 5 → rI τ 99 j = rI σ 99 j) ∧ Only 99 102 σ τ ∧ ((∃ r', nxW (uW b) k m r = some r' ∧ b_X5_layNext_5 1 b fu σ (nI (3 ^ k)) (nI k) = some (1, τ) ∧ LW h t τ k m r') ∨ (nxW (uW b) k m r = none ∧ b_X5_layNext_5 1 b fu σ (nI (3 ^ k)) (nI k) = some (0, τ))) := by
  intro m
  induction m with
  | zero =>
    intro k fu σ r hm hf hr ho hL h1 h2 h3
    obtain ⟨fu, rfl⟩ : ∃ q, fu = q + 1 := ⟨fu - 1, by omega⟩
    refine ⟨σ, fun _ _ => rfl, Only.rf, Or.inr ⟨rfl, ?_⟩⟩
    rw [b_X5_layNext_5, show f_X3_keeperCount σ 1 = nI n from h3, if_pos (nI_le (by omega) (by omega))]
  | succ m ih =>
    intro k fu σ r hm hf hr ho hL h1 h2 h3
    obtain ⟨fu, rfl⟩ : ∃ q, fu = q + 1 := ⟨fu - 1, by omega⟩
    have hk : k < n := by omega
    rw [Nat.pow_succ] at hr
    rw [okW_s, Bool.and_eq_true, Bool.or_eq_true, decide_eq_true_eq] at ho
    obtain ⟨ho1, ho2⟩ := ho
    obtain ⟨q, e, he, rfl⟩ : ∃ q e, e < 3 ∧ r = 3 * q + e := ⟨r / 3, r % 3, by omega, by omega⟩
    have m1 : (3 * q + e) % 3 = e := by omega
    have m2 : (3 * q + e) / 3 = q := by omega
    rw [m1] at ho1
    rw [m2] at ho2
    -- on to the next level
    have up : ∀ σ', (∀ j, j < 5 → rI σ' 99 j = rI σ 99 j) → Only 99 102 σ σ' → LW h t σ' k (m + 1) (3 * q) → (nxW (uW b) k (m + 1) (3 * q + e) = (nxW (uW b) (k + 1) m q).map (fun q => 3 * q)) → ∃ τ, (∀ j, j < 5 → rI τ 99 j = rI σ 99 j) ∧ Only 99 102 σ τ ∧ ((∃ r', nxW (uW b) k (m + 1) (3 * q + e) = some r' ∧ b_X5_layNext_78 1 b (b_X5_layNext_5 1 b fu) σ' (nI (3 ^ k)) (nI k) = some (1, τ) ∧ LW h t τ k (m + 1) r') ∨ (nxW (uW b) k (m + 1) (3 * q + e) = none ∧ b_X5_layNext_78 1 b (b_X5_layNext_5 1 b fu) σ' (nI (3 ^ k)) (nI k) = some (0, τ))) := by
      intro σ' p1 p2 p3 p4
      obtain ⟨τ, k1, k2, k3⟩ := ih (k + 1) fu σ' q (by omega) (by omega) (by omega) ho2 ((LW_up (by omega)).mp p3) (h1.keep p2 (by omega)) (h2.keep p2 (by omega)) (by rw [(p2 2 (by omega)).1]; exact h3)
      refine ⟨τ, fun j hj => (k1 j hj).trans (p1 j hj), p2.trans k2, ?_⟩
      have e78 : b_X5_layNext_78 1 b (b_X5_layNext_5 1 b fu) σ' (nI (3 ^ k)) (nI k) = b_X5_layNext_5 1 b fu σ' (nI (3 ^ (k + 1))) (nI (k + 1)) := by
        unfold b_X5_layNext_78
        rw [nam_e, nam_e, nI_1, L3, pk_mul, Nat.pow_succ]
      rw [e78, p4]
      rcases k3 with ⟨r', g1, g2, g3⟩ | ⟨g1, g2⟩
      · exact Or.inl ⟨3 * r', by rw [g1]; rfl, g2, (LW_up (by omega)).mpr g3⟩
      · exact Or.inr ⟨by rw [g1]; rfl, g2⟩
    rw [b_X5_layNext_5, show f_X3_keeperCount σ 1 = nI n from h3, if_neg (nI_ge (by omega) (by omega)), hasBit_has _ (by omega)]
    by_cases q1 : f_X12_has b (nI k) = 0
    · rw [if_pos q1]
      have hu : uW b k = false := decide_eq_false (fun z => z q1)
      have e0 : e = 0 := ho1.resolve_right (by rw [hu]; decide)
      subst e0
      exact up σ (fun _ _ => rfl) Only.rf hL (by rw [nxW_s, if_neg (fun z => by rw [hu] at z; cases z.1), m2])
    · have hu : uW b k = true := decide_eq_true q1
      obtain ⟨s1, a1, b1, b2, c1⟩ := move_L hL (show k < 7 by omega) he
      rw [if_neg q1, at_in hL.1 (show k < 7 by omega), ob_some, dgW_at, m1]
      unfold b_X5_layNext_41
      rw [show f_X7_at σ (1 + 5) (nI k) = some (h k) from at_in h1 hk, ob_some, show f_X7_at σ (1 + 17 + 1) (nI k) = some (t k) from at_in h2 hk, ob_some, a1, ob_some]
      by_cases q2 : e = 2
      · subst q2
        rw [if_pos (show nI 2 = 2 from rfl), if_neg (show ¬ (1 : Int32) = 0 by decide)]
        exact up s1 b2 c1 b1 (by rw [nxW_s, if_neg (fun z => by omega), m2])
      · rw [if_neg (fun z => q2 (nIinj (b := 2) (by omega) (by omega) z)), if_pos rfl]
        refine ⟨s1, b2, c1, Or.inl ⟨3 * q + e + 1, ?_, rfl, ?_⟩⟩
        · rw [nxW_s, if_pos ⟨hu, by omega⟩]
        · have : nxe e = e + 1 := if_neg q2
          rw [this] at b1
          exact b1
/-! ===== load, gain ===== -/
/-- the way kept: (fewest, code, truth, least truth) -/
def kW (A : Option (Nat × Nat × Int32 × Int32)) (w c : Nat) (T : Int32) : Option (Nat × Nat × Int32 × Int32) := match A with
  | none => some (w, c, T, T)
  | some (f, d, t, l) => some (if w < f then w else f, if w < f then c else d, if w < f then T else t, if T < l then T else l)
/-- the class's pans keep A -/
def KW (σ : Sg) (A : Option (Nat × Nat × Int32 × Int32)) : Prop := match A with
  | none => rI σ 99 0 = 0
  | some (f, d, t, l) => rI σ 99 0 = 1 ∧ rI σ 99 1 = nI f ∧ rI σ 99 2 = nI d ∧ rI σ 99 3 = t ∧ rI σ 99 4 = l ∧ f ≤ 7
theorem KW_same {σ τ : Sg} {A : Option (Nat × Nat × Int32 × Int32)} (h : KW σ A) (hs : ∀ j, j < 5 → rI τ 99 j = rI σ 99 j) : KW τ A := by
  cases A with
  | none => exact (hs 0 (by omega)).trans h
  | some q =>
    obtain ⟨h1, h2, h3, h4, h5, h6⟩ := h
    exact ⟨(hs 0 (by omega)).trans h1, (hs 1 (by omega)).trans h2, (hs 2 (by omega)).trans h3, (hs 3 (by omega)).trans h4, (hs 4 (by omega)).trans h5, h6⟩
theorem keep68 {σ : Sg} {T : Int32} : ∃ τ, b_X5_keepWay_68 σ T = some τ ∧ rI τ 99 0 = 1 ∧ rI τ 99 4 = T ∧ (∀ j, j ≠ 0 → j ≠ 4 → rI τ 99 j = rI σ 99 j) ∧ Only 99 100 σ τ := by
  refine ⟨stI (stI σ 99 4 T) 99 0 1, rfl, rI_eq _ _ _ _, ?_, fun j h1 h2 => ?_, (Only.stI σ 99 4 T).trans (Only.stI _ 99 0 1)⟩
  · rw [rI_nj _ _ (by omega), rI_eq]
  · rw [rI_nj _ _ h1, rI_nj _ _ h2]
theorem keepWay_c {σ : Sg} {A : Option (Nat × Nat × Int32 × Int32)} {w c : Nat} (h : KW σ A) (h6 : rI σ 99 6 = nI w) (h7 : rI σ 99 7 = nI c) (hw : w ≤ 7) : ∃ τ, f_X5_keepWay σ = some τ ∧ KW τ (kW A w c (rI σ 99 9)) ∧ (∀ j, 5 ≤ j → rI τ 99 j = rI σ 99 j) ∧ Only 99 100 σ τ := by
  have o1 : Only 99 100 σ (stI (stI (stI σ 99 1 (rI σ 99 6)) 99 2 (rI (stI σ 99 1 (rI σ 99 6)) 99 7)) 99 3 (rI (stI (stI σ 99 1 (rI σ 99 6)) 99 2 (rI (stI σ 99 1 (rI σ 99 6)) 99 7)) 99 9)) := ((Only.stI σ 99 1 _).trans (Only.stI _ 99 2 _)).trans (Only.stI _ 99 3 _)
  generalize hs1 : stI (stI (stI σ 99 1 (rI σ 99 6)) 99 2 (rI (stI σ 99 1 (rI σ 99 6)) 99 7)) 99 3 (rI (stI (stI σ 99 1 (rI σ 99 6)) 99 2 (rI (stI σ 99 1 (rI σ 99 6)) 99 7)) 99 9) = s1 at o1
  have e1 : rI s1 99 1 = nI w := by rw [← hs1, rI_nj _ _ (by omega), rI_nj _ _ (by omega), rI_eq, h6]
  have e2 : rI s1 99 2 = nI c := by rw [← hs1, rI_nj _ _ (by omega), rI_eq, rI_nj _ _ (by omega), h7]
  have e3 : rI s1 99 3 = rI σ 99 9 := by rw [← hs1, rI_eq, rI_nj _ _ (by omega), rI_nj _ _ (by omega)]
  have e4 : ∀ j, j ≠ 1 → j ≠ 2 → j ≠ 3 → rI s1 99 j = rI σ 99 j := fun j j1 j2 j3 => by rw [← hs1, rI_nj _ _ j3, rI_nj _ _ j2, rI_nj _ _ j1]
  have e18 : b_X5_keepWay_18 σ = b_X5_keepWay_42 s1 := by
    unfold b_X5_keepWay_18
    rw [nam_e, nam_e, nam_e, hs1]
  cases A with
  | none =>
    obtain ⟨τ, a1, a2, a3, a4, c1⟩ := keep68 (σ := s1) (T := rI σ 99 9)
    refine ⟨τ, ?_, ⟨a2, ?_, ?_, ?_, a3, hw⟩, fun j hj => ?_, o1.trans c1⟩
    · unfold f_X5_keepWay
      rw [if_pos (show rI σ 99 0 = 0 from h), e18]
      unfold b_X5_keepWay_42
      rw [e4 0 (by omega) (by omega) (by omega), if_pos (show rI σ 99 0 = 0 from h), e4 9 (by omega) (by omega) (by omega)]
      exact a1
    · rw [a4 1 (by omega) (by omega), e1]
    · rw [a4 2 (by omega) (by omega), e2]
    · rw [a4 3 (by omega) (by omega), e3]
    · rw [a4 j (by omega) (by omega), e4 j (by omega) (by omega) (by omega)]
  | some q =>
    obtain ⟨f, d, t, l⟩ := q
    obtain ⟨g0, g1, g2, g3, g4, g5⟩ := h
    have n0 : ¬ rI σ 99 0 = 0 := by rw [g0]; decide
    by_cases q : w < f
    · obtain ⟨τ, a1, a2, a3, a4, c1⟩ := keep68 (σ := s1) (T := if rI σ 99 9 < l then rI σ 99 9 else l)
      refine ⟨τ, ?_, ⟨a2, ?_, ?_, ?_, a3, ?_⟩, fun j hj => ?_, o1.trans c1⟩
      · unfold f_X5_keepWay
        rw [if_neg n0, g1, h6, if_neg (nI_ge q (by omega)), e18]
        unfold b_X5_keepWay_42
        rw [e4 0 (by omega) (by omega) (by omega), if_neg n0, e4 9 (by omega) (by omega) (by omega), e4 4 (by omega) (by omega) (by omega), g4]
        exact a1
      · rw [a4 1 (by omega) (by omega), e1, if_pos q]
      · rw [a4 2 (by omega) (by omega), e2, if_pos q]
      · rw [a4 3 (by omega) (by omega), e3, if_pos q]
      · rw [if_pos q]; exact hw
      · rw [a4 j (by omega) (by omega), e4 j (by omega) (by omega) (by omega)]
    · obtain ⟨τ, a1, a2, a3, a4, c1⟩ := keep68 (σ := σ) (T := if rI σ 99 9 < l then rI σ 99 9 else l)
      refine ⟨τ, ?_, ⟨a2, ?_, ?_, ?_, a3, ?_⟩, fun j hj => a4 j (by omega) (by omega), c1⟩
      · unfold f_X5_keepWay
        rw [if_neg n0, g1, h6, if_pos (nI_le (by omega) (by omega))]
        unfold b_X5_keepWay_42
        rw [if_neg n0, g4]
        exact a1
      · rw [a4 1 (by omega) (by omega), g1, if_neg q]
      · rw [a4 2 (by omega) (by omega), g2, if_neg q]
      · rw [a4 3 (by omega) (by omega), g3, if_neg q]
      · rw [if_neg q]; exact g5
/-- what the code c adds to what is kept -/
def stW (u : Nat → Bool) (h t : Nat → Int32) (n : Nat) (l : Int32) : Nat → Option (Nat × Nat × Int32 × Int32) → Option (Nat × Nat × Int32 × Int32) := fun c A => if okW u 0 n c = true ∧ hsW h 0 n c = l then kW A (usW n c) c (hsW t 0 n c) else A
theorem fo_id {α : Type} {st : Nat → α → α} {a : α} : ∀ (m k : Nat), (∀ j, k ≤ j → j < k + m → st j a = a) → fo st k m a = a
  | 0, _, _ => rfl
  | m + 1, k, h => by
    rw [fo_s, h k (by omega) (by omega)]
    exact fo_id m (k + 1) (fun j h1 h2 => h j (by omega) (by omega))
theorem weigh_loop {n : Nat} {h t : Nat → Int32} (b l : Int32) (hn : n ≤ 7) : ∀ (D d c i fu : Nat) (σ : Sg) (A : Option (Nat × Nat × Int32 × Int32)), d ≤ D → d + c = 3 ^ n → 0 < d → i ≤ c → d < fu → LW h t σ 0 n c → KW σ A → okW (uW b) 0 n c = true → rowIs σ 6 n h → rowIs σ 19 n t → rI σ 2 1 = nI n → ∃ τ, b_X5_weigh_12 1 l b fu σ (nI i) = some τ ∧ KW τ (fo (stW (uW b) h t n l) (c + 1) (d - 1) A) ∧ Only 99 102 σ τ := by
  intro D
  induction D with
  | zero => intro d c i fu σ A hD hd h0; omega
  | succ D ih =>
    intro d c i fu σ A hD hd h0 hi hf hL hA ho h1 h2 h3
    obtain ⟨fu, rfl⟩ : ∃ q, fu = q + 1 := ⟨fu - 1, by omega⟩
    have hp := pw7 hn
    obtain ⟨s1, b2, c1, hnext⟩ := next_loop b hn n 0 FU σ c (by omega) (by unfold FU; omega) (by omega) ho hL h1 h2 h3
    have hA1 := KW_same hA b2
    rw [b_X5_weigh_12, if_neg (show ¬ (2187 : Int32) ≤ nI i from nI_ge (b := 2187) (by omega) (by omega))]
    rcases nxW_spec (uW b) n 0 c ho (by omega) with ⟨r', e1, e2, e3, e4, e5⟩ | ⟨e1, e2⟩
    · rcases hnext with ⟨r2, g1, g2, g3⟩ | ⟨g1, _⟩
      · rw [e1] at g1
        cases g1
        have g2' : f_X5_layNext σ 1 b = some (1, s1) := g2
        have hfo : fo (stW (uW b) h t n l) (c + 1) (d - 1) A = fo (stW (uW b) h t n l) (r' + 1) ((3 ^ n - r') - 1) (stW (uW b) h t n l r' A) := by
          rw [show d - 1 = (r' - c - 1) + ((3 ^ n - r' - 1) + 1) by omega, fo_add, fo_id (r' - c - 1) (c + 1) (fun j j1 j2 => if_neg (fun z => by rw [e5 j (by omega) (by omega)] at z; cases z.1)), show c + 1 + (r' - c - 1) = r' by omega, fo_s]
        rw [g2', bnd_some, if_neg (show ¬ (1 : Int32) = 0 by decide), hfo]
        unfold b_X5_weigh_41
        simp only [nam_e, nI_1]
        have h8 : rI s1 99 8 = hsW h 0 n r' := g3.2.2.2.1
        have h9 : rI s1 99 9 = hsW t 0 n r' := g3.2.2.2.2
        by_cases q : hsW h 0 n r' = l
        · obtain ⟨s2, a2, a3, a4, c2⟩ := keepWay_c hA1 g3.2.1 (g3.2.2.1.trans (by rw [Nat.pow_zero, Nat.one_mul])) (Nat.le_trans (usW_le n r') hn)
          have hst : stW (uW b) h t n l r' A = kW A (usW n r') r' (rI s1 99 9) := by rw [h9]; exact if_pos ⟨e2, q⟩
          have hL2 : LW h t s2 0 n r' := ⟨g3.1.keep c2 (by omega), (a4 6 (by omega)).trans g3.2.1, (a4 7 (by omega)).trans g3.2.2.1, (a4 8 (by omega)).trans h8, (a4 9 (by omega)).trans h9⟩
          have c12 : Only 99 102 σ s2 := c1.trans (c2.mono (by omega) (by omega))
          obtain ⟨τ, k1, k2, k3⟩ := ih (3 ^ n - r') r' (i + 1) fu s2 _ (by omega) (by omega) (by omega) (by omega) (by omega) hL2 a3 e2 (h1.keep c12 (by omega)) (h2.keep c12 (by omega)) (by rw [(c12 2 (by omega)).1]; exact h3)
          rw [h8, if_pos q, a2, ob_some, hst]
          exact ⟨τ, k1, k2, c12.trans k3⟩
        · have hst : stW (uW b) h t n l r' A = A := if_neg (fun z => q z.2)
          obtain ⟨τ, k1, k2, k3⟩ := ih (3 ^ n - r') r' (i + 1) fu s1 A (by omega) (by omega) (by omega) (by omega) (by omega) g3 hA1 e2 (h1.keep c1 (by omega)) (h2.keep c1 (by omega)) (by rw [(c1 2 (by omega)).1]; exact h3)
          rw [h8, if_neg q, hst]
          exact ⟨τ, k1, k2, c1.trans k3⟩
      · rw [e1] at g1; cases g1
    · rcases hnext with ⟨r2, g1, _, _⟩ | ⟨_, g2⟩
      · rw [e1] at g1; cases g1
      · have g2' : f_X5_layNext σ 1 b = some (0, s1) := g2
        refine ⟨s1, ?_, ?_, c1⟩
        · rw [g2', bnd_some, if_pos rfl]
        · rw [fo_id (d - 1) (c + 1) (fun j j1 j2 => if_neg (fun z => by rw [e2 j (by omega) (by omega)] at z; cases z.1))]
          exact hA1
theorem layNo_loop : ∀ (t i fu : Nat) (σ : Sg), t + i = 7 → t < fu → rowIs σ 100 i (fun _ => 0) → ∃ τ, b_X5_layNothing_9 fu σ (nI i) = some τ ∧ rowIs τ 100 7 (fun _ => 0) ∧ rI τ 99 6 = 0 ∧ rI τ 99 7 = 0 ∧ rI τ 99 8 = 0 ∧ rI τ 99 9 = 0 ∧ rI τ 99 0 = rI σ 99 0 ∧ Only 99 102 σ τ := by
  intro t
  induction t with
  | zero =>
    intro i fu σ ht hf h
    obtain ⟨fu, rfl⟩ : ∃ q, fu = q + 1 := ⟨fu - 1, by omega⟩
    have o1 : Only 99 100 σ (stI (stI (stI (stI σ 99 6 0) 99 7 0) 99 8 0) 99 9 0) := (((Only.stI σ 99 6 0).trans (Only.stI _ 99 7 0)).trans (Only.stI _ 99 8 0)).trans (Only.stI _ 99 9 0)
    have : i = 7 := by omega
    subst this
    refine ⟨stI (stI (stI (stI σ 99 6 0) 99 7 0) 99 8 0) 99 9 0, ?_, h.keep o1 (by omega), ?_, ?_, ?_, rI_eq _ _ _ _, ?_, o1.mono (by omega) (by omega)⟩
    · rw [b_X5_layNothing_9, if_pos (show (7 : Int32) ≤ nI 7 from nI_le (a := 7) (by omega) (by omega)), nam_e, nam_e, nam_e, nam_e]
    · rw [rI_nj _ _ (by omega), rI_nj _ _ (by omega), rI_nj _ _ (by omega), rI_eq]
    · rw [rI_nj _ _ (by omega), rI_nj _ _ (by omega), rI_eq]
    · rw [rI_nj _ _ (by omega), rI_eq]
    · rw [rI_nj _ _ (by omega), rI_nj _ _ (by omega), rI_nj _ _ (by omega), rI_nj _ _ (by omega)]
  | succ t ih =>
    intro i fu σ ht hf h
    obtain ⟨fu, rfl⟩ : ∃ q, fu = q + 1 := ⟨fu - 1, by omega⟩
    obtain ⟨s1, a1, b1, c1⟩ := add_in 0 h (show i < 7 by omega)
    obtain ⟨τ, k1, k2, k3, k4, k5, k6, k7, k8⟩ := ih (i + 1) fu s1 (by omega) (by omega) (b1.cong (fun j hj => by
      unfold upd
      split <;> rfl))
    refine ⟨τ, ?_, k2, k3, k4, k5, k6, k7.trans ((c1 99 (by omega)).1 0), (c1.mono (by omega) (by omega)).trans k8⟩
    rw [b_X5_layNothing_9, if_neg (show ¬ (7 : Int32) ≤ nI i from nI_ge (b := 7) (by omega) (by omega)), a1, ob_some, nam_e, nI_1]
    exact k1
theorem weigh_c {σ : Sg} {n : Nat} {h t : Nat → Int32} (b l : Int32) (hn : n ≤ 7) (h1 : rowIs σ 6 n h) (h2 : rowIs σ 19 n t) (h3 : rI σ 2 1 = nI n) : ∃ τ, f_X5_weigh σ 1 l b = some τ ∧ KW τ (fo (stW (uW b) h t n l) 1 (3 ^ n - 1) none) ∧ Only 99 102 σ τ := by
  have o1 : Only 99 100 σ (stI σ 99 0 0) := Only.stI σ 99 0 0
  obtain ⟨s2, a2, b2, c2⟩ := restart_in (stI σ 99 0 0) 100 (fun _ => 0)
  obtain ⟨s3, a3, b3, b4, b5, b6, b7, b8, c3⟩ := layNo_loop 7 0 FU s2 (by omega) (by unfold FU; omega) b2
  have c4 : Only 99 102 σ s3 := ((o1.mono (by omega) (by omega)).trans (c2.mono (by omega) (by omega))).trans c3
  have hp : 0 < 3 ^ n := Nat.pow_pos (by omega)
  have hok : ∀ m k, okW (uW b) k m 0 = true := fun m => by
    induction m with
    | zero => exact fun _ => rfl
    | succ m ih => intro k; rw [okW_s, show 0 / 3 = 0 from rfl, ih, Bool.and_true, decide_eq_true (show 0 % 3 = 0 from rfl), Bool.true_or]
  have hL : LW h t s3 0 n 0 := ⟨b3.cong (fun j _ => by
    show (0 : Int32) = dgW 0 0 j
    unfold dgW
    rw [if_neg (by omega), Nat.zero_div]
    rfl), by rw [b4, usW_0]; rfl, by rw [b5, Nat.mul_zero]; rfl, by rw [b6, hsW_0], by rw [b7, hsW_0]⟩
  have hp7 := pw7 hn
  obtain ⟨τ, k1, k2, k3⟩ := weigh_loop b l hn (3 ^ n) (3 ^ n) 0 0 FU s3 none (by omega) (by omega) hp (by omega) (by unfold FU; omega) hL (show rI s3 99 0 = 0 by rw [b8, (c2 99 (by omega)).1, rI_eq]) (hok n 0) (h1.keep c4 (by omega)) (h2.keep c4 (by omega)) (by rw [(c4 2 (by omega)).1]; exact h3)
  refine ⟨τ, ?_, k2, c4.trans k3⟩
  unfold f_X5_weigh
  rw [nam_e]
  unfold f_X5_layNothing
  rw [a2, ob_some, show b_X5_layNothing_9 FU s2 0 = some s3 from a3, ob_some]
  exact k1
/-! the reference -/
def Pq (a j : Nat) : Prop := a = 112 ∧ 10 ≤ j
theorem codes_loop {σ : Sg} {n : Nat} (hN : rI σ 113 0 = nI n) (hn : n ≤ 7) : ∀ (t i fu : Nat), t + i = n → t < fu → b_X12_codes_4 σ fu (nI (3 ^ i)) (nI i) = some (nI (3 ^ n)) := by
  intro t
  induction t with
  | zero =>
    intro i fu ht hf
    obtain ⟨fu, rfl⟩ : ∃ q, fu = q + 1 := ⟨fu - 1, by omega⟩
    rw [b_X12_codes_4, if_pos (show inb 0 (kLen 113) = true from i113 (n := 0) (by omega)), show rI σ 113 (ix 0) = nI n from hN, if_pos (nI_le (by omega) (by omega)), show i = n by omega]
  | succ t ih =>
    intro i fu ht hf
    obtain ⟨fu, rfl⟩ : ∃ q, fu = q + 1 := ⟨fu - 1, by omega⟩
    rw [b_X12_codes_4, if_pos (show inb 0 (kLen 113) = true from i113 (n := 0) (by omega)), show rI σ 113 (ix 0) = nI n from hN, if_neg (nI_ge (by omega) (by omega)), nam_e, nam_e, nI_1, L3, pk_mul, ← Nat.pow_succ]
    exact ih (i + 1) fu (by omega) (by omega)
theorem codes_r {σ : Sg} {n : Nat} (hN : rI σ 113 0 = nI n) (hn : n ≤ 7) : f_X12_codes σ = some (nI (3 ^ n)) := codes_loop hN hn n 0 FU (by omega) (by unfold FU; omega)
/-- the reference's sums over a code -/
def RW (σ : Sg) (U : Nat) (O : Bool) (H T : Int32) : Prop := rI σ 112 10 = nI U ∧ rI σ 112 11 = b2i O ∧ rI σ 112 12 = H ∧ rI σ 112 13 = T
theorem lays_loop {n : Nat} {g : Nat → Int32} {u : Nat → Bool} (l1 l2 : Int32) (hn : n ≤ 7) (g0 : g 0 = nI n) (hu : ∀ k, k < n → u k = (decide (l2 = 0) || decide (¬ f_X12_has (g 3) (nI k) = 0))) : ∀ (m k fu : Nat) (σ : Sg) (r U : Nat) (O : Bool) (H T : Int32), m + k = n → m < fu → r < 2 ^ 31 → rI σ 113 = g → RW σ U O H T → ∃ τ, b_X12_lays_25 l1 l2 fu σ (nI r) (nI k) = some τ ∧ RW τ (U + usW m r) (O && okW u k m r) (H + hsW (fun j => g (25 + j)) k m r) (T + hsW (fun j => g (18 + j)) k m r) ∧ Un Pq σ τ := by
  intro m
  induction m with
  | zero =>
    intro k fu σ r U O H T hm hf hr hg hR
    obtain ⟨fu, rfl⟩ : ∃ q, fu = q + 1 := ⟨fu - 1, by omega⟩
    have e0 : rI σ 113 (ix 0) = nI n := by rw [hg]; exact g0
    refine ⟨σ, ?_, ?_, Un.rf⟩
    · rw [b_X12_lays_25, if_pos (show inb 0 (kLen 113) = true from i113 (n := 0) (by omega)), e0, if_pos (nI_le (by omega) (by omega))]
    · unfold usW okW hsW
      rw [Nat.add_zero, Bool.and_true, Int32.add_zero, Int32.add_zero]
      exact hR
  | succ m ih =>
    intro k fu σ r U O H T hm hf hr hg hR
    obtain ⟨fu, rfl⟩ : ∃ q, fu = q + 1 := ⟨fu - 1, by omega⟩
    have e0 : rI σ 113 (ix 0) = nI n := by rw [hg]; exact g0
    obtain ⟨R1, R2, R3, R4⟩ := hR
    have key : ∀ O', (O && (decide (r % 3 = 0) || u k)) = O' → ∃ τ, b_X12_lays_123 l1 l2 (b_X12_lays_25 l1 l2 fu) (stI σ 112 10 (nI (U + (if r % 3 = 0 then 0 else 1)))) (nI (r / 3)) (nI k) (wy (r % 3)) (b2i O') = some τ ∧ RW τ (U + usW (m + 1) r) (O && okW u k (m + 1) r) (H + hsW (fun j => g (25 + j)) k (m + 1) r) (T + hsW (fun j => g (18 + j)) k (m + 1) r) ∧ Un Pq σ τ := by
      intro O' hO
      have hu1 : ∀ a b c d : Int32, Un Pq σ (stI (stI (stI (stI σ 112 10 a) 112 11 b) 112 12 c) 112 13 d) := fun a b c d => (((Un.stI σ 112 10 a ⟨rfl, by omega⟩).trans (Un.stI _ 112 11 b ⟨rfl, by omega⟩)).trans (Un.stI _ 112 12 c ⟨rfl, by omega⟩)).trans (Un.stI _ 112 13 d ⟨rfl, by omega⟩)
      have e25 : ∀ s : Sg, rI s 113 = g → rI s 113 (ix (25 + nI k)) = g (25 + k) := fun s hs => by rw [hs, L25, nI_add, ix_nI (by omega)]
      have e18 : ∀ s : Sg, rI s 113 = g → rI s 113 (ix (18 + nI k)) = g (18 + k) := fun s hs => by rw [hs, L18, nI_add, ix_nI (by omega)]
      have i25 : inb (25 + nI k) (kLen 113) = true := by rw [L25, nI_add]; exact i113 (by omega)
      have i18 : inb (18 + nI k) (kLen 113) = true := by rw [L18, nI_add]; exact i113 (by omega)
      have g1 : ∀ (s : Sg) (j : Nat) (v : Int32), rI s 113 = g → rI (stI s 112 j v) 113 = g := fun s j v hs => by rw [← hs]; exact funext (fun i => rI_ne _ _ (by omega))
      unfold b_X12_lays_123
      rw [nam_e, if_pos i25, nam_e, if_pos i18, nam_e, nam_e, nI_1, e25 _ (g1 _ _ _ (g1 _ _ _ hg)), e18 _ (g1 _ _ _ (g1 _ _ _ (g1 _ _ _ hg)))]
      have d12 : rI (stI (stI σ 112 10 (nI (U + (if r % 3 = 0 then 0 else 1)))) 112 11 (b2i O')) 112 12 = H := by rw [rI_nj _ _ (by omega), rI_nj _ _ (by omega), R3]
      have d13 : ∀ v, rI (stI (stI (stI σ 112 10 (nI (U + (if r % 3 = 0 then 0 else 1)))) 112 11 (b2i O')) 112 12 v) 112 13 = T := fun v => by rw [rI_nj _ _ (by omega), rI_nj _ _ (by omega), rI_nj _ _ (by omega), R4]
      rw [d12, d13]
      obtain ⟨τ, k1, k2, k3⟩ := ih (k + 1) fu (stI (stI (stI (stI σ 112 10 (nI (U + (if r % 3 = 0 then 0 else 1)))) 112 11 (b2i O')) 112 12 (H + wy (r % 3) * g (25 + k))) 112 13 (T + wy (r % 3) * g (18 + k))) (r / 3) (U + (if r % 3 = 0 then 0 else 1)) O' (H + wy (r % 3) * g (25 + k)) (T + wy (r % 3) * g (18 + k)) (by omega) (by omega) (by omega) (g1 _ _ _ (g1 _ _ _ (g1 _ _ _ (g1 _ _ _ hg)))) ⟨by rw [rI_nj _ _ (by omega), rI_nj _ _ (by omega), rI_nj _ _ (by omega), rI_eq], by rw [rI_nj _ _ (by omega), rI_nj _ _ (by omega), rI_eq], by rw [rI_nj _ _ (by omega), rI_eq], rI_eq _ _ _ _⟩
      refine ⟨τ, k1, ?_, (hu1 _ _ _ _).trans k3⟩
      rw [usW_s, okW_s, hsW_s, hsW_s, ← Bool.and_assoc, hO, ← Nat.add_assoc, ← Int32.add_assoc, ← Int32.add_assoc]
      exact k2
    rw [b_X12_lays_25, if_pos (show inb 0 (kLen 113) = true from i113 (n := 0) (by omega)), e0, if_neg (nI_ge (by omega) (by omega)), L3, pk_rem (by omega) (by omega) (by omega), pk_div (by omega) (by omega) (by omega), nam_e, nam_e]
    -- 83: what is used, whether it may be
    have k83 : ∀ w : Int32, w = wy (r % 3) → ∃ τ, b_X12_lays_83 l1 l2 (b_X12_lays_25 l1 l2 fu) σ (nI (r / 3)) (nI k) (nI (r % 3)) w (nI (if r % 3 = 0 then 0 else 1)) (rI σ 112 10) = some τ ∧ RW τ (U + usW (m + 1) r) (O && okW u k (m + 1) r) (H + hsW (fun j => g (25 + j)) k (m + 1) r) (T + hsW (fun j => g (18 + j)) k (m + 1) r) ∧ Un Pq σ τ := by
      intro w hw
      subst hw
      unfold b_X12_lays_83 b_X12_lays_122 b_X12_lays_118
      rw [nam_e, R1, nI_add, rI_nj _ _ (by omega), R2]
      have e3 : ∀ v, rI (stI σ 112 10 v) 113 (ix 3) = g 3 := fun v => by rw [rI_ne _ _ (by omega), hg]; rfl
      rw [e3, if_pos (show inb 3 (kLen 113) = true from i113 (n := 3) (by omega))]
      cases O with
      | false =>
        rw [if_pos (show b2i false = 0 from rfl)]
        exact key false (Bool.false_and _)
      | true =>
        rw [if_neg (show ¬ b2i true = 0 by decide)]
        by_cases q1 : r % 3 = 0
        · rw [if_pos (show nI (r % 3) = 0 by rw [q1]; rfl)]
          exact key true (by rw [decide_eq_true q1]; rfl)
        · rw [if_neg (show ¬ nI (r % 3) = 0 from nI_ne0 (by omega) (by omega))]
          by_cases q2 : l2 = 0
          · rw [if_pos q2]
            exact key true (by rw [hu k (by omega), decide_eq_true q2, Bool.true_or, Bool.or_true]; rfl)
          · rw [if_neg q2]
            by_cases q3 : f_X12_has (g 3) (nI k) = 0
            · rw [if_pos q3]
              exact key false (by rw [hu k (by omega), decide_eq_false q1, decide_eq_false q2, decide_eq_false (fun z => z q3)]; rfl)
            · rw [if_neg q3]
              exact key true (by rw [hu k (by omega), decide_eq_true q3, Bool.or_true, Bool.or_true]; rfl)
    have k66 : ∀ w : Int32, w = wy (r % 3) → ∃ τ, b_X12_lays_66 l1 l2 (b_X12_lays_25 l1 l2 fu) σ (nI (r / 3)) (nI k) (nI (r % 3)) w = some τ ∧ RW τ (U + usW (m + 1) r) (O && okW u k (m + 1) r) (H + hsW (fun j => g (25 + j)) k (m + 1) r) (T + hsW (fun j => g (18 + j)) k (m + 1) r) ∧ Un Pq σ τ := by
      intro w hw
      have := k83 w hw
      unfold b_X12_lays_66
      by_cases q : r % 3 = 0
      · rw [if_pos (show nI (r % 3) = 0 by rw [q]; rfl)]
        rw [if_pos q] at this
        exact this
      · rw [if_neg (show ¬ nI (r % 3) = 0 from nI_ne0 (by omega) (by omega))]
        rw [if_neg q] at this
        exact this
    rcases (show r % 3 = 0 ∨ r % 3 = 1 ∨ r % 3 = 2 by omega) with q | q | q
    · rw [if_neg (show ¬ nI (r % 3) = 1 by rw [q]; decide), if_neg (show ¬ nI (r % 3) = 2 by rw [q]; decide)]
      exact k66 0 (by rw [q]; rfl)
    · rw [if_pos (show nI (r % 3) = 1 by rw [q]; rfl)]
      exact k66 (-1) (by rw [q]; rfl)
    · rw [if_neg (show ¬ nI (r % 3) = 1 by rw [q]; decide), if_pos (show nI (r % 3) = 2 by rw [q]; rfl)]
      exact k66 1 (by rw [q]; rfl)
theorem lays_r {n : Nat} {g : Nat → Int32} {u : Nat → Bool} {σ : Sg} {c : Nat} (l2 : Int32) (hn : n ≤ 7) (g0 : g 0 = nI n) (hu : ∀ k, k < n → u k = (decide (l2 = 0) || decide (¬ f_X12_has (g 3) (nI k) = 0))) (hg : rI σ 113 = g) (hc : c < 2 ^ 31) : ∃ τ, f_X12_lays σ (nI c) l2 = some τ ∧ RW τ (usW n c) (okW u 0 n c) (hsW (fun j => g (25 + j)) 0 n c) (hsW (fun j => g (18 + j)) 0 n c) ∧ Un Pq σ τ := by
  have hu1 : Un Pq σ (stI (stI (stI (stI σ 112 10 0) 112 11 1) 112 12 0) 112 13 0) := (((Un.stI σ 112 10 0 ⟨rfl, by omega⟩).trans (Un.stI _ 112 11 1 ⟨rfl, by omega⟩)).trans (Un.stI _ 112 12 0 ⟨rfl, by omega⟩)).trans (Un.stI _ 112 13 0 ⟨rfl, by omega⟩)
  obtain ⟨τ, k1, k2, k3⟩ := lays_loop (u := u) (nI c) l2 hn g0 hu n 0 FU _ c 0 true 0 0 (by omega) (by unfold FU; omega) hc ((funext (fun j => (hu1 113 j (by unfold Pq; omega)).1)).trans hg) ⟨by rw [rI_nj _ _ (by omega), rI_nj _ _ (by omega), rI_nj _ _ (by omega), rI_eq]; rfl, by rw [rI_nj _ _ (by omega), rI_nj _ _ (by omega), rI_eq]; rfl, by rw [rI_nj _ _ (by omega), rI_eq], rI_eq _ _ _ _⟩
  rw [Nat.zero_add, Bool.true_and, Int32.zero_add, Int32.zero_add] at k2
  refine ⟨τ, ?_, k2, hu1.trans k3⟩
  unfold f_X12_lays
  rw [nam_e, nam_e, nam_e, nam_e]
  exact k1
/-- what load tells of what is kept -/
def lB (A : Option (Nat × Nat × Int32 × Int32)) : Int32 := match A with
  | none => -1
  | some (_, d, _, _) => nI d
def lF (A : Option (Nat × Nat × Int32 × Int32)) : Int32 := match A with
  | none => 1000000
  | some (f, _, _, _) => nI f
def lT (A : Option (Nat × Nat × Int32 × Int32)) : Int32 := match A with
  | none => 0
  | some (_, _, t, _) => t
def lV (A : Option (Nat × Nat × Int32 × Int32)) (w : Int32) : Int32 := match A with
  | none => -10000
  | some (f, d, t, _) => if w = 0 then nI f else if w = 1 then nI d else t
def lG (A : Option (Nat × Nat × Int32 × Int32)) : Int32 := match A with
  | none => 1000000
  | some (_, _, _, l) => l
def lX (A : Option (Nat × Nat × Int32 × Int32)) : Int32 := match A with
  | none => -10000
  | some (_, _, _, l) => l
def lO (A : Option (Nat × Nat × Int32 × Int32)) : Prop := match A with
  | none => True
  | some (f, d, _, l) => f ≤ 7 ∧ d < 2187 ∧ l.toInt < 1000000
theorem lO_k {A : Option (Nat × Nat × Int32 × Int32)} {w c : Nat} {T : Int32} (h : lO A) (hw : w ≤ 7) (hc : c < 2187) (hT : T.toInt < 1000000) : lO (kW A w c T) := by
  cases A with
  | none => exact ⟨hw, hc, hT⟩
  | some q =>
    obtain ⟨f, d, t, l⟩ := q
    obtain ⟨h1, h2, h3⟩ := h
    refine ⟨?_, ?_, ?_⟩
    · show (if w < f then w else f) ≤ 7
      split <;> omega
    · show (if w < f then c else d) < 2187
      split <;> omega
    · show (if T < l then T else l).toInt < 1000000
      split <;> assumption
theorem loadR {n : Nat} {g : Nat → Int32} {u : Nat → Bool} (l l2 w : Int32) (hn : n ≤ 7) (g0 : g 0 = nI n) (hl2 : l2 = 0 ∨ l2 = 1) (hu : ∀ k, k < n → u k = (decide (l2 = 0) || decide (¬ f_X12_has (g 3) (nI k) = 0))) (ht : ∀ j, j < n → vIn (g (18 + j)) 1 250) : ∀ (d c fu : Nat) (σ : Sg) (A : Option (Nat × Nat × Int32 × Int32)), d + c = 3 ^ n → d < fu → rI σ 113 = g → lO A → ∃ τ, b_X12_load_55 l l2 w fu σ (lB A) (lF A) (lT A) (nI c) = some (lV (fo (stW u (fun j => g (25 + j)) (fun j => g (18 + j)) n l) c d A) w, τ) ∧ Un Pq σ τ := by
  have hp := pw7 hn
  intro d
  induction d with
  | zero =>
    intro c fu σ A hd hf hg hA
    obtain ⟨fu, rfl⟩ : ∃ q, fu = q + 1 := ⟨fu - 1, by omega⟩
    refine ⟨σ, ?_, Un.rf⟩
    rw [b_X12_load_55, codes_r (by rw [hg]; exact g0) hn, ob_some, if_pos (nI_le (by omega) (by omega)), fo_0]
    cases A with
    | none => exact if_pos rfl
    | some q =>
      obtain ⟨f, d, t, l'⟩ := q
      rw [if_neg (show ¬ lB (some (f, d, t, l')) = -1 from nI_nm1 (by have := hA.2.1; omega))]
      show (if w = 0 then some (nI f, σ) else if w = 1 then some (nI d, σ) else some (t, σ)) = some (if w = 0 then nI f else if w = 1 then nI d else t, σ)
      split
      · rfl
      · split <;> rfl
  | succ d ih =>
    intro c fu σ A hd hf hg hA
    obtain ⟨fu, rfl⟩ : ∃ q, fu = q + 1 := ⟨fu - 1, by omega⟩
    obtain ⟨s1, a1, ⟨b1, b2, b3, b4⟩, c1⟩ := lays_r (u := u) (c := c) l2 hn g0 hu hg (by omega)
    have hg1 : rI s1 113 = g := (funext (fun j => (c1 113 j (by unfold Pq; omega)).1)).trans hg
    have hb := hsW_b ht n 0 c (by omega) hn
    have key : ∃ τ, b_X12_load_77 l l2 w (b_X12_load_55 l l2 w fu) σ (lB A) (lF A) (lT A) (nI c) l2 (nI c) = some (lV (fo (stW u (fun j => g (25 + j)) (fun j => g (18 + j)) n l) c (d + 1) A) w, τ) ∧ Un Pq σ τ := by
      unfold b_X12_load_77 b_X12_load_120
      rw [a1, ob_some, b1, b2, b3, b4, fo_s]
      simp only [nam_e, nI_1]
      by_cases q1 : okW u 0 n c = true
      · rw [if_neg (show ¬ b2i (okW u 0 n c) = 0 by rw [q1]; decide)]
        by_cases q2 : hsW (fun j => g (25 + j)) 0 n c = l
        · rw [if_pos q2, show stW u (fun j => g (25 + j)) (fun j => g (18 + j)) n l c A = kW A (usW n c) c (hsW (fun j => g (18 + j)) 0 n c) from if_pos ⟨q1, q2⟩]
          have hus := usW_le n c
          have hA2 : lO (kW A (usW n c) c (hsW (fun j => g (18 + j)) 0 n c)) := lO_k hA (by omega) (by omega) (by omega)
          obtain ⟨τ, k1, k2⟩ := ih (c + 1) fu s1 _ (by omega) (by omega) hg1 hA2
          refine ⟨τ, ?_, c1.trans k2⟩
          cases A with
          | none =>
            rw [if_neg (show ¬ lF none ≤ nI (usW n c) from nI_ge (b := 1000000) (by omega) (by omega))]
            exact k1
          | some q =>
            obtain ⟨f, d', t, l'⟩ := q
            have hf7 := hA.1
            by_cases q3 : usW n c < f
            · have ek : kW (some (f, d', t, l')) (usW n c) c (hsW (fun j => g (18 + j)) 0 n c) = some (usW n c, c, hsW (fun j => g (18 + j)) 0 n c, if hsW (fun j => g (18 + j)) 0 n c < l' then hsW (fun j => g (18 + j)) 0 n c else l') := by
                unfold kW
                simp only [if_pos q3]
              rw [if_neg (show ¬ lF (some (f, d', t, l')) ≤ nI (usW n c) from nI_ge q3 (by omega))]
              rw [ek] at k1 ⊢
              exact k1
            · have ek : kW (some (f, d', t, l')) (usW n c) c (hsW (fun j => g (18 + j)) 0 n c) = some (f, d', t, if hsW (fun j => g (18 + j)) 0 n c < l' then hsW (fun j => g (18 + j)) 0 n c else l') := by
                unfold kW
                simp only [if_neg q3]
              rw [if_pos (show lF (some (f, d', t, l')) ≤ nI (usW n c) from nI_le (by omega) (by omega))]
              rw [ek] at k1 ⊢
              exact k1
        · obtain ⟨τ, k1, k2⟩ := ih (c + 1) fu s1 A (by omega) (by omega) hg1 hA
          rw [if_neg q2, show stW u (fun j => g (25 + j)) (fun j => g (18 + j)) n l c A = A from if_neg (fun z => q2 z.2)]
          exact ⟨τ, k1, c1.trans k2⟩
      · obtain ⟨τ, k1, k2⟩ := ih (c + 1) fu s1 A (by omega) (by omega) hg1 hA
        rw [if_pos (show b2i (okW u 0 n c) = 0 by rw [Bool.not_eq_true] at q1; rw [q1]; rfl), show stW u (fun j => g (25 + j)) (fun j => g (18 + j)) n l c A = A from if_neg (fun z => q1 z.1)]
        exact ⟨τ, k1, c1.trans k2⟩
    rw [b_X12_load_55, codes_r (by rw [hg]; exact g0) hn, ob_some, if_neg (nI_ge (by omega) (by omega))]
    rcases hl2 with rfl | rfl
    · rw [if_neg (by decide)]
      exact key
    · rw [if_pos rfl]
      exact key
theorem gainR {n : Nat} {g : Nat → Int32} {u : Nat → Bool} (l l2 : Int32) (hn : n ≤ 7) (g0 : g 0 = nI n) (hl2 : l2 = 0 ∨ l2 = 1) (hu : ∀ k, k < n → u k = (decide (l2 = 0) || decide (¬ f_X12_has (g 3) (nI k) = 0))) (ht : ∀ j, j < n → vIn (g (18 + j)) 1 250) : ∀ (d c fu : Nat) (σ : Sg) (A : Option (Nat × Nat × Int32 × Int32)), d + c = 3 ^ n → d < fu → rI σ 113 = g → lO A → ∃ τ, b_X12_gain_36 l l2 fu σ (lG A) (nI c) = some (lX (fo (stW u (fun j => g (25 + j)) (fun j => g (18 + j)) n l) c d A), τ) ∧ Un Pq σ τ := by
  have hp := pw7 hn
  have e6 : (1000000 : Int32).toInt = 1000000 := rfl
  intro d
  induction d with
  | zero =>
    intro c fu σ A hd hf hg hA
    obtain ⟨fu, rfl⟩ : ∃ q, fu = q + 1 := ⟨fu - 1, by omega⟩
    refine ⟨σ, ?_, Un.rf⟩
    rw [b_X12_gain_36, codes_r (by rw [hg]; exact g0) hn, ob_some, if_pos (nI_le (by omega) (by omega)), fo_0]
    cases A with
    | none => exact if_pos rfl
    | some q =>
      obtain ⟨f, d, t, l'⟩ := q
      refine if_neg (show ¬ l' = 1000000 from fun z => ?_)
      have := hA.2.2
      rw [z] at this
      omega
  | succ d ih =>
    intro c fu σ A hd hf hg hA
    obtain ⟨fu, rfl⟩ : ∃ q, fu = q + 1 := ⟨fu - 1, by omega⟩
    obtain ⟨s1, a1, ⟨b1, b2, b3, b4⟩, c1⟩ := lays_r (u := u) (c := c) l2 hn g0 hu hg (by omega)
    have hg1 : rI s1 113 = g := (funext (fun j => (c1 113 j (by unfold Pq; omega)).1)).trans hg
    have hb := hsW_b ht n 0 c (by omega) hn
    have key : ∃ τ, b_X12_gain_58 l l2 (b_X12_gain_36 l l2 fu) σ (lG A) (nI c) l2 (nI c) = some (lX (fo (stW u (fun j => g (25 + j)) (fun j => g (18 + j)) n l) c (d + 1) A), τ) ∧ Un Pq σ τ := by
      unfold b_X12_gain_58 b_X12_gain_91 b_X12_gain_92
      rw [a1, ob_some, b2, b3, b4, fo_s]
      simp only [nam_e, nI_1]
      by_cases q1 : okW u 0 n c = true
      · rw [if_neg (show ¬ b2i (okW u 0 n c) = 0 by rw [q1]; decide)]
        by_cases q2 : hsW (fun j => g (25 + j)) 0 n c = l
        · rw [if_pos q2, show stW u (fun j => g (25 + j)) (fun j => g (18 + j)) n l c A = kW A (usW n c) c (hsW (fun j => g (18 + j)) 0 n c) from if_pos ⟨q1, q2⟩]
          have hus := usW_le n c
          have hA2 : lO (kW A (usW n c) c (hsW (fun j => g (18 + j)) 0 n c)) := lO_k hA (by omega) (by omega) (by omega)
          obtain ⟨τ, k1, k2⟩ := ih (c + 1) fu s1 _ (by omega) (by omega) hg1 hA2
          refine ⟨τ, ?_, c1.trans k2⟩
          cases A with
          | none =>
            rw [if_neg (show ¬ lG none ≤ hsW (fun j => g (18 + j)) 0 n c from fun z => by
              rw [li_le] at z
              have : (lG none).toInt = 1000000 := rfl
              omega)]
            exact k1
          | some q =>
            obtain ⟨f, d', t, l'⟩ := q
            have ek : lG (kW (some (f, d', t, l')) (usW n c) c (hsW (fun j => g (18 + j)) 0 n c)) = if hsW (fun j => g (18 + j)) 0 n c < l' then hsW (fun j => g (18 + j)) 0 n c else l' := rfl
            rw [ek] at k1
            by_cases q3 : l' ≤ hsW (fun j => g (18 + j)) 0 n c
            · rw [if_pos (show lG (some (f, d', t, l')) ≤ _ from q3)]
              rw [if_neg (Int32.not_lt.mpr q3)] at k1
              exact k1
            · rw [if_neg (show ¬ lG (some (f, d', t, l')) ≤ _ from q3)]
              rw [if_pos (Int32.not_le.mp q3)] at k1
              exact k1
        · obtain ⟨τ, k1, k2⟩ := ih (c + 1) fu s1 A (by omega) (by omega) hg1 hA
          rw [if_neg q2, show stW u (fun j => g (25 + j)) (fun j => g (18 + j)) n l c A = A from if_neg (fun z => q2 z.2)]
          exact ⟨τ, k1, c1.trans k2⟩
      · obtain ⟨τ, k1, k2⟩ := ih (c + 1) fu s1 A (by omega) (by omega) hg1 hA
        rw [if_pos (show b2i (okW u 0 n c) = 0 by rw [Bool.not_eq_true] at q1; rw [q1]; rfl), show stW u (fun j => g (25 + j)) (fun j => g (18 + j)) n l c A = A from if_neg (fun z => q1 z.1)]
        exact ⟨τ, k1, c1.trans k2⟩
    rw [b_X12_gain_36, codes_r (by rw [hg]; exact g0) hn, ob_some, if_neg (nI_ge (by omega) (by omega))]
    rcases hl2 with rfl | rfl
    · rw [if_neg (by decide)]
      exact key
    · rw [if_pos rfl]
      exact key
/-- both sides, whatever is asked of what is kept -/
theorem pans_two {σ : Sg} (h : Inv σ) {l y : Nat} (hl : 1 ≤ l) (hl2 : l ≤ 999) (hy : y ≤ 1) : ∃ A τ n, f_X5_weigh σ 1 (nI l) (if nI y = 1 then rI σ 18 1 else f_X3_allStones σ 1) = some τ ∧ KW τ A ∧ Un Pc σ τ ∧ rI τ 113 = rI σ 113 ∧ n ≤ 7 ∧ rI σ 113 0 = nI n ∧ (∀ j, j < n → vIn (rI σ 113 (18 + j)) 1 250) ∧ ∃ u : Nat → Bool, (∀ k, k < n → u k = (decide (nI y = 0) || decide (¬ f_X12_has (rI σ 113 3) (nI k) = 0))) ∧ A = fo (stW u (fun j => rI σ 113 (25 + j)) (fun j => rI σ 113 (18 + j)) n (nI l)) 0 (3 ^ n) none := by
  obtain ⟨n, b, c, d, e, v, hn, hw, hr⟩ := h.1
  obtain ⟨⟨n0, ha⟩, _⟩ := hn
  have hal := all_c h
  rw [n0] at hal
  obtain ⟨r1, r2, r3, r4, r5, r6, r7, r8, r9, r10, r11, r12⟩ := hr
  have hp : 0 < 3 ^ n := Nat.pow_pos (by omega)
  have hl0 : ¬ (0 : Int32) = nI l := fun z => nI_ne0 (by omega) (by omega) z.symm
  have hfo : ∀ u, fo (stW u (fun j => rI σ 113 (25 + j)) (fun j => rI σ 113 (18 + j)) n (nI l)) 1 (3 ^ n - 1) none = fo (stW u (fun j => rI σ 113 (25 + j)) (fun j => rI σ 113 (18 + j)) n (nI l)) 0 (3 ^ n) none := fun u => by
    obtain ⟨m, hm⟩ : ∃ m, 3 ^ n = m + 1 := ⟨3 ^ n - 1, by omega⟩
    rw [hm, fo_s, Nat.add_sub_cancel, show stW u (fun j => rI σ 113 (25 + j)) (fun j => rI σ 113 (18 + j)) n (nI l) 0 none = none from if_neg (fun z => hl0 ((hsW_0 _ _ _).symm.trans z.2))]
  have fin : ∀ b' : Int32, (if nI y = 1 then rI σ 18 1 else f_X3_allStones σ 1) = b' → (∀ k, k < n → uW b' k = (decide (nI y = 0) || decide (¬ f_X12_has (rI σ 113 3) (nI k) = 0))) → ∃ A τ n, f_X5_weigh σ 1 (nI l) (if nI y = 1 then rI σ 18 1 else f_X3_allStones σ 1) = some τ ∧ KW τ A ∧ Un Pc σ τ ∧ rI τ 113 = rI σ 113 ∧ n ≤ 7 ∧ rI σ 113 0 = nI n ∧ (∀ j, j < n → vIn (rI σ 113 (18 + j)) 1 250) ∧ ∃ u : Nat → Bool, (∀ k, k < n → u k = (decide (nI y = 0) || decide (¬ f_X12_has (rI σ 113 3) (nI k) = 0))) ∧ A = fo (stW u (fun j => rI σ 113 (25 + j)) (fun j => rI σ 113 (18 + j)) n (nI l)) 0 (3 ^ n) none := by
    intro b' hb hu
    rw [hb]
    obtain ⟨τ, k1, k2, k3⟩ := weigh_c b' (nI l) ha r3 r11 r1.2.1
    exact ⟨_, τ, n, k1, k2, k3.un (fun a j p q => by unfold Pc; omega), funext (fun j => (k3 113 (by omega)).1 j), ha, n0, fun j hj => ((hw.2.2.2.2.1.1 j (by omega)).1 hj).1, uW b', hu, hfo _⟩
  rcases (show y = 0 ∨ y = 1 by omega) with rfl | rfl
  · refine fin ((1 <<< (nI n &&& 31)) - 1) (by rw [if_neg (by decide), hal]) (fun k hk => ?_)
    rw [decide_eq_true (show nI 0 = 0 from rfl), Bool.true_or]
    exact decide_eq_true (by rw [all_has n (by omega) k hk]; decide)
  · refine fin (rI σ 113 3) (by rw [if_pos rfl]; exact r10) (fun k hk => ?_)
    rw [decide_eq_false (show ¬ nI 1 = 0 by decide), Bool.false_or]
    rfl
theorem KW_0 {τ : Sg} (h : KW τ none) : rI τ 99 0 = 0 := h
theorem m_load {σ : Sg} (h : Inv σ) (v1 v2 v3 : Int32) : Sim (fun s => f_X11_load s v1 v2 v3) (fun s => f_X12_load s v1 v2 v3) σ := by
  by_cases q1 : f_X11_between v1 1 999 = 0
  · refine ref_bad h (-20000) id ?_ (fun τ ht => ?_)
    · show f_X11_load σ v1 v2 v3 = _
      unfold f_X11_load; rw [if_pos q1]; rfl
    · show f_X12_load τ v1 v2 v3 = _
      unfold f_X12_load; rw [in_1_999, if_pos q1]; rfl
  by_cases q2 : f_X11_between v2 0 1 = 0
  · refine ref_bad h (-20000) id ?_ (fun τ ht => ?_)
    · show f_X11_load σ v1 v2 v3 = _
      unfold f_X11_load; rw [if_neg q1, if_pos q2]; rfl
    · show f_X12_load τ v1 v2 v3 = _
      unfold f_X12_load; rw [in_1_999, if_neg q1, in_0_1, if_pos q2]; rfl
  by_cases q3 : f_X11_between v3 0 2 = 0
  · refine ref_bad h (-20000) id ?_ (fun τ ht => ?_)
    · show f_X11_load σ v1 v2 v3 = _
      unfold f_X11_load; rw [if_neg q1, if_neg q2, if_pos q3]; rfl
    · show f_X12_load τ v1 v2 v3 = _
      unfold f_X12_load; rw [in_1_999, if_neg q1, in_0_1, if_neg q2, in_0_2, if_pos q3]; rfl
  obtain ⟨l, l1, l2, rfl⟩ := btw_of (lo := 1) (hi := 999) (by omega) q1 (by omega)
  obtain ⟨y, _, y2, rfl⟩ := btw_of (lo := 0) (hi := 1) (by omega) q2 (by omega)
  obtain ⟨A, s1, n, a1, a2, a3, a4, a5, a6, a7, u, a8, a9⟩ := pans_two h l1 l2 y2
  obtain ⟨s2, b1, b2⟩ := loadR (u := u) (nI l) (nI y) v3 a5 a6 (by rcases (show y = 0 ∨ y = 1 by omega) with rfl | rfl; · exact Or.inl rfl
                                                                                                                     · exact Or.inr rfl) a8 a7 (3 ^ n) 0 FU s1 none (by omega) (by have := pw7 a5; unfold FU; omega) a4 trivial
  rw [← a9] at b1
  refine ⟨lV A v3, s1, s2, ?_, ?_, Inv_pass h (a3.trans (b2.mono (fun a j q => by unfold Pq at q; unfold Pc; omega)))⟩
  · have e71 : b_X11_load_71 (nI l) (nI y) v3 σ (if nI y = 1 then rI σ 18 1 else f_X3_allStones σ 1) (nI l) = some (lV A v3, s1) := by
      unfold b_X11_load_71
      rw [a1, ob_some]
      cases A with
      | none => exact if_pos a2
      | some q =>
        obtain ⟨f, d, t, l'⟩ := q
        obtain ⟨g0, g1, g2, g3, g4, g5⟩ := a2
        rw [g0, if_neg (by decide), g1, g2, g3]
        show (if v3 = 0 then some (nI f, s1) else if v3 = 1 then some (nI d, s1) else some (t, s1)) = some (if v3 = 0 then nI f else if v3 = 1 then nI d else t, s1)
        split
        · rfl
        · split <;> rfl
    show f_X11_load σ (nI l) (nI y) v3 = _
    unfold f_X11_load
    rw [if_neg q1, if_neg q2, if_neg q3, ← e71]
    split <;> rfl
  · show f_X12_load s1 (nI l) (nI y) v3 = _
    unfold f_X12_load
    rw [in_1_999, if_neg q1, in_0_1, if_neg q2, in_0_2, if_neg q3]
    exact b1
theorem m_gain {σ : Sg} (h : Inv σ) (v1 v2 : Int32) : Sim (fun s => f_X11_gain s v1 v2) (fun s => f_X12_gain s v1 v2) σ := by
  by_cases q1 : f_X11_between v1 1 999 = 0
  · refine ref_bad h (-20000) id ?_ (fun τ ht => ?_)
    · show f_X11_gain σ v1 v2 = _
      unfold f_X11_gain; rw [if_pos q1]; rfl
    · show f_X12_gain τ v1 v2 = _
      unfold f_X12_gain; rw [in_1_999, if_pos q1]; rfl
  by_cases q2 : f_X11_between v2 0 1 = 0
  · refine ref_bad h (-20000) id ?_ (fun τ ht => ?_)
    · show f_X11_gain σ v1 v2 = _
      unfold f_X11_gain; rw [if_neg q1, if_pos q2]; rfl
    · show f_X12_gain τ v1 v2 = _
      unfold f_X12_gain; rw [in_1_999, if_neg q1, in_0_1, if_pos q2]; rfl
  obtain ⟨l, l1, l2, rfl⟩ := btw_of (lo := 1) (hi := 999) (by omega) q1 (by omega)
  obtain ⟨y, _, y2, rfl⟩ := btw_of (lo := 0) (hi := 1) (by omega) q2 (by omega)
  obtain ⟨A, s1, n, a1, a2, a3, a4, a5, a6, a7, u, a8, a9⟩ := pans_two h l1 l2 y2
  obtain ⟨s2, b1, b2⟩ := gainR (u := u) (nI l) (nI y) a5 a6 (by rcases (show y = 0 ∨ y = 1 by omega) with rfl | rfl; · exact Or.inl rfl
                                                                                                                  · exact Or.inr rfl) a8 a7 (3 ^ n) 0 FU s1 none (by omega) (by have := pw7 a5; unfold FU; omega) a4 trivial
  rw [← a9] at b1
  refine ⟨lX A, s1, s2, ?_, ?_, Inv_pass h (a3.trans (b2.mono (fun a j q => by unfold Pq at q; unfold Pc; omega)))⟩
  · have e62 : b_X11_gain_62 (nI l) (nI y) σ (if nI y = 1 then rI σ 18 1 else f_X3_allStones σ 1) (nI l) = some (lX A, s1) := by
      unfold b_X11_gain_62
      rw [a1, ob_some]
      cases A with
      | none => exact if_pos a2
      | some q =>
        obtain ⟨f, d, t, l'⟩ := q
        obtain ⟨g0, g1, g2, g3, g4, g5⟩ := a2
        rw [g0, if_neg (by decide), g4]
        rfl
    show f_X11_gain σ (nI l) (nI y) = _
    unfold f_X11_gain
    rw [if_neg q1, if_neg q2, ← e62]
    split <;> rfl
  · show f_X12_gain s1 (nI l) (nI y) = _
    unfold f_X12_gain
    rw [in_1_999, if_neg q1, in_0_1, if_neg q2]
    exact b1
/-! ===== walk: the least round ===== -/
def hB (x k : Nat) : Bool := decide (¬ f_X12_has (nI x) (nI k) = 0)
theorem rm_bits : ∀ x, x < 128 → ∀ k, k < 7 → hB x k = true → nI x &&& ((1 <<< (nI k &&& 31)) ^^^ (-1)) = nI (x - 2 ^ k) ∧ 2 ^ k ≤ x := by decide +kernel
theorem rm_bit2 : ∀ x, x < 128 → ∀ k, k < 7 → hB x k = true → ∀ j, j < 7 → hB (x - 2 ^ k) j = (hB x j && decide (j ≠ k)) := by decide +kernel
theorem no_bits : ∀ x, x < 128 → x ≠ 0 → ∃ k, k < 7 ∧ hB x k = true := by decide +kernel
theorem no_bit0 : ∀ k, k < 7 → hB 0 k = false := by decide +kernel
theorem and_self0 : ∀ s, s < 128 → nI s &&& (nI s ^^^ (-1)) = 0 := by decide +kernel
/-- how many bits from k on, t places -/
def ctB (x : Nat) : Nat → Nat → Nat
  | _, 0 => 0
  | k, t + 1 => (if hB x k = true then 1 else 0) + ctB x (k + 1) t
theorem ctB_s (x k t : Nat) : ctB x k (t + 1) = (if hB x k = true then 1 else 0) + ctB x (k + 1) t := rfl
theorem ct_ones : ∀ x, x < 128 → f_X12_ones (nI x) = some (nI (ctB x 0 7)) := by decide +kernel
theorem ct_rm : ∀ x, x < 128 → ∀ k, k < 7 → hB x k = true → ctB (x - 2 ^ k) 0 7 + 1 = ctB x 0 7 := by decide +kernel
theorem ct_pos : ∀ x, x < 128 → ctB x 0 7 ≤ 7 ∧ (ctB x 0 7 = 0 → x = 0) := by decide +kernel
theorem ct_skip (x : Nat) : ∀ (m k t : Nat), (∀ j, k ≤ j → j < k + m → hB x j = false) → ctB x k (m + t) = ctB x (k + m) t
  | 0, k, t, _ => by rw [Nat.zero_add]; rfl
  | m + 1, k, t, h => by
    rw [show m + 1 + t = (m + t) + 1 by omega, ctB_s, if_neg (by rw [h k (by omega) (by omega)]; decide), Nat.zero_add, ct_skip x m (k + 1) t (fun j h1 h2 => h j (by omega) (by omega)), show k + 1 + m = k + (m + 1) by omega]
def wN (x y : Nat) : Nat := if y ≤ x then (if x - y ≤ 6 then x - y else 12 - (x - y)) else (if y - x ≤ 6 then y - x else 12 - (y - x))
theorem wN_le (x y : Nat) : wN x y ≤ 6 := by
  unfold wN
  split <;> split <;> omega
def bsW (x : Nat) (f : Nat → Nat) : Nat → Option (Nat × Nat) → Option (Nat × Nat) := fun k o => if hB x k = true then oS o k (f k) else o
/-- the hours still to go from p, x being left: with m, the fuel -/
def dW (H : Nat → Nat) : Nat → Nat → Nat → Nat
  | 0, _, p => wN (H p) (H 7)
  | m + 1, x, p => match fo (bsW x (fun k => wN (H p) (H k) + 1 + dW H m (x - 2 ^ k) k)) 0 7 none with
    | none => wN (H p) (H 7)
    | some q => q.2
theorem dW_s (H : Nat → Nat) (m x p : Nat) : dW H (m + 1) x p = match fo (bsW x (fun k => wN (H p) (H k) + 1 + dW H m (x - 2 ^ k) k)) 0 7 none with
    | none => wN (H p) (H 7)
    | some q => q.2 := rfl
theorem bs_0 (f : Nat → Nat) : fo (bsW 0 f) 0 7 none = none := fo_id 7 0 (fun j _ h => if_neg (by rw [no_bit0 j (by omega)]; decide))
theorem dW_0 (H : Nat → Nat) (m p : Nat) : dW H m 0 p = wN (H p) (H 7) := by
  cases m with
  | zero => rfl
  | succ m => rw [dW_s, bs_0]
theorem bs_cong {x : Nat} {f f' : Nat → Nat} (h : ∀ k, k < 7 → hB x k = true → f k = f' k) (o : Option (Nat × Nat)) : fo (bsW x f) 0 7 o = fo (bsW x f') 0 7 o := fo_cong 7 0 o (fun j _ h2 y => by
  unfold bsW
  by_cases q : hB x j = true
  · rw [if_pos q, if_pos q, h j (by omega) q]
  · rw [if_neg q, if_neg q])
theorem two_pow_pos' (k : Nat) : 0 < 2 ^ k := Nat.two_pow_pos k
theorem dW_st (H : Nat → Nat) : ∀ m m' x p, x < 128 → x ≤ m → x ≤ m' → dW H m x p = dW H m' x p
  | 0, m', x, p, _, h1, _ => by
    have : x = 0 := by omega
    subst this
    rw [dW_0, dW_0]
  | m + 1, 0, x, p, _, _, h2 => by
    have : x = 0 := by omega
    subst this
    rw [dW_0, dW_0]
  | m + 1, m' + 1, x, p, hx, h1, h2 => by
    rw [dW_s, dW_s, bs_cong (f' := fun k => wN (H p) (H k) + 1 + dW H m' (x - 2 ^ k) k) (fun k hk hb => by
      have hp := two_pow_pos' k
      have hr := (rm_bits x hx k hk hb).2
      rw [dW_st H m m' (x - 2 ^ k) k (by omega) (by omega) (by omega)])]
/-- what the next one asked costs, and all behind it -/
def fW (H : Nat → Nat) (x p : Nat) : Nat → Nat := fun k => wN (H p) (H k) + 1 + dW H 128 (x - 2 ^ k) k
def Fw (H : Nat → Nat) (x p : Nat) : Option (Nat × Nat) := fo (bsW x (fW H x p)) 0 7 none
theorem D_eq (H : Nat → Nat) {x : Nat} (p : Nat) (hx : x < 128) : dW H 128 x p = match Fw H x p with
    | none => wN (H p) (H 7)
    | some q => q.2 := by
  rw [show dW H 128 x p = match fo (bsW x (fun k => wN (H p) (H k) + 1 + dW H 127 (x - 2 ^ k) k)) 0 7 none with
    | none => wN (H p) (H 7)
    | some q => q.2 from rfl, bs_cong (f' := fW H x p) (fun k hk hb => by
      have hp := two_pow_pos' k
      have hr := (rm_bits x hx k hk hb).2
      unfold fW
      rw [dW_st H 127 128 (x - 2 ^ k) k (by omega) (by omega) (by omega)])]
  rfl
theorem bs_mem {x : Nat} {f : Nat → Nat} (n : Nat) : ∀ q, fo (bsW x f) 0 n none = some q → q.1 < n ∧ hB x q.1 = true ∧ q.2 = f q.1 := by
  have := fo_inv (st := bsW x f) (fun k o => ∀ q, o = some q → q.1 < k ∧ hB x q.1 = true ∧ q.2 = f q.1) n 0 none (fun q h => by cases h) (fun j o h1 h2 ih q hq => by
    unfold bsW at hq
    by_cases w : hB x j = true
    · rw [if_pos w] at hq
      cases o with
      | none =>
        cases hq
        exact ⟨by omega, w, rfl⟩
      | some r =>
        by_cases z : f j < r.2
        · rw [show oS (some r) j (f j) = some (j, f j) from if_pos z] at hq
          cases hq
          exact ⟨by omega, w, rfl⟩
        · rw [show oS (some r) j (f j) = some r from if_neg z] at hq
          obtain ⟨i1, i2⟩ := ih q hq
          exact ⟨by omega, i2⟩
    · rw [if_neg w] at hq
      obtain ⟨i1, i2⟩ := ih q hq
      exact ⟨by omega, i2⟩)
  rw [Nat.zero_add] at this
  exact this
theorem oS_ne (o : Option (Nat × Nat)) (d m : Nat) : oS o d m ≠ none := by
  cases o with
  | none => exact fun h => by cases h
  | some q =>
    unfold oS
    simp only
    split <;> exact fun h => by cases h
theorem bs_none {x : Nat} {f : Nat → Nat} (n : Nat) : fo (bsW x f) 0 n none = none → ∀ j, j < n → hB x j = false := by
  have := fo_inv (st := bsW x f) (fun k o => o = none → ∀ j, j < k → hB x j = false) n 0 none (fun _ j hj => absurd hj (by omega)) (fun j o h1 h2 ih hq i hi => by
    unfold bsW at hq
    by_cases w : hB x j = true
    · rw [if_pos w] at hq
      exact absurd hq (oS_ne _ _ _)
    · rw [if_neg w] at hq
      by_cases z : i = j
      · subst z
        exact Bool.eq_false_iff.mpr w
      · exact ih hq i (by omega))
  rw [Nat.zero_add] at this
  exact this
theorem dW_le (H : Nat → Nat) : ∀ m x p, dW H m x p ≤ 7 * m + 6
  | 0, _, p => by
    have := wN_le (H p) (H 7)
    show wN (H p) (H 7) ≤ _
    omega
  | m + 1, x, p => by
    rw [dW_s]
    cases hq : fo (bsW x (fun k => wN (H p) (H k) + 1 + dW H m (x - 2 ^ k) k)) 0 7 none with
    | none =>
      have := wN_le (H p) (H 7)
      show wN (H p) (H 7) ≤ _
      omega
    | some q =>
      obtain ⟨_, _, h3⟩ := bs_mem 7 q hq
      have h4 := dW_le H m (x - 2 ^ q.1) q.1
      have := wN_le (H p) (H q.1)
      show q.2 ≤ _
      rw [h3]
      omega
theorem fW_le (H : Nat → Nat) (x p k : Nat) : fW H x p k < 1000 := by
  have h4 := dW_le H 128 (x - 2 ^ k) k
  have := wN_le (H p) (H k)
  unfold fW
  omega
theorem bs_oG {H : Nat → Nat} {x p : Nat} (n : Nat) (hn : n ≤ 7) : oG (fo (bsW x (fW H x p)) 0 n none) := by
  intro q hq
  obtain ⟨h1, h2, h3⟩ := bs_mem n q hq
  have := fW_le H x p q.1
  omega
def kF (H : Nat → Nat) (x p : Nat) : Nat := match Fw H x p with
  | none => 0
  | some q => q.1
def pth (H : Nat → Nat) : Nat → Nat → Nat → Nat
  | 0, x, p => kF H x p
  | i + 1, x, p => pth H i (x - 2 ^ kF H x p) (kF H x p)
theorem Fw_some {H : Nat → Nat} {x : Nat} (p : Nat) (hx : x < 128) (h0 : x ≠ 0) : ∃ q, Fw H x p = some q := by
  cases hq : Fw H x p with
  | some q => exact ⟨q, rfl⟩
  | none =>
    obtain ⟨k, h1, h2⟩ := no_bits x hx h0
    rw [bs_none 7 hq k h1] at h2
    cases h2
theorem kF_in {H : Nat → Nat} {x : Nat} (p : Nat) (hx : x < 128) (h0 : x ≠ 0) : kF H x p < 7 ∧ hB x (kF H x p) = true ∧ dW H 128 x p = fW H x p (kF H x p) := by
  obtain ⟨q, hq⟩ := Fw_some (H := H) p hx h0
  obtain ⟨h1, h2, h3⟩ := bs_mem 7 q hq
  have hk : kF H x p = q.1 := by unfold kF; rw [hq]
  have hd : dW H 128 x p = q.2 := by rw [D_eq H p hx, hq]
  rw [hk, hd]
  exact ⟨h1, h2, h3⟩
/-! the table -/
theorem bit_and (x y : Int32) (i : Nat) : f_X12_has (x &&& y) (nI i) = if f_X12_has x (nI i) = 0 then 0 else f_X12_has y (nI i) := by
  have e2 : ((x &&& y) >>> (nI i &&& 31)) &&& 1 = ((x >>> (nI i &&& 31)) &&& 1) &&& ((y >>> (nI i &&& 31)) &&& 1) := by
    generalize nI i &&& 31 = s
    apply Int32.toBitVec_inj.mp
    simp only [Int32.toBitVec_and, Int32.toBitVec_shiftRight, BitVec.sshiftRight_eq', BitVec.sshiftRight_and_distrib]
    ext j hj
    simp only [BitVec.getElem_and]
    cases (BitVec.sshiftRight x.toBitVec (s.toBitVec.smod 32).toNat)[j] <;> cases (BitVec.sshiftRight y.toBitVec (s.toBitVec.smod 32).toNat)[j] <;> cases (Int32.toBitVec 1)[j] <;> rfl
  rw [← has_and, ← has_and, ← has_and, e2]
  rcases and01 (x >>> (nI i &&& 31)) with w | w <;> rcases and01 (y >>> (nI i &&& 31)) with z | z <;> rw [w, z] <;> decide
theorem hB_and {x y : Nat} {z : Int32} {k : Nat} (h : nI x &&& z = 0) (hb : hB x k = true) (hk : k < 7) : f_X12_has z (nI k) = 0 := by
  have h1 := bit_and (nI x) z k
  have z0 : ∀ k, k < 7 → f_X12_has 0 (nI k) = 0 := by decide +kernel
  rw [h, z0 k hk, if_neg (of_decide_eq_true hb)] at h1
  exact h1.symm
theorem bit_not : ∀ x, x < 128 → ∀ k, k < 7 → f_X12_has (nI x ^^^ (-1)) (nI k) = if f_X12_has (nI x) (nI k) = 0 then 1 else 0 := by decide +kernel
/-- whether the table is asked at x, p -/
def mS (s x p : Nat) : Bool := if p = 7 then decide (x = s) else (decide (nI x &&& (nI s ^^^ (-1)) = 0) && decide (¬ f_X12_has (nI s &&& (nI x ^^^ (-1))) (nI p) = 0))
theorem mS_sub {s x p : Nat} (hs : s < 128) (hx : x < 128) (h : mS s x p = true) : nI x &&& (nI s ^^^ (-1)) = 0 := by
  unfold mS at h
  by_cases q : p = 7
  · rw [if_pos q] at h
    have := of_decide_eq_true h
    subst this
    exact and_self0 x hx
  · rw [if_neg q, Bool.and_eq_true] at h
    exact of_decide_eq_true h.1
theorem mS_next {s x p k : Nat} (hs : s < 128) (hx : x < 128) (h : mS s x p = true) (hk : k < 7) (hb : hB x k = true) : mS s (x - 2 ^ k) k = true := by
  have h0 := mS_sub hs hx h
  have hr := (rm_bits x hx k hk hb).1
  have hn := hB_and (y := 0) h0 hb hk
  rw [bit_not s hs k hk] at hn
  have hsk : ¬ f_X12_has (nI s) (nI k) = 0 := fun z => by rw [if_pos z] at hn; exact absurd hn (by decide)
  have hxk := rm_bit2 x hx k hk hb k hk
  rw [hb, Bool.true_and, decide_eq_false (fun z => z rfl)] at hxk
  have hxk0 : f_X12_has (nI (x - 2 ^ k)) (nI k) = 0 := Decidable.not_not.mp (of_decide_eq_false hxk)
  unfold mS
  rw [if_neg (by omega), Bool.and_eq_true]
  constructor
  · refine decide_eq_true ?_
    rw [← hr, Int32.and_assoc, Int32.and_comm ((1 <<< (nI k &&& 31)) ^^^ (-1)), ← Int32.and_assoc, h0, Int32.zero_and]
  · refine decide_eq_true ?_
    rw [bit_and, if_neg hsk, bit_not (x - 2 ^ k) (by omega) k hk, if_pos hxk0]
    decide
theorem may_c2 {σ : Sg} {s x p : Nat} (h2 : rI σ 102 2 = nI s) (hs : s < 128) (hx : x < 128) (hp : p < 8) : (f_X10_mayStand σ (nI x) (nI p) = 0) = (mS s x p = false) := by
  unfold f_X10_mayStand mS
  rw [h2]
  by_cases q : p = 7
  · subst q
    rw [if_pos (show nI 7 = 7 from rfl), if_pos rfl]
    by_cases w : x = s
    · subst w
      rw [if_pos rfl, decide_eq_true rfl]
      simp
    · rw [if_neg (fun z => w (nIinj (by omega) (by omega) z)), decide_eq_false w]
      simp
  · rw [if_neg (fun z => q (nIinj (b := 7) (by omega) (by omega) z)), if_neg q, hasBit_has _ (by omega)]
    by_cases w : nI x &&& (nI s ^^^ (-1)) = 0
    · by_cases z : f_X12_has (nI s &&& (nI x ^^^ (-1))) (nI p) = 0
      · rw [if_pos w, if_pos z, decide_eq_true w, decide_eq_false (fun y => y z)]
        simp
      · rw [if_pos w, if_neg z, decide_eq_true w, decide_eq_true z]
        simp
    · rw [if_neg w, decide_eq_false w]
      simp
def TI (H : Nat → Nat) (T : Nat → Int32) (s x0 p0 : Nat) : Prop := ∀ x p, x ≤ s → p < 8 → (x < x0 ∨ (x = x0 ∧ p < p0)) → mS s x p = true → T (x * 8 + p) = nI (dW H 128 x p)
theorem way_c {σ : Sg} {H : Nat → Nat} (h : rowIs σ 105 8 (fun j => nI (H j))) (h12 : ∀ j, H j ≤ 11) {i j : Nat} (hi : i < 8) (hj : j < 8) : f_X10_way σ (nI i) (nI j) = some (nI (wN (H i) (H j))) := by
  have a1 := h12 i
  have a2 := h12 j
  unfold f_X10_way wN
  rw [at_in h hi, ob_some, at_in h hj, ob_some, nam_e]
  have e12 : (12 : Int32) = nI 12 := rfl
  by_cases q : H j ≤ H i
  · rw [if_pos q, pk_sub q, if_pos (nI_pos' (by omega)), e12, pk_sub (by omega)]
    by_cases w : H i - H j ≤ 6
    · rw [if_pos w, if_neg (nI_nlt (by omega) (by omega))]
    · rw [if_neg w, if_pos (nI_lt (by omega) (by omega))]
  · have hneg : ¬ 0 ≤ nI (H i) - nI (H j) := fun z => by
      have := pk_sub_toInt (a := H i) (b := H j) (by omega) (by omega)
      rw [li_le, this] at z
      have e0 : (0 : Int32).toInt = 0 := rfl
      omega
    have hsub : 0 - (nI (H i) - nI (H j)) = nI (H j - H i) := by
      rw [Int32.zero_sub, Int32.neg_sub, pk_sub (by omega)]
    rw [if_neg q, if_neg hneg, hsub, e12, pk_sub (by omega)]
    by_cases w : H j - H i ≤ 6
    · rw [if_pos w, if_neg (nI_nlt (by omega) (by omega))]
    · rw [if_neg w, if_pos (nI_lt (by omega) (by omega))]
theorem by_c {σ : Sg} {H : Nat → Nat} {T : Nat → Int32} {x p k : Nat} (h : rowIs σ 105 8 (fun j => nI (H j))) (h12 : ∀ j, H j ≤ 11) (hT : rowIs σ 103 1024 T) (hx : x < 128) (hp : p < 8) (hk : k < 7) (hb : hB x k = true) (ht : T ((x - 2 ^ k) * 8 + k) = nI (dW H 128 (x - 2 ^ k) k)) : f_X10_hoursBy σ (nI x) (nI p) (nI k) = some (nI (fW H x p k)) := by
  unfold f_X10_hoursBy f_X10_hoursFrom
  rw [way_c h h12 hp (by omega), ob_some, (rm_bits x hx k hk hb).1, L8, pk_mul, nI_add, at_in hT (by omega), ob_some, ob_some, ht, nI_1, nI_add]
  rfl
def oM (o : Option (Nat × Nat)) : Int32 := match o with
  | none => 2147483647
  | some q => nI q.2
def oK (o : Option (Nat × Nat)) : Int32 := match o with
  | none => 0
  | some q => nI q.1
theorem fb_loop {σ : Sg} {H : Nat → Nat} {T : Nat → Int32} {x p : Nat} (h : rowIs σ 105 8 (fun j => nI (H j))) (h12 : ∀ j, H j ≤ 11) (hT : rowIs σ 103 1024 T) (hx : x < 128) (hp : p < 8) (ht : ∀ k, k < 7 → hB x k = true → T ((x - 2 ^ k) * 8 + k) = nI (dW H 128 (x - 2 ^ k) k)) : ∀ (t k fu : Nat) (o : Option (Nat × Nat)), t + k = 7 → t < fu → oG o → b_X10_firstBest_9 σ (nI x) (nI p) fu (oK o) (oM o) (nI k) = some (oK (fo (bsW x (fW H x p)) k t o)) := by
  intro t
  induction t with
  | zero =>
    intro k fu o hk hf ho
    obtain ⟨fu, rfl⟩ : ∃ q, fu = q + 1 := ⟨fu - 1, by omega⟩
    rw [b_X10_firstBest_9, if_pos (show (7 : Int32) ≤ nI k from nI_le (a := 7) (by omega) (by omega))]
    rfl
  | succ t ih =>
    intro k fu o hk hf ho
    obtain ⟨fu, rfl⟩ : ∃ q, fu = q + 1 := ⟨fu - 1, by omega⟩
    have hMM : ∀ r : Nat, r < 2000 → ¬ (2147483647 : Int32) ≤ nI r := fun r hr => nI_ge (b := 2147483647) (by omega) (by omega)
    rw [b_X10_firstBest_9, if_neg (show ¬ (7 : Int32) ≤ nI k from nI_ge (b := 7) (by omega) (by omega)), hasBit_has _ (by omega), fo_s]
    unfold b_X10_firstBest_38 b_X10_firstBest_54
    simp only [nam_e, nI_1]
    by_cases q : f_X12_has (nI x) (nI k) = 0
    · have hb : hB x k = false := decide_eq_false (fun z => z q)
      have e1 : oM o ≤ 2147483647 := by
        cases o with
        | none => exact (li_le _ _).mpr (Int.le_refl _)
        | some r =>
          have := ho r rfl
          exact nI_le (b := 2147483647) (by omega) (by omega)
      rw [if_pos q, if_pos e1, show bsW x (fW H x p) k o = o from if_neg (by rw [hb]; decide)]
      exact ih (k + 1) fu o (by omega) (by omega) ho
    · have hb : hB x k = true := decide_eq_true q
      have hle := fW_le H x p k
      rw [if_neg q, by_c h h12 hT hx hp (by omega) hb (ht k (by omega) hb), ob_some, show bsW x (fW H x p) k o = oS o k (fW H x p k) from if_pos hb]
      have hG := oG_S ho (show k < 1000 by omega) hle
      have ih' := ih (k + 1) fu (oS o k (fW H x p k)) (by omega) (by omega) hG
      cases o with
      | none =>
        rw [if_neg (show ¬ oM none ≤ nI (fW H x p k) from hMM _ (by omega))]
        exact ih'
      | some r =>
        obtain ⟨g1, g2⟩ := ho r rfl
        by_cases w : fW H x p k < r.2
        · rw [show oS (some r) k (fW H x p k) = some (k, fW H x p k) from if_pos w] at ih' ⊢
          rw [if_neg (show ¬ oM (some r) ≤ nI (fW H x p k) from nI_ge w (by omega))]
          exact ih'
        · rw [show oS (some r) k (fW H x p k) = some r from if_neg w] at ih' ⊢
          rw [if_pos (show oM (some r) ≤ nI (fW H x p k) from nI_le (by omega) (by omega))]
          exact ih'
theorem fb_c {σ : Sg} {H : Nat → Nat} {T : Nat → Int32} {x p : Nat} (h : rowIs σ 105 8 (fun j => nI (H j))) (h12 : ∀ j, H j ≤ 11) (hT : rowIs σ 103 1024 T) (hx : x < 128) (hp : p < 8) (ht : ∀ k, k < 7 → hB x k = true → T ((x - 2 ^ k) * 8 + k) = nI (dW H 128 (x - 2 ^ k) k)) : f_X10_firstBest σ (nI x) (nI p) = some (nI (kF H x p)) := by
  refine (show f_X10_firstBest σ (nI x) (nI p) = _ from fb_loop h h12 hT hx hp ht 7 0 FU none (by omega) (by unfold FU; omega) oG_0).trans ?_
  show some (oK (Fw H x p)) = some (nI (kF H x p))
  unfold kF
  cases Fw H x p <;> rfl
theorem least_c {σ : Sg} {H : Nat → Nat} {T : Nat → Int32} {x p : Nat} (h : rowIs σ 105 8 (fun j => nI (H j))) (h12 : ∀ j, H j ≤ 11) (hT : rowIs σ 103 1024 T) (hx : x < 128) (hp : p < 8) (ht : ∀ k, k < 7 → hB x k = true → T ((x - 2 ^ k) * 8 + k) = nI (dW H 128 (x - 2 ^ k) k)) : f_X10_leastHours σ (nI x) (nI p) = some (nI (dW H 128 x p)) := by
  unfold f_X10_leastHours
  by_cases q : x = 0
  · subst q
    rw [if_pos (show nI 0 = 0 from rfl), show f_X10_way σ (nI p) 7 = _ from way_c h h12 (j := 7) hp (by omega), ob_some, dW_0]
  · obtain ⟨k1, k2, k3⟩ := kF_in (H := H) p hx q
    rw [if_neg (nI_ne0 (by omega) (by omega)), fb_c h h12 hT hx hp ht, ob_some, by_c h h12 hT hx hp k1 k2 (ht _ k1 k2), ob_some, k3]
theorem TI_sub {H : Nat → Nat} {T : Nat → Int32} {s x p x0 p0 : Nat} (hs : s < 128) (hx : x ≤ s) (hT : TI H T s x0 p0) (h0 : x ≤ x0) (hm : mS s x p = true) : ∀ k, k < 7 → hB x k = true → T ((x - 2 ^ k) * 8 + k) = nI (dW H 128 (x - 2 ^ k) k) := fun k hk hb => by
  have hp := two_pow_pos' k
  have hr := (rm_bits x (by omega) k hk hb).2
  exact hT (x - 2 ^ k) k (by omega) (by omega) (Or.inl (by omega)) (mS_next hs (by omega) hm hk hb)
theorem plan_in {s x : Nat} {H : Nat → Nat} (l2 : Int32) (c19 : Sg → Int32 → Option Sg) (h12 : ∀ j, H j ≤ 11) (hs : s < 128) (hx : x ≤ s) : ∀ (t p fu : Nat) (σ : Sg) (T : Nat → Int32), t + p = 8 → t < fu → rowIs σ 105 8 (fun j => nI (H j)) → rowIs σ 103 1024 T → rI σ 102 2 = nI s → TI H T s x p → ∃ τ T', b_X10_plan_30 4 l2 c19 fu σ (nI x) (nI p) = c19 τ (nI (x + 1)) ∧ rowIs τ 103 1024 T' ∧ TI H T' s (x + 1) 0 ∧ Only 103 105 σ τ := by
  intro t
  induction t with
  | zero =>
    intro p fu σ T ht hf h1 h2 h3 h4
    obtain ⟨fu, rfl⟩ : ∃ q, fu = q + 1 := ⟨fu - 1, by omega⟩
    refine ⟨σ, T, ?_, h2, fun y q hy hq hl hm => h4 y q hy hq (by omega) hm, Only.rf⟩
    rw [b_X10_plan_30, if_pos (show (7 : Int32) < nI p from nI_lt (a := 7) (by omega) (by omega)), nam_e, nI_1]
  | succ t ih =>
    intro p fu σ T ht hf h1 h2 h3 h4
    obtain ⟨fu, rfl⟩ : ∃ q, fu = q + 1 := ⟨fu - 1, by omega⟩
    rw [b_X10_plan_30, if_neg (show ¬ (7 : Int32) < nI p from nI_nlt (a := 7) (b := p) (by omega) (by omega))]
    unfold b_X10_plan_68
    simp only [nam_e, nI_1]
    have hmay := may_c2 (x := x) (p := p) h3 hs (by omega) (by omega)
    cases hm : mS s x p with
    | false =>
      rw [if_pos (hmay.mpr hm)]
      exact ih (p + 1) fu σ T (by omega) (by omega) h1 h2 h3 (fun y q hy hq hl hm2 => by
        by_cases w : y = x ∧ q = p
        · obtain ⟨rfl, rfl⟩ := w
          rw [hm] at hm2; cases hm2
        · exact h4 y q hy hq (by omega) hm2)
    | true =>
      have hn : ¬ f_X10_mayStand σ (nI x) (nI p) = 0 := fun z => by
        rw [hmay.mp z] at hm; cases hm
      obtain ⟨s1, a1, b1, c1⟩ := put_in (j := x * 8 + p) (nI (dW H 128 x p)) h2 (by omega)
      have c1' : Only 103 105 σ s1 := c1.mono (by omega) (by omega)
      obtain ⟨τ, T', k1, k2, k3, k4⟩ := ih (p + 1) fu s1 _ (by omega) (by omega) (h1.keep c1' (by omega)) b1 (by rw [(c1' 102 (by omega)).1]; exact h3) (fun y q hy hq hl hm2 => by
        by_cases w : y = x ∧ q = p
        · obtain ⟨rfl, rfl⟩ := w
          exact pk_us
        · rw [pk_un (by omega)]
          exact h4 y q hy hq (by omega) hm2)
      refine ⟨τ, T', ?_, k2, k3, c1'.trans k4⟩
      rw [if_neg hn, least_c h1 h12 h2 (by omega) (by omega) (TI_sub hs hx h4 (Nat.le_refl _) hm), ob_some, L8, pk_mul, nI_add, a1, ob_some]
      exact k1
theorem plan_out {s : Nat} {H : Nat → Nat} (l2 : Int32) (h12 : ∀ j, H j ≤ 11) (hs : s < 128) : ∀ (t x fu : Nat) (σ : Sg) (T : Nat → Int32), t + x = s + 1 → t < fu → rowIs σ 105 8 (fun j => nI (H j)) → rowIs σ 103 1024 T → rI σ 102 2 = nI s → TI H T s x 0 → ∃ τ T', b_X10_plan_19 4 l2 fu σ (nI x) = some τ ∧ rowIs τ 103 1024 T' ∧ TI H T' s (s + 1) 0 ∧ Only 103 105 σ τ := by
  intro t
  induction t with
  | zero =>
    intro x fu σ T ht hf h1 h2 h3 h4
    obtain ⟨fu, rfl⟩ : ∃ q, fu = q + 1 := ⟨fu - 1, by omega⟩
    have : x = s + 1 := by omega
    subst this
    refine ⟨σ, T, ?_, h2, h4, Only.rf⟩
    rw [b_X10_plan_19, h3, if_pos (nI_lt (by omega) (by omega))]
  | succ t ih =>
    intro x fu σ T ht hf h1 h2 h3 h4
    obtain ⟨fu, rfl⟩ : ∃ q, fu = q + 1 := ⟨fu - 1, by omega⟩
    obtain ⟨s1, T1, a1, b1, b2, c1⟩ := plan_in l2 (b_X10_plan_19 4 l2 fu) h12 hs (show x ≤ s by omega) 8 0 FU σ T (by omega) (by unfold FU; omega) h1 h2 h3 h4
    obtain ⟨τ, T', k1, k2, k3, k4⟩ := ih (x + 1) fu s1 T1 (by omega) (by omega) (h1.keep c1 (by omega)) b1 (by rw [(c1 102 (by omega)).1]; exact h3) b2
    refine ⟨τ, T', ?_, k2, k3, c1.trans k4⟩
    rw [b_X10_plan_19, h3, if_neg (nI_nlt (by omega) (by omega))]
    exact (show b_X10_plan_30 4 l2 (b_X10_plan_19 4 l2 fu) FU σ (nI x) (nI 0) = _ from a1).trans k1
theorem settle_loop {a : Nat} {h : Nat → Int32} {H : Nat → Nat} (ha : a ≤ 7) (hh : ∀ j, j < a → h j = nI (H j)) (h0 : ∀ j, a ≤ j → H j = 0) : ∀ (t i fu : Nat) (σ : Sg), t + i = 7 → t < fu → rowIs σ 4 a h → rowIs σ 105 i (fun j => nI (H j)) → ∃ τ, b_X10_settle_9 4 fu σ (nI i) = some τ ∧ rowIs τ 105 8 (fun j => nI (H j)) ∧ Only 105 107 σ τ := by
  intro t
  induction t with
  | zero =>
    intro i fu σ ht hf h1 h2
    obtain ⟨fu, rfl⟩ : ∃ q, fu = q + 1 := ⟨fu - 1, by omega⟩
    have : i = 7 := by omega
    subst this
    obtain ⟨s1, a1, b1, c1⟩ := add_in 0 h2 (show 7 < 8 by omega)
    refine ⟨s1, ?_, b1.ext (by show nI (H 7) = 0; rw [h0 7 ha]; rfl) (fun _ _ => rfl), c1⟩
    rw [b_X10_settle_9, if_pos (show (7 : Int32) ≤ nI 7 from nI_le (a := 7) (by omega) (by omega)), a1, ob_some]
  | succ t ih =>
    intro i fu σ ht hf h1 h2
    obtain ⟨fu, rfl⟩ : ∃ q, fu = q + 1 := ⟨fu - 1, by omega⟩
    have e1 : f_X7_at σ 4 (nI i) = some (nI (H i)) := by
      by_cases q : i < a
      · rw [at_in h1 q, hh i q]
      · rw [at_out h1 (by omega) (by omega), h0 i (by omega)]; rfl
    obtain ⟨s1, a1, b1, c1⟩ := add_in (nI (H i)) h2 (show i < 8 by omega)
    obtain ⟨τ, k1, k2, k3⟩ := ih (i + 1) fu s1 (by omega) (by omega) (h1.keep c1 (by omega)) (b1.ext rfl (fun _ _ => rfl))
    refine ⟨τ, ?_, k2, c1.trans k3⟩
    rw [b_X10_settle_9, if_neg (show ¬ (7 : Int32) ≤ nI i from nI_ge (b := 7) (by omega) (by omega)), e1, ob_some, a1, ob_some, nam_e, nI_1]
    exact k1
theorem plan_c {σ : Sg} {a s : Nat} {h : Nat → Int32} {H : Nat → Nat} (ha : a ≤ 7) (hh : ∀ j, j < a → h j = nI (H j)) (h0 : ∀ j, a ≤ j → H j = 0) (h12 : ∀ j, H j ≤ 11) (hs : s < 128) (h1 : rowIs σ 4 a h) : ∃ τ T, f_X10_plan σ 4 (nI s) = some τ ∧ rowIs τ 105 8 (fun j => nI (H j)) ∧ rowIs τ 103 1024 T ∧ rI τ 102 2 = nI s ∧ TI H T s (s + 1) 0 ∧ Only 102 107 σ τ := by
  obtain ⟨s1, a1, b1, c1⟩ := restart_in σ 105 (fun j => nI (H j))
  obtain ⟨s2, a2, b2, c2⟩ := settle_loop ha hh h0 7 0 FU s1 (by omega) (by unfold FU; omega) (h1.keep c1 (by omega)) b1
  have o3 : Only 102 103 s2 (stI s2 102 2 (nI s)) := Only.stI s2 102 2 _
  have o4 : Only 103 104 (stI s2 102 2 (nI s)) (stI (stI s2 102 2 (nI s)) 103 1 (nI (kLen (103 + 1)))) := Only.stI _ 103 1 _
  generalize hs4 : stI (stI s2 102 2 (nI s)) 103 1 (nI (kLen (103 + 1))) = s4 at o4
  have b4 : rowIs s4 103 1024 (rI s4 104) := ⟨by decide, by rw [← hs4, rI_eq, kl104], fun _ _ => rfl⟩
  have e4 : rI s4 102 2 = nI s := by rw [← hs4, rI_ne _ _ (by omega), rI_eq]
  obtain ⟨τ, T', k1, k2, k3, k4⟩ := plan_out (H := H) (nI s) h12 hs (s + 1) 0 FU s4 _ (by omega) (by unfold FU; omega) ((b2.keep o3 (by omega)).keep o4 (by omega)) b4 e4 (fun x p _ _ hl => absurd hl (by omega))
  refine ⟨τ, T', ?_, ((b2.keep o3 (by omega)).keep o4 (by omega)).keep k4 (by omega), k2, by rw [(k4 102 (by omega)).1]; exact e4, k3, ((((c1.mono (by omega) (by omega)).trans (c2.mono (by omega) (by omega))).trans (o3.mono (by omega) (by omega))).trans (o4.mono (by omega) (by omega))).trans (k4.mono (by omega) (by omega))⟩
  unfold f_X10_plan f_X10_settle f_X7_useAll
  rw [a1, ob_some, show b_X10_settle_9 4 FU s1 0 = some s2 from a2, ob_some, nam_e, nam_e, ob_some, hs4]
  exact k1
theorem visit_loop {σ : Sg} {s i : Nat} {H : Nat → Nat} {T : Nat → Int32} (h : rowIs σ 105 8 (fun j => nI (H j))) (h12 : ∀ j, H j ≤ 11) (hT : rowIs σ 103 1024 T) (hs : s < 128) (hI : TI H T s (s + 1) 0) (hi : i < 7) : ∀ (t n fu x p : Nat), t + n = i + 1 → t < fu → x ≤ s → p < 8 → mS s x p = true → t ≤ ctB x 0 7 → b_X10_visited_11 σ (nI i) fu (nI x) (nI p) (nI n) = some (nI (if t = 0 then p else pth H (t - 1) x p)) := by
  intro t
  induction t with
  | zero =>
    intro n fu x p ht hf hx hp hm hc
    obtain ⟨fu, rfl⟩ : ∃ q, fu = q + 1 := ⟨fu - 1, by omega⟩
    rw [b_X10_visited_11, if_pos (nI_lt (by omega) (by omega)), if_pos rfl]
  | succ t ih =>
    intro n fu x p ht hf hx hp hm hc
    obtain ⟨fu, rfl⟩ : ∃ q, fu = q + 1 := ⟨fu - 1, by omega⟩
    have hx0 : x ≠ 0 := fun z => by
      subst z
      have : ctB 0 0 7 = 0 := by decide +kernel
      omega
    obtain ⟨k1, k2, _⟩ := kF_in (H := H) p (show x < 128 by omega) hx0
    have hr := rm_bits x (by omega) _ k1 k2
    have hcr := ct_rm x (by omega) _ k1 k2
    have hsub := TI_sub hs hx hI (show x ≤ s + 1 by omega) hm
    rw [b_X10_visited_11, if_neg (nI_nlt (by omega) (by omega)), if_neg (nI_ne0 (by omega) (by omega)), fb_c h h12 hT (by omega) hp hsub, ob_some, nam_e, nam_e, hr.1, nI_1, ih (n + 1) fu (x - 2 ^ kF H x p) (kF H x p) (by omega) (by omega) (by omega) (by omega) (mS_next hs (by omega) hm k1 k2) (by omega)]
    rw [if_neg (show ¬ t + 1 = 0 by omega), Nat.add_sub_cancel]
    by_cases q : t = 0
    · subst q
      rw [if_pos rfl]
      rfl
    · obtain ⟨t', rfl⟩ : ∃ t', t = t' + 1 := ⟨t - 1, by omega⟩
      rw [if_neg q, Nat.add_sub_cancel]
      rfl
