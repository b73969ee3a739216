/-! ===== years ===== -/
def yX (X : Nat) : Nat := (12345 + 1103515245 * X) % 2147483648
def yK (X : Nat) : Nat := yX X / 65536 % 7
def yF (X : Nat) : Nat := yX X / 1048576 % 10
theorem yX_lt (X : Nat) : yX X < 2147483648 := Nat.mod_lt _ (by omega)
theorem yK_lt (X : Nat) : yK X < 7 := Nat.mod_lt _ (by omega)
theorem yF_lt (X : Nat) : yF X < 10 := Nat.mod_lt _ (by omega)
theorem year_num {X : Nat} (hX : X < 2147483648) : ((lN X * 1103515245) + 12345) - ((lN X * 1103515245) + 12345) / 2147483648 * 2147483648 = lN (yX X) := by
  have e1 : (1103515245 : Int64) = lN 1103515245 := rfl
  have e2 : (12345 : Int64) = lN 12345 := rfl
  have e3 : (2147483648 : Int64) = lN 2147483648 := rfl
  rw [e1, e2, e3, lN_mul, lN_add, pk_lRem (by omega) (by omega) (by omega), Nat.add_comm, Nat.mul_comm]
  rfl
theorem year_k (X : Nat) : Int64.toInt32 ((lN (yX X) / 65536) - (lN (yX X) / 65536) / 7 * 7) = nI (yK X) := by
  have hY := yX_lt X
  have e1 : (65536 : Int64) = lN 65536 := rfl
  have e2 : (7 : Int64) = lN 7 := rfl
  rw [e1, e2, pk_lDiv (by omega) (by omega) (by omega), pk_lRem (by omega) (by omega) (by omega), lN_i]
  rfl
theorem year_f (X : Nat) : Int64.toInt32 ((lN (yX X) / 1048576) - (lN (yX X) / 1048576) / 10 * 10) = nI (yF X) := by
  have hY := yX_lt X
  have e1 : (1048576 : Int64) = lN 1048576 := rfl
  have e2 : (10 : Int64) = lN 10 := rfl
  rw [e1, e2, pk_lDiv (by omega) (by omega) (by omega), pk_lRem (by omega) (by omega) (by omega), lN_i]
  rfl
/-- the moods and what is lent in a step of years -/
def yN (g : Nat → Int32) (a i : Nat) (m : Nat → Int32) (l : Int32) (X : Nat) : Nat → Int32 := if yK X < a ∧ f_X12_has l (nI (yK X)) = 0 then upd m (yK X) (f_X12_moodBehind (m (yK X)) (nI (yF X)) (f_X12_lends (g (4 + yK X)) (g 2 + nI i) (m (yK X)) (nI (yF X)))) else m
def yL (g : Nat → Int32) (a i : Nat) (m : Nat → Int32) (l : Int32) (X : Nat) : Int32 := if yK X < a ∧ f_X12_has l (nI (yK X)) = 0 then f_X12_lends (g (4 + yK X)) (g 2 + nI i) (m (yK X)) (nI (yF X)) else 0
def yV (g : Nat → Int32) (a : Nat) : Nat → Nat → (Nat → Int32) → Int32 → Nat → Int32 → Int32
  | 0, _, _, _, _, s => s
  | t + 1, i, m, l, X, s => yV g a t (i + 1) (fun j => moodS (yN g a i m l X j)) 0 (yX X) (s + yL g a i m l X)
theorem yV_s (g : Nat → Int32) (a t i : Nat) (m : Nat → Int32) (l : Int32) (X : Nat) (s : Int32) : yV g a (t + 1) i m l X s = yV g a t (i + 1) (fun j => moodS (yN g a i m l X j)) 0 (yX X) (s + yL g a i m l X) := rfl
theorem hk_ge {n a : Nat} (ha : a < 2 ^ 31) (hn : n < 2 ^ 31) (h : a ≤ n) : f_X11_between (nI n) 0 (nI a - 1) = 0 := by
  rw [btw_iff, tm1 ha, tN hn]
  exact Or.inr (by omega)
theorem yN_v {g : Nat → Int32} {a i X : Nat} {m : Nat → Int32} {l : Int32} (h : ∀ j, j < a → vIn (m j) 0 9) : ∀ j, j < a → vIn (yN g a i m l X j) 0 9 := by
  intro j hj
  unfold yN
  by_cases q : yK X < a ∧ f_X12_has l (nI (yK X)) = 0
  · rw [if_pos q]
    refine upd_vIn j ?_ (fun _ => h j hj)
    obtain ⟨x, _, x2, x3⟩ := h _ q.1
    obtain ⟨⟨y, y1, y2⟩, z, z1, z2⟩ := mood_v x (by omega) (yF X) (yF_lt X)
    rw [x3]
    rcases lends01 (g (4 + yK X)) (g 2 + nI i) (nI x) (nI (yF X)) with w | w
    · rw [w]; exact ⟨y, by omega, by omega, y2⟩
    · rw [w]; exact ⟨z, by omega, by omega, z2⟩
  · rw [if_neg q]; exact h j hj
theorem year_c {a n : Nat} {g : Nat → Int32} (ha : a ≤ 7) (hn : n ≤ 60) (hkd : ∀ j, j < a → vIn (g (4 + j)) 0 5) (l1 : Int32) : ∀ (t i fu : Nat) (σ : Sg) (m fs : Nat → Int32) (l s : Int32) (X : Nat), t + i = n → t < fu → X < 2147483648 → rowIs σ 2 a (fun j => g (4 + j)) → rowIs σ 95 a fs → rowIs σ 97 a m → (∀ j, j < a → vIn (fs j) 1 250) → (∀ j, j < a → vIn (m j) 0 9) → rI σ 94 0 = g 2 + nI i → rI σ 94 1 = l → ∃ τ, b_X11_years_51 l1 (nI n) fu σ (lN X) s (nI i) = some (yV g a t i m l X s, τ) ∧ Only 94 99 σ τ := by
  intro t
  induction t with
  | zero =>
    intro i fu σ m fs l s X ht hf _ _ _ _ _ _ _ _
    obtain ⟨fu, rfl⟩ : ∃ q, fu = q + 1 := ⟨fu - 1, by omega⟩
    refine ⟨σ, ?_, Only.rf⟩
    rw [b_X11_years_51, if_pos (nI_le (by omega) (by omega))]
    rfl
  | succ t ih =>
    intro i fu σ m fs l s X ht hf hX r1 r2 r3 v2 v3 hd hl
    obtain ⟨fu, rfl⟩ : ∃ q, fu = q + 1 := ⟨fu - 1, by omega⟩
    have hK := yK_lt X
    have hp : ∀ (σ' : Sg) (s' : Int32), rowIs σ' 2 a (fun j => g (4 + j)) → rowIs σ' 95 a fs → rowIs σ' 97 a (yN g a i m l X) → rI σ' 94 0 = g 2 + nI i → Only 94 99 σ σ' → ∃ τ, b_X11_years_148 l1 (nI n) (b_X11_years_51 l1 (nI n) fu) σ' (lN (yX X)) s' (nI i) = some (yV g a t (i + 1) (fun j => moodS (yN g a i m l X j)) 0 (yX X) s', τ) ∧ Only 94 99 σ τ := by
      intro σ' s' p1 p2 p3 p5 p6
      have p4 := yN_v (g := g) (i := i) (X := X) (l := l) v3
      obtain ⟨s2, a1, b1, b2, b3, b4, c1⟩ := passDay_loop (k0 := 94) (k1 := 2) (d := g 2 + nI i) (f := fs) (m := yN g a i m l X) (kd := fun j => g (4 + j)) (by omega) ha v2 p4 hkd a 0 FU σ' (by omega) (by unfold FU; omega) (p2.cong (fun j hj => (if_neg (by omega)).symm)) (p3.cong (fun j hj => (if_neg (by omega)).symm)) p1 p5
      obtain ⟨τ, k1, k2⟩ := ih (i + 1) fu s2 (fun j => moodS (yN g a i m l X j)) _ 0 s' (yX X) (by omega) (by omega) (yX_lt X) (p1.keep c1 (by omega)) b1 b2 (fun j hj => by
        obtain ⟨x, x1, x2, x3⟩ := v2 j hj
        obtain ⟨y, _, y2, y3⟩ := hkd j hj
        show vIn (f_X12_goes (g (4 + j)) (fs j) (g 2 + nI i)) 1 250
        rw [x3, y3]
        exact (goes_same _ y2 x1 x2).2) (fun j hj => (moodS_in (p4 j hj)).2) (by rw [b3, Int32.add_assoc, nI_1]) b4
      refine ⟨τ, ?_, (p6.trans (c1.mono (by omega) (by omega))).trans k2⟩
      unfold b_X11_years_148
      rw [show f_X4_passDay σ' 94 2 = some s2 from a1, ob_some, nam_e, nI_1]
      exact k1
    have hkK : f_X3_hasKeeper σ 1 (nI (yK X)) = f_X11_between (nI (yK X)) 0 (nI a - 1) := by
      rw [← r1.2.1]; rfl
    have hli : f_X4_isLent σ 94 (nI (yK X)) = f_X12_has l (nI (yK X)) := by
      unfold f_X4_isLent; rw [hl, hasBit_has _ (by omega)]
    rw [b_X11_years_51, if_neg (nI_ge (by omega) (by omega)), year_num hX]
    simp only [nam_e]
    rw [year_k, year_f, hkK]
    rw [yV_s]
    by_cases q1 : yK X < a
    · rw [hk_in (by omega) q1, if_neg (show ¬ (1 : Int32) = 0 by decide), hli]
      by_cases q2 : f_X12_has l (nI (yK X)) = 0
      · obtain ⟨y, _, y2, y3⟩ := hkd _ q1
        obtain ⟨s1, a1, b1, b2, b3, b4, c1⟩ := bring_c (k0 := 94) (k := yK X) (f := yF X) y3 y2 q1 ha (yF_lt X) r3 (v3 _ q1) hd hl
        have eN : yN g a i m l X = upd m (yK X) (f_X12_moodBehind (m (yK X)) (nI (yF X)) (f_X12_lends (g (4 + yK X)) (g 2 + nI i) (m (yK X)) (nI (yF X)))) := if_pos ⟨q1, q2⟩
        have eL : yL g a i m l X = f_X12_lends (g (4 + yK X)) (g 2 + nI i) (m (yK X)) (nI (yF X)) := if_pos ⟨q1, q2⟩
        have r2' : rowIs s1 95 a fs := r2.same (fun j => (b4 95 j (by omega) (by omega) (by omega)).1) (fun j => (b4 96 j (by omega) (by omega) (by omega)).1)
        rw [if_pos q2, show f_X7_at σ 2 (nI (yK X)) = some (g (4 + yK X)) from at_in r1 q1, ob_some, a1, bnd_some]
        rcases lends01 (g (4 + yK X)) (g 2 + nI i) (m (yK X)) (nI (yF X)) with q3 | q3
        · have es : s + yL g a i m l X = s := by rw [eL, q3]; exact Int32.add_zero s
          rw [if_pos q3, es]
          exact hp s1 s (r1.keep c1 (by omega)) r2' (by rw [eN]; exact b1) b2 (c1.mono (by omega) (by omega))
        · have es : s + yL g a i m l X = s + 1 := by rw [eL, q3]
          rw [if_neg (by rw [q3]; decide), es]
          exact hp s1 (s + 1) (r1.keep c1 (by omega)) r2' (by rw [eN]; exact b1) b2 (c1.mono (by omega) (by omega))
      · have eN : yN g a i m l X = m := if_neg (fun z => q2 z.2)
        have es : s + yL g a i m l X = s := by rw [show yL g a i m l X = 0 from if_neg (fun z => q2 z.2)]; exact Int32.add_zero s
        rw [if_neg q2, es]
        exact hp σ s r1 r2 (by rw [eN]; exact r3) hd Only.rf
    · have eN : yN g a i m l X = m := if_neg (fun z => q1 z.1)
      have es : s + yL g a i m l X = s := by rw [show yL g a i m l X = 0 from if_neg (fun z => q1 z.1)]; exact Int32.add_zero s
      rw [hk_ge (by omega) (by omega) (by omega), if_pos rfl, es]
      exact hp σ s r1 r2 (by rw [eN]; exact r3) hd Only.rf
def Py (a _j : Nat) : Prop := a = 121
theorem i121 {n : Nat} (h : n < 7) : inb (nI n) (kLen 121) = true := inb_nI h (by decide)
theorem yearR_218 {a : Nat} {g : Nat → Int32} (l1 l2 : Int32) (c : Sg → Int32 → Int64 → Int32 → Int32 → Option (Int32 × Sg)) (l3 : Int32) (l4 : Int64) (l6 l7 : Int32) (ha : a ≤ 7) (g0 : g 0 = nI a) (m : Nat → Int32) : ∀ (t i fu : Nat) (σ : Sg), t + i = a → t < fu → rI σ 113 = g → (∀ j, j < a → rI σ 121 j = if j < i then moodS (m j) else m j) → ∃ τ, b_X12_years_218 l1 l2 c fu σ l3 l4 l6 l7 (nI i) = c τ l3 l4 l6 (l7 + 1) ∧ rI τ 113 = g ∧ (∀ j, j < a → rI τ 121 j = moodS (m j)) ∧ Un Py σ τ := by
  intro t
  induction t with
  | zero =>
    intro i fu σ ht hf hg hm
    obtain ⟨fu, rfl⟩ : ∃ q, fu = q + 1 := ⟨fu - 1, by omega⟩
    refine ⟨σ, ?_, hg, fun j hj => by rw [hm j hj, if_pos (by omega)], Un.rf⟩
    rw [b_X12_years_218, if_pos (show inb 0 (kLen 113) = true from i113 (n := 0) (by omega)), hg, show g (ix 0) = nI a from g0, if_pos (nI_le (by omega) (by omega)), nam_e]
  | succ t ih =>
    intro i fu σ ht hf hg hm
    obtain ⟨fu, rfl⟩ : ∃ q, fu = q + 1 := ⟨fu - 1, by omega⟩
    have hi : i < a := by omega
    have hmi : rI σ 121 i = m i := by rw [hm i hi, if_neg (by omega)]
    obtain ⟨τ, k1, k2, k3, k4⟩ := ih (i + 1) fu (stI σ 121 i (moodS (m i))) (by omega) (by omega) (by rw [← hg]; exact funext (fun j => rI_ne _ _ (by omega))) (fun j hj => by
      rw [rI_stI]
      by_cases q : j = i
      · rw [if_pos ⟨rfl, q⟩, if_pos (by omega), q]
      · rw [if_neg (fun z => q z.2), hm j hj]
        by_cases w : j < i
        · rw [if_pos w, if_pos (by omega)]
        · rw [if_neg w, if_neg (by omega)])
    refine ⟨τ, ?_, k2, k3, (Un.stI σ 121 i _ rfl).trans k4⟩
    rw [b_X12_years_218, if_pos (show inb 0 (kLen 113) = true from i113 (n := 0) (by omega)), hg, show g (ix 0) = nI a from g0, if_neg (nI_ge (by omega) (by omega))]
    unfold b_X12_years_282
    simp (disch := omega) only [i121, if_true, ix_nI, hmi, nam_e, nI_1]
    by_cases p1 : m i ≤ 5
    · by_cases p2 : 5 ≤ m i
      · rw [if_pos p1, if_pos p2]
        rw [show moodS (m i) = 5 by unfold moodS; rw [if_pos p1, if_pos p2]] at k1
        exact k1
      · rw [if_pos p1, if_neg p2]
        rw [show moodS (m i) = m i + 1 by unfold moodS; rw [if_pos p1, if_neg p2]] at k1
        exact k1
    · rw [if_neg p1]
      rw [show moodS (m i) = m i - 1 by unfold moodS; rw [if_neg p1]] at k1
      exact k1
theorem yearR_77 {a n : Nat} {g : Nat → Int32} (ha : a ≤ 7) (hn : n ≤ 60) (g0 : g 0 = nI a) (l1 : Int32) : ∀ (t i fu : Nat) (σ : Sg) (m : Nat → Int32) (l s : Int32) (X : Nat), t + i = n → t < fu → X < 2147483648 → rI σ 113 = g → (∀ j, j < a → rI σ 121 j = m j) → ∃ τ, b_X12_years_77 l1 (nI n) fu σ l (lN X) s (nI i) = some (yV g a t i m l X s, τ) ∧ Un Py σ τ := by
  intro t
  induction t with
  | zero =>
    intro i fu σ m l s X ht hf _ _ _
    obtain ⟨fu, rfl⟩ : ∃ q, fu = q + 1 := ⟨fu - 1, by omega⟩
    refine ⟨σ, ?_, Un.rf⟩
    rw [b_X12_years_77, if_pos (nI_le (by omega) (by omega))]
    rfl
  | succ t ih =>
    intro i fu σ m l s X ht hf hX hg hm
    obtain ⟨fu, rfl⟩ : ∃ q, fu = q + 1 := ⟨fu - 1, by omega⟩
    have hK := yK_lt X
    have hp : ∀ (σ' : Sg) (s' : Int32), rI σ' 113 = g → (∀ j, j < a → rI σ' 121 j = yN g a i m l X j) → Un Py σ σ' → ∃ τ, b_X12_years_213 l1 (nI n) (b_X12_years_77 l1 (nI n) fu) σ' (lN (yX X)) s' (nI i) = some (yV g a t (i + 1) (fun j => moodS (yN g a i m l X j)) 0 (yX X) s', τ) ∧ Un Py σ τ := by
      intro σ' s' p1 p2 p3
      obtain ⟨s2, a1, b1, b2, c1⟩ := yearR_218 l1 (nI n) (b_X12_years_77 l1 (nI n) fu) 0 (lN (yX X)) s' (nI i) ha g0 (yN g a i m l X) a 0 FU σ' (by omega) (by unfold FU; omega) p1 (fun j hj => by rw [p2 j hj, if_neg (by omega)])
      obtain ⟨τ, k1, k2⟩ := ih (i + 1) fu s2 (fun j => moodS (yN g a i m l X j)) 0 s' (yX X) (by omega) (by omega) (yX_lt X) b1 b2
      refine ⟨τ, ?_, (p3.trans c1).trans k2⟩
      unfold b_X12_years_213
      rw [nI_1] at a1
      exact (show b_X12_years_218 l1 (nI n) (b_X12_years_77 l1 (nI n) fu) FU σ' 0 (lN (yX X)) s' (nI i) (nI 0) = _ from a1).trans k1
    rw [b_X12_years_77, if_neg (nI_ge (by omega) (by omega)), year_num hX]
    simp only [nam_e]
    rw [year_k, year_f, if_pos (show inb 0 (kLen 113) = true from i113 (n := 0) (by omega)), hg, show g (ix 0) = nI a from g0]
    rw [yV_s]
    by_cases q1 : yK X < a
    · rw [if_neg (nI_ge q1 (by omega))]
      by_cases q2 : f_X12_has l (nI (yK X)) = 0
      · have eN : yN g a i m l X = upd m (yK X) (f_X12_moodBehind (m (yK X)) (nI (yF X)) (f_X12_lends (g (4 + yK X)) (g 2 + nI i) (m (yK X)) (nI (yF X)))) := if_pos ⟨q1, q2⟩
        have eL : yL g a i m l X = f_X12_lends (g (4 + yK X)) (g 2 + nI i) (m (yK X)) (nI (yF X)) := if_pos ⟨q1, q2⟩
        have h1 : ∀ v, rI (stI σ 121 (yK X) v) 113 = g := fun v => by rw [← hg]; exact funext (fun j => rI_ne _ _ (by omega))
        have h2 : ∀ j, j < a → rI (stI σ 121 (yK X) (f_X12_moodBehind (m (yK X)) (nI (yF X)) (f_X12_lends (g (4 + yK X)) (g 2 + nI i) (m (yK X)) (nI (yF X))))) 121 j = yN g a i m l X j := fun j hj => by
          rw [eN, rI_stI]
          unfold upd
          by_cases q : j = yK X
          · rw [if_pos ⟨rfl, q⟩, if_pos q]
          · rw [if_neg (fun z => q z.2), if_neg q]; exact hm j hj
        rw [if_pos q2]
        unfold b_X12_years_210
        have i2 : inb 2 (kLen 113) = true := i113 (n := 2) (by omega)
        have x2 : ix (2 : Int32) = 2 := ix_nI (n := 2) (by omega)
        simp (disch := omega) only [L4, nI_add, i113, i121, if_true, ix_nI, i2, x2, hm _ q1, nam_e]
        rcases lends01 (g (4 + yK X)) (g 2 + nI i) (m (yK X)) (nI (yF X)) with q3 | q3
        · have es : s + yL g a i m l X = s + 0 := by rw [eL, q3]
          rw [if_pos q3, es]
          exact hp _ (s + 0) (h1 _) h2 (Un.stI _ _ _ _ rfl)
        · have es : s + yL g a i m l X = s + 1 := by rw [eL, q3]
          rw [if_neg (by rw [q3]; decide), es]
          exact hp _ (s + 1) (h1 _) h2 (Un.stI _ _ _ _ rfl)
      · have eN : yN g a i m l X = m := if_neg (fun z => q2 z.2)
        have es : s + yL g a i m l X = s := by rw [show yL g a i m l X = 0 from if_neg (fun z => q2 z.2)]; exact Int32.add_zero s
        rw [if_neg q2, es]
        exact hp σ s hg (fun j hj => by rw [eN]; exact hm j hj) Un.rf
    · have eN : yN g a i m l X = m := if_neg (fun z => q1 z.1)
      have es : s + yL g a i m l X = s := by rw [show yL g a i m l X = 0 from if_neg (fun z => q1 z.1)]; exact Int32.add_zero s
      rw [if_pos (nI_le (by omega) (by omega)), es]
      exact hp σ s hg (fun j hj => by rw [eN]; exact hm j hj) Un.rf
theorem yearR_33 {g : Nat → Int32} (l1 l2 : Int32) : ∀ (t i fu : Nat) (σ : Sg), t + i = 7 → t < fu → rI σ 113 = g → (∀ j, j < i → rI σ 121 j = g (32 + j)) → ∃ τ, b_X12_years_33 l1 l2 fu σ (nI i) = b_X12_years_77 l1 l2 FU τ (g 3) (Int32.toInt64 l1) 0 0 ∧ rI τ 113 = g ∧ (∀ j, j < 7 → rI τ 121 j = g (32 + j)) ∧ Un Py σ τ := by
  intro t
  induction t with
  | zero =>
    intro i fu σ ht hf hg hm
    obtain ⟨fu, rfl⟩ : ∃ q, fu = q + 1 := ⟨fu - 1, by omega⟩
    refine ⟨σ, ?_, hg, fun j hj => hm j (by omega), Un.rf⟩
    rw [b_X12_years_33, if_pos (show (7 : Int32) ≤ nI i from nI_le (a := 7) (by omega) (by omega)), if_pos (show inb 3 (kLen 113) = true from i113 (n := 3) (by omega)), hg, nam_e, nam_e]
    rfl
  | succ t ih =>
    intro i fu σ ht hf hg hm
    obtain ⟨fu, rfl⟩ : ∃ q, fu = q + 1 := ⟨fu - 1, by omega⟩
    obtain ⟨τ, k1, k2, k3, k4⟩ := ih (i + 1) fu (stI σ 121 i (g (32 + i))) (by omega) (by omega) (by rw [← hg]; exact funext (fun j => rI_ne _ _ (by omega))) (fun j hj => by
      rw [rI_stI]
      by_cases q : j = i
      · rw [if_pos ⟨rfl, q⟩, q]
      · rw [if_neg (fun z => q z.2)]; exact hm j (by omega))
    refine ⟨τ, ?_, k2, k3, (Un.stI σ 121 i _ rfl).trans k4⟩
    rw [b_X12_years_33, if_neg (show ¬ (7 : Int32) ≤ nI i from nI_ge (b := 7) (by omega) (by omega)), L32, nI_add, if_pos (i113 (by omega)), if_pos (i121 (by omega)), hg, ix_nI (by omega), ix_nI (by omega), nam_e, nam_e, nI_1]
    exact k1
theorem take_dream {σ : Sg} {a : Nat} {fs m : Nat → Int32} (ha : a ≤ 7) (r1 : rowIs σ 19 a fs) (r2 : rowIs σ 21 a m) : ∃ τ, f_X4_take σ 94 18 = some τ ∧ rowIs τ 95 a fs ∧ rowIs τ 97 a m ∧ rI τ 94 0 = rI σ 18 0 ∧ rI τ 94 1 = rI σ 18 1 ∧ Only 94 99 σ τ := by
  have o1 : Only 94 95 σ (stI (stI σ 94 0 (rI σ 18 0)) 94 1 (rI (stI σ 94 0 (rI σ 18 0)) 18 1)) := (Only.stI σ 94 0 _).trans (Only.stI _ 94 1 _)
  obtain ⟨s1, a1, b1, c1⟩ := take_in (k0 := 95) (k1 := 19) (by omega) (Nat.le_trans ha (by decide)) (r1.keep o1 (by omega))
  obtain ⟨s2, a2, b2, c2⟩ := take_in (k0 := 97) (k1 := 21) (by omega) (Nat.le_trans ha (by decide)) ((r2.keep o1 (by omega)).keep c1 (by omega))
  refine ⟨s2, ?_, b1.keep c2 (by omega), b2, ?_, ?_, ((o1.mono (by omega) (by omega)).trans (c1.mono (by omega) (by omega))).trans (c2.mono (by omega) (by omega))⟩
  · show ((f_X7_take (stI (stI σ 94 0 (rI σ 18 0)) 94 1 (rI (stI σ 94 0 (rI σ 18 0)) 18 1)) 95 19).bind fun s3 => (f_X7_take s3 97 21).bind fun s4 => some s4) = some s2
    rw [a1, ob_some, a2, ob_some]
  · rw [(c2 94 (by omega)).1, (c1 94 (by omega)).1, rI_nj _ _ (by omega), rI_eq]
  · rw [(c2 94 (by omega)).1, (c1 94 (by omega)).1, rI_eq, rI_ne _ _ (by omega)]
theorem m_years {σ : Sg} (h : Inv σ) (v1 v2 : Int32) : Sim (fun s => f_X11_years s v1 v2) (fun s => f_X12_years s v1 v2) σ := by
  by_cases q1 : f_X11_between v1 0 999999 = 0
  · refine ref_bad h (-2) id ?_ (fun τ ht => ?_)
    · show f_X11_years σ v1 v2 = _
      unfold f_X11_years; rw [if_pos q1]; rfl
    · show f_X12_years τ v1 v2 = _
      unfold f_X12_years; rw [in_0_999999, if_pos q1]; rfl
  by_cases q2 : f_X11_between v2 0 60 = 0
  · refine ref_bad h (-2) id ?_ (fun τ ht => ?_)
    · show f_X11_years σ v1 v2 = _
      unfold f_X11_years; rw [if_neg q1, if_pos q2]; rfl
    · show f_X12_years τ v1 v2 = _
      unfold f_X12_years; rw [in_0_999999, if_neg q1, in_0_60, if_pos q2]; rfl
  obtain ⟨sd, _, p1, rfl⟩ := btw_of (lo := 0) (hi := 999999) (by omega) q1 (by omega)
  obtain ⟨n, _, p2, rfl⟩ := btw_of (lo := 0) (hi := 60) (by omega) q2 (by omega)
  obtain ⟨a, b, c, d, e, u, hn, hw, hr⟩ := h.1
  obtain ⟨⟨n0, ha⟩, _⟩ := hn
  obtain ⟨r1, r2, r3, r4, r5, r6, r7, r8, r9, r10, r11, r12⟩ := hr
  obtain ⟨s1, a1, b1, b2, b3, b4, c1⟩ := take_dream ha r11 r12
  obtain ⟨s2, a2, c2⟩ := year_c (g := rI σ 113) ha p2 (fun j hj => (hw.1 j hj).1) (nI sd) n 0 FU s1 (fun j => rI σ 113 (32 + j)) _ (rI σ 113 3) 0 sd (by omega) (by unfold FU; omega) (by omega) (r1.keep c1 (by omega)) b1 b2 (fun j hj => ((hw.2.2.2.2.1.1 j (by omega)).1 hj).1) (fun j hj => ((hw.2.2.2.2.1.1 j (by omega)).1 hj).2) (by rw [b3, show rI σ 18 0 = rI σ 113 2 from r9]; exact (Int32.add_zero _).symm) (b4.trans r10)
  have hu1 : Un Pc σ s2 := (c1.trans c2).un (fun a j p q => by unfold Pc; omega)
  have hg2 : rI s2 113 = rI σ 113 := funext (fun j => ((c1.trans c2) 113 (by omega)).1 j)
  obtain ⟨s3, a3, b5, b6, c3⟩ := yearR_33 (g := rI σ 113) (nI sd) (nI n) 7 0 FU s2 (by omega) (by unfold FU; omega) hg2 (fun j hj => absurd hj (by omega))
  obtain ⟨s4, a4, c4⟩ := yearR_77 (g := rI σ 113) ha p2 n0 (nI sd) n 0 FU s3 (fun j => rI σ 113 (32 + j)) (rI σ 113 3) 0 sd (by omega) (by unfold FU; omega) (by omega) b5 (fun j hj => b6 j (by omega))
  refine ⟨yV (rI σ 113) a n 0 (fun j => rI σ 113 (32 + j)) (rI σ 113 3) sd 0, s2, s4, ?_, ?_, Inv_pass h (hu1.trans ((c3.trans c4).mono (fun a j q => by unfold Py at q; unfold Pc; omega)))⟩
  · show f_X11_years σ (nI sd) (nI n) = _
    unfold f_X11_years
    rw [if_neg q1, if_neg q2, a1, ob_some, nam_e, nI_l (by omega)]
    exact a2
  · show f_X12_years s2 (nI sd) (nI n) = _
    unfold f_X12_years
    rw [in_0_999999, if_neg q1, in_0_60, if_neg q2]
    refine (show b_X12_years_33 (nI sd) (nI n) FU s2 (nI 0) = _ from a3).trans ?_
    rw [nI_l (by omega)]
    exact a4
