/-! ===== the reference's search; round ===== -/
def BN : Nat → Nat
  | 0 => 1
  | m + 1 => (m + 1) * (1 + BN m) + 1
def Px (a _j : Nat) : Prop := a = 117 ∨ a = 118 ∨ a = 119
theorem Px_w {σ τ : Sg} {g : Nat → Int32} (h : Un Px σ τ) (hg : rI σ 113 = g) : rI τ 113 = g := (funext (fun j => (h 113 j (by unfold Px; omega)).1)).trans hg
theorem i117 {n : Nat} (h : n < 8) : inb (nI n) (kLen 117) = true := inb_nI h (by decide)
theorem i118 {n : Nat} (h : n < 8) : inb (nI n) (kLen 118) = true := inb_nI h (by decide)
theorem i119 {n : Nat} (h : n < 7) : inb (nI n) (kLen 119) = true := inb_nI h (by decide)
theorem way_r {x y : Nat} (hx : x ≤ 11) (hy : y ≤ 11) : f_X12_goesRound (nI x) (nI y) = nI (wN x y) := by
  unfold f_X12_goesRound b_X12_goesRound_14 wN
  have e12 : (12 : Int32) = nI 12 := rfl
  by_cases q : y ≤ x
  · rw [if_pos q, if_pos (nI_le q (by omega)), pk_sub q, L6, e12, pk_sub (by omega)]
    by_cases w : x - y ≤ 6
    · rw [if_pos w, if_pos (nI_le w (by omega))]
    · rw [if_neg w, if_neg (nI_ge (by omega) (by omega))]
  · rw [if_neg q, if_neg (nI_ge (by omega) (by omega)), pk_sub (by omega), L6, e12, pk_sub (by omega)]
    by_cases w : y - x ≤ 6
    · rw [if_pos w, if_pos (nI_le w (by omega))]
    · rw [if_neg w, if_neg (nI_ge (by omega) (by omega))]
/-- who is busy -/
def bz (p : Nat → Nat) (d : Nat) : Int32 := fo (fun e y => y ||| (1 <<< (nI (p e) &&& 31))) 0 d 0
theorem bz_upd {p : Nat → Nat} {d k : Nat} : bz (fun e => if e = d then k else p e) (d + 1) = bz p d ||| (1 <<< (nI k &&& 31)) := by
  have h1 : fo (fun e (y : Int32) => y ||| (1 <<< (nI (if e = d then k else p e) &&& 31))) 0 (d + 1) 0 = (fo (fun e (y : Int32) => y ||| (1 <<< (nI (if e = d then k else p e) &&& 31))) 0 d 0) ||| (1 <<< (nI (if d = d then k else p d) &&& 31)) := by
    rw [fo_last, Nat.zero_add]
  have h2 : fo (fun e (y : Int32) => y ||| (1 <<< (nI (if e = d then k else p e) &&& 31))) 0 d 0 = bz p d := fo_cong d 0 0 (fun j _ hj x => by
    show x ||| (1 <<< (nI (if j = d then k else p j) &&& 31)) = x ||| (1 <<< (nI (p j) &&& 31))
    rw [if_neg (by omega)])
  rw [h2, if_pos rfl] at h1
  exact h1
theorem busy_loop {σ : Sg} {p : Nat → Nat} {d : Nat} (l1 : Int32) (c25 : Sg → Int32 → Int32 → Int32 → Option (Int32 × Sg)) (l2 l3 : Int32) (hd : d ≤ 7) (hp : ∀ j, j < d → rI σ 117 j = nI (p j)) : ∀ (t e fu : Nat) (y : Int32), t + e = d → t < fu → b_X12_shortest_36 l1 c25 fu σ l2 l3 (nI d) y (nI e) = (if nI d = 0 then b_X12_shortest_89 l1 c25 σ l2 l3 (nI d) (fo (fun e y => y ||| (1 <<< (nI (p e) &&& 31))) e t y) 0 else (if inb (nI d - 1) (kLen 117) = true then (if inb (11 + (rI σ 117 (ix (nI d - 1)))) (kLen 113) = true then b_X12_shortest_89 l1 c25 σ l2 l3 (nI d) (fo (fun e y => y ||| (1 <<< (nI (p e) &&& 31))) e t y) (rI σ 113 (ix (11 + (rI σ 117 (ix (nI d - 1)))))) else none) else none)) := by
  intro t
  induction t with
  | zero =>
    intro e fu y ht hf
    obtain ⟨fu, rfl⟩ : ∃ q, fu = q + 1 := ⟨fu - 1, by omega⟩
    rw [b_X12_shortest_36, if_pos (nI_le (by omega) (by omega)), fo_0]
  | succ t ih =>
    intro e fu y ht hf
    obtain ⟨fu, rfl⟩ : ∃ q, fu = q + 1 := ⟨fu - 1, by omega⟩
    rw [b_X12_shortest_36, if_neg (nI_ge (by omega) (by omega)), if_pos (i117 (by omega)), ix_nI (by omega), hp e (by omega), nam_e, nam_e, nI_1, ih (e + 1) fu _ (by omega) (by omega), fo_s]
theorem copy_row {σ : Sg} {M : Nat} {q : Nat → Nat} (l1 l3 l4 : Int32) (hM : M ≤ 7) (hq : ∀ j, j < M → rI σ 117 j = nI (q j)) : ∀ (t i fu : Nat) (τ : Sg), t + i = M → t < fu → Un (fun a _ => a = 119) σ τ → (∀ j, j < i → rI τ 119 j = nI (q j)) → ∃ υ, (∀ c25, b_X12_shortest_125 l1 c25 fu τ (nI M) l3 l4 (nI i) = b_X12_shortest_151 l1 c25 υ (nI M) l3 l4) ∧ Un (fun a _ => a = 119) σ υ ∧ ∀ j, j < M → rI υ 119 j = nI (q j) := by
  intro t
  induction t with
  | zero =>
    intro i fu τ ht hf hu hr
    obtain ⟨fu, rfl⟩ : ∃ q, fu = q + 1 := ⟨fu - 1, by omega⟩
    refine ⟨τ, fun c25 => ?_, hu, fun j hj => hr j (by omega)⟩
    rw [b_X12_shortest_125, if_pos (nI_le (by omega) (by omega))]
  | succ t ih =>
    intro i fu τ ht hf hu hr
    obtain ⟨fu, rfl⟩ : ∃ q, fu = q + 1 := ⟨fu - 1, by omega⟩
    have e1 : rI τ 117 i = nI (q i) := by rw [(hu 117 i (by omega)).1]; exact hq i (by omega)
    obtain ⟨υ, k1, k2, k3⟩ := ih (i + 1) fu (stI τ 119 i (nI (q i))) (by omega) (by omega) (hu.trans (Un.stI _ _ _ _ rfl)) (fun j hj => by
      rw [rI_stI]
      by_cases w : j = i
      · rw [if_pos ⟨rfl, w⟩, w]
      · rw [if_neg (fun z => w z.2)]; exact hr j (by omega))
    refine ⟨υ, fun c25 => ?_, k2, k3⟩
    rw [b_X12_shortest_125, if_neg (nI_ge (by omega) (by omega)), if_pos (i117 (by omega)), if_pos (i119 (by omega)), ix_nI (by omega), e1, nam_e, nam_e, nI_1]
    exact k1 c25
/-- the next one to ask, from k on -/
theorem adv_loop {σ : Sg} {a s x : Nat} {y : Int32} (ha : a ≤ 7) (h0 : rI σ 113 0 = nI a) (hx : ∀ k, k < 7 → hB x k = (hB s k && decide (f_X12_has y (nI k) = 0))) : ∀ (t k fu : Nat), t + k = a → t < fu → ∃ k1, k ≤ k1 ∧ k1 ≤ a ∧ (∀ j, k ≤ j → j < k1 → hB x j = false) ∧ (k1 < a → hB x k1 = true) ∧ ∀ c25 l2 l3 l4 l6, b_X12_shortest_168 (nI s) c25 fu σ l2 l3 l4 y l6 (nI k) = b_X12_shortest_204 (nI s) c25 σ l2 l3 l4 l6 (nI k1) := by
  intro t
  induction t with
  | zero =>
    intro k fu ht hf
    obtain ⟨fu, rfl⟩ : ∃ q, fu = q + 1 := ⟨fu - 1, by omega⟩
    refine ⟨k, Nat.le_refl _, by omega, fun j h1 h2 => absurd h1 (by omega), fun h => absurd h (by omega), fun c25 l2 l3 l4 l6 => ?_⟩
    rw [b_X12_shortest_168, if_pos (show inb 0 (kLen 113) = true from i113 (n := 0) (by omega)), show rI σ 113 (ix 0) = nI a from h0, if_pos (nI_le (by omega) (by omega))]
  | succ t ih =>
    intro k fu ht hf
    obtain ⟨fu, rfl⟩ : ∃ q, fu = q + 1 := ⟨fu - 1, by omega⟩
    have hk := hx k (by omega)
    have e168 : ∀ c25 l2 l3 l4 l6, b_X12_shortest_168 (nI s) c25 (fu + 1) σ l2 l3 l4 y l6 (nI k) = (if (f_X12_has (nI s) (nI k)) = 0 then b_X12_shortest_168 (nI s) c25 fu σ l2 l3 l4 y l6 (nI (k + 1)) else (if (f_X12_has y (nI k)) = 0 then b_X12_shortest_204 (nI s) c25 σ l2 l3 l4 l6 (nI k) else b_X12_shortest_168 (nI s) c25 fu σ l2 l3 l4 y l6 (nI (k + 1)))) := fun c25 l2 l3 l4 l6 => by
      rw [b_X12_shortest_168, if_pos (show inb 0 (kLen 113) = true from i113 (n := 0) (by omega)), show rI σ 113 (ix 0) = nI a from h0, if_neg (nI_ge (by omega) (by omega))]
      unfold b_X12_shortest_198
      rw [nam_e, nI_1]
    have nxt : hB x k = false → (∀ c25 l2 l3 l4 l6, b_X12_shortest_168 (nI s) c25 (fu + 1) σ l2 l3 l4 y l6 (nI k) = b_X12_shortest_168 (nI s) c25 fu σ l2 l3 l4 y l6 (nI (k + 1))) → ∃ k1, k ≤ k1 ∧ k1 ≤ a ∧ (∀ j, k ≤ j → j < k1 → hB x j = false) ∧ (k1 < a → hB x k1 = true) ∧ ∀ c25 l2 l3 l4 l6, b_X12_shortest_168 (nI s) c25 (fu + 1) σ l2 l3 l4 y l6 (nI k) = b_X12_shortest_204 (nI s) c25 σ l2 l3 l4 l6 (nI k1) := fun hf1 he => by
      obtain ⟨k1, e1, e2, e3, e4, e5⟩ := ih (k + 1) fu (by omega) (by omega)
      refine ⟨k1, by omega, e2, fun j h1 h2 => ?_, e4, fun c25 l2 l3 l4 l6 => (he c25 l2 l3 l4 l6).trans (e5 c25 l2 l3 l4 l6)⟩
      by_cases w : j = k
      · subst w; exact hf1
      · exact e3 j (by omega) h2
    by_cases q1 : f_X12_has (nI s) (nI k) = 0
    · refine nxt ?_ (fun c25 l2 l3 l4 l6 => by rw [e168, if_pos q1])
      rw [hk, show hB s k = false from decide_eq_false (fun z => z q1), Bool.false_and]
    · by_cases q2 : f_X12_has y (nI k) = 0
      · refine ⟨k, Nat.le_refl _, by omega, fun j h1 h2 => absurd h1 (by omega), fun _ => ?_, fun c25 l2 l3 l4 l6 => by rw [e168, if_neg q1, if_pos q2]⟩
        rw [hk, show hB s k = true from decide_eq_true q1, decide_eq_true q2]
        rfl
      · refine nxt ?_ (fun c25 l2 l3 l4 l6 => by rw [e168, if_neg q1, if_neg q2])
        rw [hk, decide_eq_false q2, Bool.and_false]
/-- the best so far, o being found from here on -/
def bsT (b h : Nat) (o : Option (Nat × Nat)) : Nat := match o with
  | none => b
  | some q => if h + q.2 < b then h + q.2 else b
def rwT (H p : Nat → Nat) (d x b h : Nat) (r : Nat → Int32) (o : Option (Nat × Nat)) (j : Nat) : Int32 := match o with
  | none => r j
  | some q => if h + q.2 < b then nI (if j < d then p j else if j = d then q.1 else pth H (j - (d + 1)) (x - 2 ^ q.1) q.1) else r j
theorem bsT_le (b h : Nat) (o : Option (Nat × Nat)) : bsT b h o ≤ b := by
  cases o with
  | none => exact Nat.le_refl _
  | some q =>
    show (if h + q.2 < b then h + q.2 else b) ≤ b
    split <;> omega
theorem bsT_S {b h k c : Nat} {o : Option (Nat × Nat)} : bsT b h (oS o k c) = if h + c < bsT b h o then h + c else bsT b h o := by
  cases o with
  | none => rfl
  | some q =>
    by_cases w : c < q.2
    · rw [show oS (some q) k c = some (k, c) from if_pos w]
      show (if h + c < b then h + c else b) = if h + c < (if h + q.2 < b then h + q.2 else b) then h + c else (if h + q.2 < b then h + q.2 else b)
      by_cases z : h + q.2 < b
      · rw [if_pos z, if_pos (show h + c < h + q.2 by omega), if_pos (show h + c < b by omega)]
      · rw [if_neg z]
    · rw [show oS (some q) k c = some q from if_neg w]
      show (if h + q.2 < b then h + q.2 else b) = if h + c < (if h + q.2 < b then h + q.2 else b) then h + c else (if h + q.2 < b then h + q.2 else b)
      by_cases z : h + q.2 < b
      · rw [if_pos z, if_neg (by omega)]
      · rw [if_neg z, if_neg (by omega)]
theorem rwT_S {H p : Nat → Nat} {d x b h k c : Nat} {r : Nat → Int32} {o : Option (Nat × Nat)} (j : Nat) : rwT H p d x b h r (oS o k c) j = if h + c < bsT b h o then nI (if j < d then p j else if j = d then k else pth H (j - (d + 1)) (x - 2 ^ k) k) else rwT H p d x b h r o j := by
  cases o with
  | none => rfl
  | some q =>
    by_cases w : c < q.2
    · rw [show oS (some q) k c = some (k, c) from if_pos w]
      show (if h + c < b then nI (if j < d then p j else if j = d then k else pth H (j - (d + 1)) (x - 2 ^ k) k) else r j) = if h + c < (if h + q.2 < b then h + q.2 else b) then _ else (if h + q.2 < b then nI (if j < d then p j else if j = d then q.1 else pth H (j - (d + 1)) (x - 2 ^ q.1) q.1) else r j)
      by_cases z : h + q.2 < b
      · rw [if_pos z, if_pos (show h + c < h + q.2 by omega), if_pos (show h + c < b by omega)]
      · rw [if_neg z, if_neg z]
    · rw [show oS (some q) k c = some q from if_neg w]
      show (if h + q.2 < b then nI (if j < d then p j else if j = d then q.1 else pth H (j - (d + 1)) (x - 2 ^ q.1) q.1) else r j) = if h + c < (if h + q.2 < b then h + q.2 else b) then _ else (if h + q.2 < b then nI (if j < d then p j else if j = d then q.1 else pth H (j - (d + 1)) (x - 2 ^ q.1) q.1) else r j)
      by_cases z : h + q.2 < b
      · rw [if_pos z, if_pos z, if_neg (show ¬ h + c < h + q.2 by omega)]
      · rw [if_neg z, if_neg z, if_neg (show ¬ h + c < b by omega)]
/-- where one stands -/
def cuT (p : Nat → Nat) (d : Nat) : Nat := if d = 0 then 7 else p (d - 1)
theorem head_c {σ : Sg} {a s M d : Nat} {g : Nat → Int32} {H p : Nat → Nat} (c25 : Sg → Int32 → Int32 → Int32 → Option (Int32 × Sg)) (l3 : Int32) (ha : a ≤ 7) (hg : rI σ 113 = g) (gH : ∀ k, k < a → g (11 + k) = nI (H k)) (H7 : H 7 = 0) (hd : d ≤ 7) (hp : ∀ j, j < d → rI σ 117 j = nI (p j)) (hpa : ∀ j, j < d → p j < a) : b_X12_shortest_36 (nI s) c25 FU σ (nI M) l3 (nI d) 0 0 = b_X12_shortest_89 (nI s) c25 σ (nI M) l3 (nI d) (bz p d) (nI (H (cuT p d))) := by
  refine (show b_X12_shortest_36 (nI s) c25 FU σ (nI M) l3 (nI d) 0 (nI 0) = _ from busy_loop (nI s) c25 (nI M) l3 hd hp d 0 FU 0 (by omega) (by unfold FU; omega)).trans ?_
  unfold cuT
  by_cases q : d = 0
  · subst q
    rw [if_pos (show nI 0 = 0 from rfl), if_pos rfl, H7]
    rfl
  · have hpd := hpa (d - 1) (by omega)
    have e1 : nI d - 1 = nI (d - 1) := pk_sub (b := 1) (by omega)
    rw [if_neg (nI_ne0 (by omega) (by omega)), if_neg q, e1, if_pos (i117 (by omega)), ix_nI (by omega), hp (d - 1) (by omega), L11, nI_add, if_pos (i113 (by omega)), ix_nI (by omega), hg, gH _ hpd]
    rfl
theorem node {a s M : Nat} {g : Nat → Int32} {H : Nat → Nat} (ha : a ≤ 7) (g0 : g 0 = nI a) (gH : ∀ k, k < a → g (11 + k) = nI (H k)) (h12 : ∀ j, H j ≤ 11) (H7 : H 7 = 0) (hsa : ∀ k, k < 7 → a ≤ k → hB s k = false) (hM : M ≤ 7) : ∀ (m d x h b : Nat) (p : Nat → Nat) (σ : Sg), m + d = M → ctB x 0 7 = m → x < 128 → (∀ k, k < 7 → hB x k = (hB s k && decide (f_X12_has (bz p d) (nI k) = 0))) → rI σ 113 = g → (∀ j, j < d → rI σ 117 j = nI (p j)) → (∀ j, j < d → p j < a) → rI σ 118 d = nI h → rI σ 117 d = -1 → h ≤ 7 * d → b ≤ 1000000 → ∃ N τ, N ≤ BN m ∧ (∀ fu, b_X12_shortest_25 (nI s) (fu + N) σ (nI M) (nI b) (nI d) = b_X12_shortest_25 (nI s) fu τ (nI M) (nI (if h + dW H 128 x (cuT p d) < b then h + dW H 128 x (cuT p d) else b)) (nI d + (-1))) ∧ Un Px σ τ ∧ (∀ j, j < d → rI τ 117 j = nI (p j)) ∧ (∀ j, j ≤ d → rI τ 118 j = rI σ 118 j) ∧ (∀ j, j < M → rI τ 119 j = if h + dW H 128 x (cuT p d) < b then nI (if j < d then p j else pth H (j - d) x (cuT p d)) else rI σ 119 j) := by
  intro m
  induction m with
  | zero =>
    intro d x h b p σ hm hc hx hxs hg hp hpa hh ht hh7 hb
    have hx0 : x = 0 := (ct_pos x hx).2 hc
    subst hx0
    have hd : d = M := by omega
    subst hd
    have hw := wN_le (H (cuT p d)) (H 7)
    have hneg : ¬ nI d < 0 := nI_pos (by omega)
    have e11 : nI h + f_X12_goesRound (nI (H (cuT p d))) 0 = nI (h + wN (H (cuT p d)) (H 7)) := by
      rw [show (0 : Int32) = nI (H 7) by rw [H7]; rfl, way_r (h12 _) (h12 _), nI_add]
    have e25 : ∀ fu l3, b_X12_shortest_25 (nI s) (fu + 1) σ (nI d) l3 (nI d) = b_X12_shortest_89 (nI s) (b_X12_shortest_25 (nI s) fu) σ (nI d) l3 (nI d) (bz p d) (nI (H (cuT p d))) := fun fu l3 => by
      rw [b_X12_shortest_25, if_neg hneg]
      exact head_c (b_X12_shortest_25 (nI s) fu) l3 ha hg gH H7 (by omega) hp hpa
    rw [dW_0]
    by_cases q : h + wN (H (cuT p d)) (H 7) < b
    · obtain ⟨υ, k1, k2, k3⟩ := copy_row (nI s) (nI (h + wN (H (cuT p d)) (H 7))) (nI d) hM hp d 0 FU σ (by omega) (by unfold FU; omega) Un.rf (fun j hj => absurd hj (by omega))
      refine ⟨1, υ, Nat.le_refl _, fun fu => ?_, k2.mono (fun a j z => Or.inr (Or.inr z)), fun j hj => by rw [(k2 117 j (by omega)).1]; exact hp j hj, fun j _ => (k2 118 j (by omega)).1, fun j hj => by rw [if_pos q, if_pos hj]; exact k3 j hj⟩
      rw [e25]
      unfold b_X12_shortest_89
      rw [if_pos rfl, if_pos (i118 (by omega)), ix_nI (by omega), hh, e11, nam_e, if_neg (nI_ge q (by omega)), show b_X12_shortest_125 (nI s) (b_X12_shortest_25 (nI s) fu) FU σ (nI d) (nI (h + wN (H (cuT p d)) (H 7))) (nI d) 0 = _ from k1 _, if_pos q]
      rfl
    · refine ⟨1, σ, Nat.le_refl _, fun fu => ?_, Un.rf, hp, fun _ _ => rfl, fun j hj => by rw [if_neg q]⟩
      rw [e25]
      unfold b_X12_shortest_89
      rw [if_pos rfl, if_pos (i118 (by omega)), ix_nI (by omega), hh, e11, nam_e, if_pos (nI_le (by omega) (by omega)), if_neg q]
      rfl
  | succ m ih =>
    intro d x h b p σ hm hc hx hxs hg hp hpa hh ht hh7 hb
    have hneg : ¬ nI d < 0 := nI_pos (by omega)
    have hx0 : x ≠ 0 := fun z => by
      subst z
      have : ctB 0 0 7 = 0 := by decide +kernel
      omega
    have hhi : ∀ j, j < 7 → a ≤ j → hB x j = false := fun j h1 h2 => by rw [hxs j h1, hsa j h1 h2, Bool.false_and]
    have inner : ∀ (t k : Nat) (o : Option (Nat × Nat)) (σ' : Sg), a - k ≤ t → k ≤ a → o = fo (bsW x (fW H x (cuT p d))) 0 k none → rI σ' 117 d + 1 = nI k → (∀ j, j < d → rI σ' 117 j = nI (p j)) → (∀ j, j ≤ d → rI σ' 118 j = rI σ 118 j) → (∀ j, j < M → rI σ' 119 j = rwT H p d x b h (rI σ 119) o j) → Un Px σ σ' → ∃ N τ, N ≤ ctB x k (7 - k) * (1 + BN m) + 1 ∧ (∀ fu, b_X12_shortest_25 (nI s) (fu + N) σ' (nI M) (nI (bsT b h o)) (nI d) = b_X12_shortest_25 (nI s) fu τ (nI M) (nI (bsT b h (Fw H x (cuT p d)))) (nI d + (-1))) ∧ Un Px σ τ ∧ (∀ j, j < d → rI τ 117 j = nI (p j)) ∧ (∀ j, j ≤ d → rI τ 118 j = rI σ 118 j) ∧ (∀ j, j < M → rI τ 119 j = rwT H p d x b h (rI σ 119) (Fw H x (cuT p d)) j) := by
      intro t
      induction t with
      | zero =>
        intro k o σ' hk1 hk2 ho h117 hp' h118 h119 hu
        have : k = a := by omega
        subst this
        have hg' := Px_w hu hg
        have hFw : Fw H x (cuT p d) = o := by
          show fo (bsW x (fW H x (cuT p d))) 0 7 none = o
          rw [show 7 = k + (7 - k) by omega, fo_add, ← ho, Nat.zero_add]
          exact fo_id (7 - k) k (fun j h1 h2 => if_neg (by rw [hhi j (by omega) (by omega)]; decide))
        obtain ⟨k1, e1, e2, e3, e4, e5⟩ := adv_loop (σ := σ') ha (by rw [hg']; exact g0) hxs 0 k FU (by omega) (by unfold FU; omega)
        have : k1 = k := by omega
        subst this
        refine ⟨1, stI σ' 117 d (nI k1), by omega, fun fu => ?_, hu.trans (Un.stI _ _ _ _ (Or.inl rfl)), fun j hj => by rw [rI_nj _ _ (by omega)]; exact hp' j hj, fun j hj => by rw [rI_ne _ _ (by omega)]; exact h118 j hj, fun j hj => by rw [rI_ne _ _ (by omega), hFw]; exact h119 j hj⟩
        rw [b_X12_shortest_25, if_neg hneg, head_c (b_X12_shortest_25 (nI s) fu) (nI (bsT b h o)) ha hg' gH H7 (by omega) hp' hpa]
        unfold b_X12_shortest_89
        rw [if_neg (fun z => absurd (nIinj (by omega) (by omega) z) (by omega)), if_pos (i117 (by omega)), ix_nI (by omega), h117, nam_e, e5]
        unfold b_X12_shortest_204 b_X12_shortest_275
        rw [if_pos (i117 (by omega)), ix_nI (by omega), nam_e, if_pos (show inb 0 (kLen 113) = true from i113 (n := 0) (by omega)), rI_ne _ _ (by omega), hg', if_pos (show nI k1 = g (ix 0) from g0.symm), nam_e, hFw]
      | succ t iht =>
        intro k o σ' hk1 hk2 ho h117 hp' h118 h119 hu
        have hg' := Px_w hu hg
        obtain ⟨k1, e1, e2, e3, e4, e5⟩ := adv_loop (σ := σ') ha (by rw [hg']; exact g0) hxs (a - k) k FU (by omega) (by unfold FU; omega)
        have hstep : ∀ fu, b_X12_shortest_25 (nI s) (fu + 1) σ' (nI M) (nI (bsT b h o)) (nI d) = b_X12_shortest_204 (nI s) (b_X12_shortest_25 (nI s) fu) σ' (nI M) (nI (bsT b h o)) (nI d) (nI (H (cuT p d))) (nI k1) := fun fu => by
          rw [b_X12_shortest_25, if_neg hneg, head_c (b_X12_shortest_25 (nI s) fu) (nI (bsT b h o)) ha hg' gH H7 (by omega) hp' hpa]
          unfold b_X12_shortest_89
          rw [if_neg (fun z => absurd (nIinj (by omega) (by omega) z) (by omega)), if_pos (i117 (by omega)), ix_nI (by omega), h117, nam_e, e5]
        by_cases q : k1 = a
        · subst q
          have hFw : Fw H x (cuT p d) = o := by
            show fo (bsW x (fW H x (cuT p d))) 0 7 none = o
            rw [show 7 = k + (7 - k) by omega, fo_add, ← ho, Nat.zero_add]
            refine fo_id (7 - k) k (fun j h1 h2 => if_neg ?_)
            by_cases w : j < k1
            · rw [e3 j h1 w]; decide
            · rw [hhi j (by omega) (by omega)]; decide
          refine ⟨1, stI σ' 117 d (nI k1), by omega, fun fu => ?_, hu.trans (Un.stI _ _ _ _ (Or.inl rfl)), fun j hj => by rw [rI_nj _ _ (by omega)]; exact hp' j hj, fun j hj => by rw [rI_ne _ _ (by omega)]; exact h118 j hj, fun j hj => by rw [rI_ne _ _ (by omega), hFw]; exact h119 j hj⟩
          rw [hstep]
          unfold b_X12_shortest_204 b_X12_shortest_275
          rw [if_pos (i117 (by omega)), ix_nI (by omega), nam_e, if_pos (show inb 0 (kLen 113) = true from i113 (n := 0) (by omega)), rI_ne _ _ (by omega), hg', if_pos (show nI k1 = g (ix 0) from g0.symm), nam_e, hFw]
        · have hk7 : k1 < 7 := by omega
          have hbit := e4 (by omega)
          have hr := rm_bits x hx k1 hk7 hbit
          have hpw := two_pow_pos' k1
          have hw := wN_le (H (cuT p d)) (H k1)
          have u8 : Un Px σ' (stI (stI (stI σ' 117 d (nI k1)) 118 (d + 1) (nI (h + 1 + wN (H (cuT p d)) (H k1)))) 117 (d + 1) (-1)) := ((Un.stI σ' 117 d _ (Or.inl rfl)).trans (Un.stI _ 118 (d + 1) _ (Or.inr (Or.inl rfl)))).trans (Un.stI _ 117 (d + 1) _ (Or.inl rfl))
          obtain ⟨Nc, τc, n1, n2, n3, n4, n5, n6⟩ := ih (d + 1) (x - 2 ^ k1) (h + 1 + wN (H (cuT p d)) (H k1)) (bsT b h o) (fun e => if e = d then k1 else p e) (stI (stI (stI σ' 117 d (nI k1)) 118 (d + 1) (nI (h + 1 + wN (H (cuT p d)) (H k1)))) 117 (d + 1) (-1)) (by omega) (by have := ct_rm x hx k1 hk7 hbit; omega) (by omega) (fun j hj => by
            rw [rm_bit2 x hx k1 hk7 hbit j hj, hxs j hj, bz_upd, bit_or (bz p d) (by omega) (by omega), Bool.and_assoc]
            congr 1
            by_cases w : j = k1
            · rw [if_pos w, decide_eq_false (show ¬ j ≠ k1 from fun z => z w), Bool.and_false]
              rfl
            · rw [if_neg w, decide_eq_true (show j ≠ k1 from w), Bool.and_true]) (Px_w u8 hg') (fun j hj => by
            by_cases w : j = d
            · subst w
              rw [rI_nj _ _ (by omega), rI_ne _ _ (by omega), rI_eq, if_pos rfl]
            · rw [rI_nj _ _ (by omega), rI_ne _ _ (by omega), rI_nj _ _ w, if_neg w]
              exact hp' j (by omega)) (fun j hj => by
            by_cases w : j = d
            · rw [if_pos w]; omega
            · rw [if_neg w]; exact hpa j (by omega)) (by rw [rI_ne _ _ (by omega), rI_eq]) (rI_eq _ _ _ _) (by omega) (Nat.le_trans (bsT_le _ _ _) hb)
          have hcu : cuT (fun e => if e = d then k1 else p e) (d + 1) = k1 := by
            unfold cuT
            rw [if_neg (by omega), Nat.add_sub_cancel]
            exact if_pos rfl
          have hfw : h + 1 + wN (H (cuT p d)) (H k1) + dW H 128 (x - 2 ^ k1) k1 = h + fW H x (cuT p d) k1 := by
            unfold fW; omega
          rw [hcu, hfw] at n2 n6
          have ho1 : oS o k1 (fW H x (cuT p d) k1) = fo (bsW x (fW H x (cuT p d))) 0 (k1 + 1) none := by
            rw [fo_last, Nat.zero_add, show fo (bsW x (fW H x (cuT p d))) 0 k1 none = o by
              rw [show k1 = k + (k1 - k) by omega, fo_add, ← ho, Nat.zero_add]
              exact fo_id (k1 - k) k (fun j h1 h2 => if_neg (by rw [e3 j h1 (by omega)]; decide))]
            exact (if_pos hbit).symm
          have r118 : ∀ j, j ≤ d → rI τc 118 j = rI σ 118 j := fun j hj => by
            rw [n5 j (by omega), rI_ne _ _ (by omega), rI_nj _ _ (by omega), rI_ne _ _ (by omega)]
            exact h118 j hj
          obtain ⟨N', τ, f1, f2, f3, f4, f5, f6⟩ := iht (k1 + 1) (oS o k1 (fW H x (cuT p d) k1)) τc (by omega) (by omega) ho1 (by rw [n4 d (by omega), if_pos rfl, nI_1]) (fun j hj => by rw [n4 j (by omega), if_neg (by omega)]) r118 (fun j hj => by
            rw [n6 j hj, rwT_S]
            by_cases w : h + fW H x (cuT p d) k1 < bsT b h o
            · rw [if_pos w, if_pos w]
              congr 1
              by_cases z1 : j < d
              · rw [if_pos (by omega), if_neg (by omega), if_pos z1]
              · by_cases z2 : j = d
                · rw [if_pos (by omega), if_pos z2, if_neg z1, if_pos z2]
                · rw [if_neg (by omega), if_neg z1, if_neg z2]
            · rw [if_neg w, if_neg w, rI_ne _ _ (by omega), rI_ne _ _ (by omega), rI_ne _ _ (by omega)]
              exact h119 j hj) ((hu.trans u8).trans n3)
          refine ⟨1 + Nc + N', τ, ?_, fun fu => ?_, f3, f4, f5, f6⟩
          · have hct : ctB x k (7 - k) = 1 + ctB x (k1 + 1) (7 - (k1 + 1)) := by
              rw [show 7 - k = (k1 - k) + ((7 - (k1 + 1)) + 1) by omega, ct_skip x (k1 - k) k _ (fun j h1 h2 => e3 j h1 (by omega)), show k + (k1 - k) = k1 by omega, ctB_s, if_pos hbit]
            rw [hct, Nat.add_mul, Nat.one_mul]
            omega
          · rw [show fu + (1 + Nc + N') = (fu + N' + Nc) + 1 by omega, hstep]
            have e0 : g 0 = nI a := g0
            have hka : ¬ nI k1 = g (ix 0) := fun z => q (nIinj (by omega) (by omega) (z.trans g0))
            have i11 : inb (11 + nI k1) (kLen 113) = true := by rw [L11, nI_add]; exact i113 (by omega)
            have hw1 : rI (stI σ' 117 d (nI k1)) 113 = g := by rw [← hg']; exact funext (fun j => rI_ne _ _ (by omega))
            have hHk : rI (stI σ' 117 d (nI k1)) 113 (ix (11 + nI k1)) = nI (H k1) := by rw [hw1, L11, nI_add, ix_nI (by omega)]; exact gH k1 (by omega)
            have h18 : rI (stI σ' 117 d (nI k1)) 118 d = nI h := by rw [rI_ne _ _ (by omega), h118 d (Nat.le_refl _)]; exact hh
            unfold b_X12_shortest_204 b_X12_shortest_275
            rw [if_pos (i117 (show d < 8 by omega)), ix_nI (by omega), nam_e, if_pos (show inb 0 (kLen 113) = true from i113 (n := 0) (by omega)), hw1, if_neg hka, if_pos (i118 (show d < 8 by omega)), if_pos i11, nI_1, if_pos (i118 (show d + 1 < 8 by omega)), ix_nI (by omega), ← hw1, hHk, h18, way_r (h12 _) (h12 _), nI_1, nI_add, nam_e, nam_e, if_pos (i117 (show d + 1 < 8 by omega)), nam_e, ix_nI (show d + 1 < 2 ^ 31 by omega), n2 (fu + N'), ← bsT_S, pk_m1]
            exact f2 fu
    obtain ⟨N, τ, n1, n2, n3, n4, n5, n6⟩ := inner a 0 none σ (by omega) (by omega) rfl (by rw [ht]; rfl) hp (fun _ _ => rfl) (fun _ _ => rfl) Un.rf
    obtain ⟨q, hq⟩ := Fw_some (H := H) (cuT p d) hx hx0
    have hD : dW H 128 x (cuT p d) = q.2 := by rw [D_eq H (cuT p d) hx, hq]
    have hkF : kF H x (cuT p d) = q.1 := by unfold kF; rw [hq]
    rw [hq] at n2 n6
    refine ⟨N, τ, ?_, fun fu => ?_, n3, n4, n5, fun j hj => ?_⟩
    · rw [show ctB x 0 (7 - 0) = m + 1 from hc] at n1
      exact n1
    · rw [hD]; exact n2 fu
    · rw [n6 j hj, hD]
      show (if h + q.2 < b then nI (if j < d then p j else if j = d then q.1 else pth H (j - (d + 1)) (x - 2 ^ q.1) q.1) else rI σ 119 j) = _
      by_cases w : h + q.2 < b
      · rw [if_pos w, if_pos w]
        congr 1
        by_cases z1 : j < d
        · rw [if_pos z1, if_pos z1]
        · rw [if_neg z1, if_neg z1]
          by_cases z2 : j = d
          · rw [if_pos z2, z2, Nat.sub_self, ← hkF]
            rfl
          · rw [if_neg z2, ← hkF, show j - d = (j - (d + 1)) + 1 by omega]
            rfl
      · rw [if_neg w, if_neg w]
theorem shortest_r {a s : Nat} {g : Nat → Int32} {H : Nat → Nat} {σ : Sg} (ha : a ≤ 7) (g0 : g 0 = nI a) (gH : ∀ k, k < a → g (11 + k) = nI (H k)) (h12 : ∀ j, H j ≤ 11) (H7 : H 7 = 0) (hsa : ∀ k, k < 7 → a ≤ k → hB s k = false) (hs : s < 128) (hg : rI σ 113 = g) : ∃ τ, f_X12_shortest σ (nI s) = some (nI (dW H 128 s 7), τ) ∧ Un Px σ τ ∧ ∀ j, j < ctB s 0 7 → rI τ 119 j = nI (pth H j s 7) := by
  have hM := (ct_pos s hs).1
  have u1 : Un Px σ (stI (stI σ 117 0 (-1)) 118 0 0) := (Un.stI σ 117 0 _ (Or.inl rfl)).trans (Un.stI _ 118 0 _ (Or.inr (Or.inl rfl)))
  have hB0 : ∀ k, k < 7 → f_X12_has 0 (nI k) = 0 := by decide +kernel
  obtain ⟨N, τ, n1, n2, n3, n4, n5, n6⟩ := node ha g0 gH h12 H7 hsa hM (ctB s 0 7) 0 s 0 1000000 (fun _ => 0) (stI (stI σ 117 0 (-1)) 118 0 0) (by omega) rfl hs (fun k hk => by
    rw [show f_X12_has (bz (fun _ => 0) 0) (nI k) = 0 from hB0 k hk, decide_eq_true rfl, Bool.and_true]) (Px_w u1 hg) (fun j hj => absurd hj (by omega)) (fun j hj => absurd hj (by omega)) (by rw [rI_eq]; rfl) (by rw [rI_ne _ _ (by omega), rI_eq]) (by omega) (by omega)
  have hBN : ∀ m, m < 8 → BN m < 100000 := by decide +kernel
  have hb := hBN (ctB s 0 7) (by omega)
  have hD := dW_le H 128 s 7
  have hc7 : cuT (fun _ => 0) 0 = 7 := rfl
  rw [hc7, if_pos (show 0 + dW H 128 s 7 < 1000000 by omega), Nat.zero_add] at n2
  refine ⟨τ, ?_, u1.trans n3, fun j hj => ?_⟩
  · obtain ⟨fu, hfu⟩ : ∃ fu, FU = (fu + 1) + N := ⟨FU - N - 1, by unfold FU; omega⟩
    have e1 : b_X12_shortest_25 (nI s) FU (stI (stI σ 117 0 (-1)) 118 0 0) (nI (ctB s 0 7)) 1000000 0 = some (nI (dW H 128 s 7), τ) := by
      rw [hfu]
      refine (n2 (fu + 1)).trans ?_
      rw [b_X12_shortest_25, if_pos (show nI 0 + -1 < 0 by decide)]
    unfold f_X12_shortest
    rw [ct_ones s hs, ob_some, if_pos (show inb 0 (kLen 117) = true from i117 (n := 0) (by omega)), nam_e, if_pos (show inb 0 (kLen 118) = true from i118 (n := 0) (by omega)), nam_e]
    exact e1
  · rw [n6 j hj, hc7, if_pos (show 0 + dW H 128 s 7 < 1000000 by omega), if_neg (by omega), Nat.sub_zero]
theorem m_round {σ : Sg} (h : Inv σ) (v1 v2 : Int32) : Sim (fun s => f_X11_round s v1 v2) (fun s => f_X12_round s v1 v2) σ := by
  by_cases q0 : v1 = 0
  · refine ref_bad h (-10) id ?_ (fun τ ht => ?_)
    · show f_X11_round σ v1 v2 = _
      unfold f_X11_round; rw [if_pos q0]; rfl
    · show f_X12_round τ v1 v2 = _
      unfold f_X12_round
      rw [areK_r, ob_some, if_pos q0]
      split <;> rfl
  by_cases q1 : f_X11_between v1 0 ((1 <<< (rI σ 113 0 &&& 31)) - 1) = 0
  · refine ref_bad h (-10) id ?_ (fun τ ht => ?_)
    · show f_X11_round σ v1 v2 = _
      unfold f_X11_round; rw [if_neg q0, hasS_c h, if_pos q1]; rfl
    · show f_X12_round τ v1 v2 = _
      unfold f_X12_round; rw [areK_r, ht 113 0 (by omega), ob_some, if_pos q1]; rfl
  by_cases q2 : (-1 : Int32) ≤ v2
  rotate_left
  · refine ref_bad h (-10) id ?_ (fun τ ht => ?_)
    · show f_X11_round σ v1 v2 = _
      unfold f_X11_round; rw [if_neg q0, hasS_c h, if_neg q1, if_neg q2]; rfl
    · show f_X12_round τ v1 v2 = _
      unfold f_X12_round; rw [areK_r, ht 113 0 (by omega), ob_some, if_neg q1, if_neg q0, if_neg q2]; rfl
  obtain ⟨a, b, c, d, e, u, hn, hw, hr⟩ := h.1
  obtain ⟨⟨n0, ha⟩, _⟩ := hn
  have q1' := q1
  rw [n0] at q1'
  obtain ⟨s, hs, rfl⟩ := hs_of ha q1'
  have hp7 : 2 ^ a ≤ 2 ^ 7 := Nat.pow_le_pow_right (by omega) ha
  have hs128 : s < 128 := by omega
  have hs0 : s ≠ 0 := fun z => q0 (by rw [z]; rfl)
  obtain ⟨r1, r2, r3, r4, r5, r6, r7, r8, r9, r10, r11, r12⟩ := hr
  have hH : ∃ H : Nat → Nat, (∀ k, k < a → rI σ 113 (11 + k) = nI (H k)) ∧ (∀ j, H j ≤ 11) ∧ ∀ j, a ≤ j → H j = 0 := by
    refine ⟨fun k => if k < a then (rI σ 113 (11 + k)).toInt.toNat else 0, fun k hk => ?_, fun j => ?_, fun j hj => if_neg (by omega)⟩
    · obtain ⟨x, _, x2, x3⟩ := (hw.1 k hk).2.1
      show _ = nI (if k < a then _ else 0)
      rw [if_pos hk, x3, tN (by omega)]
      rfl
    · show (if j < a then _ else 0) ≤ 11
      by_cases w : j < a
      · obtain ⟨x, _, x2, x3⟩ := (hw.1 j w).2.1
        rw [if_pos w, x3, tN (by omega)]
        exact x2
      · rw [if_neg w]; omega
  obtain ⟨H, gH, h12, hH0⟩ := hH
  have hsa : ∀ k, k < 7 → a ≤ k → hB s k = false := fun k h1 h2 => decide_eq_false (fun z => z (has_out a (by omega) s hs k h1 h2))
  have hbc : f_J6_bitCount_0f7a4 (nI s) = nI (ctB s 0 7) := Option.some.inj ((ones_bc s hs128).symm.trans (ct_ones s hs128))
  have hc7 := ct_pos s hs128
  by_cases q3 : v2 < nI (ctB s 0 7)
  · obtain ⟨s1, T, a1, b1, b2, b3, b4, c1⟩ := plan_c (s := s) ha gH hH0 h12 hs128 r2
    have hP : Un Pc σ s1 := c1.un (fun a j p q => by unfold Pc; omega)
    have hg1 : rI s1 113 = rI σ 113 := funext (fun j => (c1 113 (by omega)).1 j)
    obtain ⟨s2, a2, c2, a3⟩ := shortest_r ha n0 gH h12 (hH0 7 ha) hsa hs128 hg1
    have hI : Inv s2 := Inv_pass h (hP.trans (c2.mono (fun a j q => by unfold Px at q; unfold Pc; omega)))
    have hmS : mS s s 7 = true := by
      unfold mS
      rw [if_pos rfl, decide_eq_true rfl]
    by_cases q4 : v2 = -1
    · refine ⟨nI (dW H 128 s 7), s1, s2, ?_, ?_, hI⟩
      · show f_X11_round σ (nI s) v2 = _
        unfold f_X11_round f_X10_hours f_X10_hoursFrom
        rw [if_neg q0, hasS_c h, if_neg q1, if_pos q2, hbc, if_pos q3, a1, ob_some, if_pos q4, b3, L8, L7, pk_mul, nI_add, at_in b2 (by omega), ob_some, ob_some, ob_some, b4 s 7 (Nat.le_refl _) (by omega) (Or.inl (by omega)) hmS]
      · show f_X12_round s1 (nI s) v2 = _
        unfold f_X12_round
        rw [areK_r, hg1, ob_some, if_neg q1, if_neg q0, if_pos q2, a2, bnd_some, if_pos q4]
    · have hi : ∃ i, i < ctB s 0 7 ∧ v2 = nI i := by
        rw [li_le] at q2
        rw [li_lt, tN (by omega)] at q3
        have e1 : (-1 : Int32).toInt = -1 := rfl
        have q5 : v2.toInt ≠ -1 := fun z => q4 ((li_eq _ _).mpr (z.trans e1.symm))
        rw [e1] at q2
        exact nIof (by omega) q3
      obtain ⟨i, hi1, rfl⟩ := hi
      refine ⟨nI (pth H i s 7), s1, s2, ?_, ?_, hI⟩
      · show f_X11_round σ (nI s) (nI i) = _
        unfold f_X11_round f_X10_visited
        rw [if_neg q0, hasS_c h, if_neg q1, if_pos q2, hbc, if_pos q3, a1, ob_some, if_neg q4, b3, nam_e, show b_X10_visited_11 s1 (nI i) FU (nI s) 7 0 = _ from visit_loop (i := i) b1 h12 b2 hs128 b4 (by omega) (i + 1) 0 FU s 7 (by omega) (by unfold FU; omega) (Nat.le_refl _) (by omega) hmS (by omega), ob_some, if_neg (show ¬ i + 1 = 0 by omega), Nat.add_sub_cancel]
      · show f_X12_round s1 (nI s) (nI i) = _
        unfold f_X12_round
        rw [areK_r, hg1, ob_some, if_neg q1, if_neg q0, if_pos q2, a2, bnd_some, if_neg q4, ct_ones s hs128, ob_some, if_neg (nI_ge hi1 (by omega)), if_pos (i119 (by omega)), ix_nI (by omega), a3 i hi1]
  · obtain ⟨s2, a2, c2, a3⟩ := shortest_r ha n0 gH h12 (hH0 7 ha) hsa hs128 (σ := σ) rfl
    refine ⟨-5, σ, s2, ?_, ?_, Inv_pass h (c2.mono (fun a j q => by unfold Px at q; unfold Pc; omega))⟩
    · show f_X11_round σ (nI s) v2 = _
      unfold f_X11_round
      rw [if_neg q0, hasS_c h, if_neg q1, if_pos q2, hbc, if_neg q3]
    · show f_X12_round σ (nI s) v2 = _
      have q4 : ¬ v2 = -1 := fun z => q3 (by
        rw [z, li_lt, tN (by omega)]
        show (-1 : Int) < _
        omega)
      unfold f_X12_round
      rw [areK_r, ob_some, if_neg q1, if_neg q0, if_pos q2, a2, bnd_some, if_neg q4, ct_ones s hs128, ob_some, if_pos (Int32.not_lt.mp q3)]
