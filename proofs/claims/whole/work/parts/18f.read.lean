/-! ===== read ===== -/
def Pf (a j : Nat) : Prop := (a = 112 ∧ 6 ≤ j) ∨ (a = 113 ∧ (j < 241 ∨ 723 ≤ j))
theorem Pe_Pf {σ τ : Sg} (h : Un Pe σ τ) : Un Pf σ τ := h.mono (fun a j q => by unfold Pe at q; unfold Pf; omega)
def RdOut (n : Nat) (T : Nat → Int32) (σ : Sg) (p : Nat) (g : Nat → Int32) (X : Option (Int32 × Sg)) (Y : Sg → Option (Int32 × Sg)) : Prop :=
  (∃ e σ', e ≤ n ∧ X = some (-10 - nI e, σ') ∧ Only 69 94 σ σ' ∧ ∀ τ, RS n T τ g (sk n T blB p) → rI τ 112 8 = nI (sk n T blB p) → ∃ υ, Y τ = some (-10 - nI e, υ) ∧ Un Pe τ υ) ∨
  (∃ k σ' g' a' b', k < 1000 ∧ X = some (nI k, σ') ∧ TG σ' g' a' b' ∧ Only 69 94 σ σ' ∧ ∀ τ, RS n T τ g (sk n T blB p) → rI τ 112 8 = nI (sk n T blB p) → ∃ υ, Y τ = some (nI k, υ) ∧ (∀ j, j < 241 → rI υ 113 j = g' j) ∧ Un Pf τ υ)
theorem rd_stop {n p it a b fu fu' : Nat} {T : Nat → Int32} {g : Nat → Int32} {σ : Sg} (hn : n ≤ 150) (hp : p ≤ n) (hit : it ≤ p) (hI : IT n T σ p it g a b) (h0 : it ≠ 0) (hq : n ≤ sk n T blB p) : RdOut n T σ p g (b_X8_readMarket_25 (fu + 1) σ 1 (nI it)) (fun τ => b_X12_read_20 (fu' + 1) τ (nI it) 1) := by
  obtain ⟨hr, hC, h8, ht⟩ := hI
  have h3 : rI σ 69 3 = 0 := hC.1.trans (if_pos hq)
  have e69 : b_X8_readMarket_69 σ 1 = some (nI it, σ) := by
    unfold b_X8_readMarket_69
    rw [if_neg (show ¬ (1 : Int32) = 0 by decide), h8]
  refine Or.inr ⟨it, σ, g, a, b, by omega, ?_, ht, Only.rf, fun τ hτ hs => ?_⟩
  · rw [b_X8_readMarket_25, h8, if_neg (show ¬ (1 : Int32) = 0 by decide), if_neg (show ¬ nI it = 0 from nI_ne0 (by omega) (by omega)), h3, if_pos rfl, e69]
    split <;> rfl
  · obtain ⟨υ, k1, k2, k3⟩ := copy_r τ 723 0 (by omega) (by omega) (by omega)
    refine ⟨υ, ?_, fun j hj => ?_, k3.mono (fun a j q => by unfold Pf; omega)⟩
    · show b_X12_read_20 (fu' + 1) τ (nI it) 1 = _
      unfold b_X12_read_20 b_X12_read_67
      rw [if_neg (show ¬ (1 : Int32) = 0 by decide), hs, hτ.1.1, if_neg (nI_nlt hq (by have := (sk_le T blB hp).2; omega)), if_neg (show ¬ nI it = 0 from nI_ne0 (by omega) (by omega)), if_neg (show ¬ (1 : Int32) = 0 by decide), show f_X12_copy τ 723 0 = some υ from k1, ob_some]
    · rw [k2, if_pos (by omega), Nat.sub_zero]
      exact hτ.2.2 j
/-- one more item, or the fault in it -/
theorem rd_one {n p it a b fu fu' : Nat} {T : Nat → Int32} {g : Nat → Int32} {σ : Sg} (hn : n ≤ 150) (hp : p ≤ n) (hit : it ≤ p) (hI : IT n T σ p it g a b) (hc : it = 0 ∨ sk n T blB p < n) : RdOut n T σ p g (b_X8_readMarket_25 (fu + 2) σ 1 (nI it)) (fun τ => b_X12_read_20 (fu' + 2) τ (nI it) 1) ∨ ∃ s'' g' a' b' p', p < p' ∧ p' ≤ n ∧ IT n T s'' p' (it + 1) g' a' b' ∧ Only 69 94 σ s'' ∧ b_X8_readMarket_25 (fu + 2) σ 1 (nI it) = b_X8_readMarket_25 (fu + 1) s'' 1 (nI (it + 1)) ∧ ∀ τ, RS n T τ g (sk n T blB p) → rI τ 112 8 = nI (sk n T blB p) → ∃ τ2, b_X12_read_20 (fu' + 2) τ (nI it) 1 = b_X12_read_20 (fu' + 1) τ2 (nI (it + 1)) 1 ∧ RS n T τ2 g' (sk n T blB p') ∧ rI τ2 112 8 = nI (sk n T blB p') ∧ Un Pe τ τ2 := by
  obtain ⟨hr, hC, h8, ht⟩ := id hI
  obtain ⟨q1, q2⟩ := sk_le T blB hp
  have hlt : it < 150 := by
    rcases hc with hc | hc
    · omega
    · omega
  have e50 : b_X8_readMarket_25 (fu + 2) σ 1 (nI it) = b_X8_readMarket_50 (b_X8_readMarket_25 (fu + 1)) σ (nI it) := by
    rw [b_X8_readMarket_25, if_neg (show ¬ (150 : Int32) ≤ nI it from nI_ge (b := 150) hlt (by omega)), if_neg (show ¬ (1 : Int32) = 0 by decide), h8]
    by_cases z : it = 0
    · rw [if_pos (show nI it = 0 by rw [z]; rfl)]
    · rw [if_neg (show ¬ nI it = 0 from nI_ne0 (by omega) (by omega)), if_neg (by rw [hC.1]; exact tk_0 (hc.resolve_left z))]
  have e39 : ∀ τ, RS n T τ g (sk n T blB p) → rI τ 112 8 = nI (sk n T blB p) → b_X12_read_20 (fu' + 2) τ (nI it) 1 = b_X12_read_49 (b_X12_read_20 (fu' + 1)) τ (nI it) (if it = 0 then 1 else 0) := fun τ hτ hs => by
    have e : b_X12_read_20 (fu' + 2) τ (nI it) 1 = b_X12_read_39 (b_X12_read_20 (fu' + 1)) τ (nI it) := by
      rw [b_X12_read_20, if_neg (show ¬ (1 : Int32) = 0 by decide), hs, hτ.1.1]
      by_cases z : sk n T blB p < n
      · rw [if_pos (nI_lt z (by omega))]
      · rw [if_neg (nI_nlt (by omega) (by omega)), if_pos (show nI it = 0 by rw [hc.resolve_right z]; rfl)]
    rw [e]
    unfold b_X12_read_39
    by_cases z : it = 0
    · rw [if_pos (show nI it = 0 by rw [z]; rfl), if_pos z]
    · rw [if_neg (show ¬ nI it = 0 from nI_ne0 (by omega) (by omega)), if_neg z]
  rcases res_item hn hI (by omega) hp with ⟨e, s', f1, f2, f3, f4, f5⟩ | ⟨s', s'', g', a', b', p', f1, f2, f3, f4, f5, f6, f7⟩
  · refine Or.inl (Or.inl ⟨e, s', f1, ?_, f4, fun τ hτ hs => ?_⟩)
    · rw [e50]
      unfold b_X8_readMarket_50 b_X8_readMarket_63
      rw [f2, bnd_some, if_pos rfl, nam_e]
      unfold b_X8_readMarket_25 b_X8_readMarket_69
      rw [if_pos rfl, if_pos rfl, f3]
      split <;> rfl
    · obtain ⟨υ, k1, k2, k3⟩ := f5 τ hτ
      refine ⟨υ, ?_, k3⟩
      show b_X12_read_20 (fu' + 2) τ (nI it) 1 = _
      rw [e39 τ hτ hs]
      unfold b_X12_read_49
      rw [k1, bnd_some, nam_e, if_pos rfl]
      unfold b_X12_read_20 b_X12_read_67
      rw [if_pos rfl, if_pos rfl, k2]
  · refine Or.inr ⟨s'', g', a', b', p', f4, f5, f3, f6, ?_, fun τ hτ hs => ?_⟩
    · rw [e50]
      unfold b_X8_readMarket_50 b_X8_readMarket_63
      rw [f1, bnd_some, if_neg (show ¬ (1 : Int32) = 0 by decide), f2, ob_some, nam_e, nI_1]
    · obtain ⟨υ, k1, k2, k3⟩ := f7 τ hτ
      obtain ⟨υ2, m1, m2, m3, m4⟩ := blanks_r hn k2.1 k2.2.1 f5
      refine ⟨υ2, ?_, RS_b k2 m4 m2, m3, k3.trans (Pb_Pe m4)⟩
      rw [e39 τ hτ hs]
      unfold b_X12_read_49
      rw [k1, bnd_some, nam_e, if_neg (show ¬ (1 : Int32) = 0 by decide), m1, ob_some, nI_1]
theorem rd_loop {n : Nat} {T : Nat → Int32} (hn : n ≤ 150) : ∀ (d p it a b fu fu' : Nat) (g : Nat → Int32) (σ : Sg), n ≤ p + d → d + 1 < fu → d + 1 < fu' → p ≤ n → it ≤ p → IT n T σ p it g a b → RdOut n T σ p g (b_X8_readMarket_25 fu σ 1 (nI it)) (fun τ => b_X12_read_20 fu' τ (nI it) 1) := by
  intro d
  induction d with
  | zero =>
    intro p it a b fu fu' g σ hd hf hf' hp hit hI
    obtain ⟨fu, rfl⟩ : ∃ q, fu = q + 2 := ⟨fu - 2, by omega⟩
    obtain ⟨fu', rfl⟩ : ∃ q, fu' = q + 2 := ⟨fu' - 2, by omega⟩
    have hpn : p = n := by omega
    have hsk := sk_le T blB hp
    by_cases h0 : it = 0
    · rcases rd_one (fu := fu) (fu' := fu') hn hp hit hI (Or.inl h0) with h | ⟨s'', g', a', b', p', h1, h2, h3, h4⟩
      · exact h
      · omega
    · exact rd_stop hn hp hit hI h0 (by omega)
  | succ d ih =>
    intro p it a b fu fu' g σ hd hf hf' hp hit hI
    obtain ⟨fu, rfl⟩ : ∃ q, fu = q + 2 := ⟨fu - 2, by omega⟩
    obtain ⟨fu', rfl⟩ : ∃ q, fu' = q + 2 := ⟨fu' - 2, by omega⟩
    have hsk := sk_le T blB hp
    by_cases hc : it = 0 ∨ sk n T blB p < n
    · rcases rd_one (fu := fu) (fu' := fu') hn hp hit hI hc with h | ⟨s'', g', a', b', p', h1, h2, h3, h4, h5, h6⟩
      · exact h
      · rcases ih p' (it + 1) a' b' (fu + 1) (fu' + 1) g' s'' (by omega) (by omega) (by omega) h2 (by omega) h3 with ⟨e, σ', y1, y2, y3, y4⟩ | ⟨k, σ', g2, a2, b2, y0, y1, y2, y3, y4⟩
        · refine Or.inl ⟨e, σ', y1, h5.trans y2, h4.trans y3, fun τ hτ hs => ?_⟩
          obtain ⟨τ2, z1, z2, z3, z4⟩ := h6 τ hτ hs
          obtain ⟨υ, x1, x2⟩ := y4 τ2 z2 z3
          exact ⟨υ, z1.trans x1, z4.trans x2⟩
        · refine Or.inr ⟨k, σ', g2, a2, b2, y0, h5.trans y1, y2, h4.trans y3, fun τ hτ hs => ?_⟩
          obtain ⟨τ2, z1, z2, z3, z4⟩ := h6 τ hτ hs
          obtain ⟨υ, x1, x2, x3⟩ := y4 τ2 z2 z3
          exact ⟨υ, z1.trans x1, x2, (Pe_Pf z4).trans x3⟩
    · exact rd_stop hn hp hit hI (fun z => hc (Or.inl z)) (Nat.not_lt.mp (fun z => hc (Or.inr z)))
theorem neg_e {e : Nat} (he : e ≤ 150) : (-10 : Int32) - nI e < 0 := by
  have e1 : (-10 : Int32).toInt = -10 := rfl
  have e0 : (0 : Int32).toInt = 0 := rfl
  rw [li_lt, tsub (by rw [e1, tN (by omega)]; omega) (by rw [e1, tN (by omega)]; omega), e1, tN (by omega), e0]
  omega
theorem m_read {σ : Sg} (h : Inv σ) : Sim f_X11_read f_X12_read σ := by
  obtain ⟨n, hn, x1, x2, x3⟩ := h.2.1
  obtain ⟨s1, a1, b1, c1⟩ := restart_M σ 70
  have o2 : Only 69 70 s1 (stI (stI s1 69 8 0) 69 5 0) := (Only.stI s1 69 8 0).trans (Only.stI _ 69 5 0)
  generalize hs2 : stI (stI s1 69 8 0) 69 5 0 = s2 at o2
  have r2 : rowIs s2 67 n (rI σ 115) := (x2.keep c1 (by omega)).keep o2 (by omega)
  obtain ⟨s3, a3, b3, b4, c3⟩ := step_c (p := 0) hn r2 (by rw [← hs2, rI_eq]; rfl) (by omega)
  have c13 : Only 69 94 σ s3 := ((c1.mono (by omega) (by omega)).trans (o2.mono (by omega) (by omega))).trans (c3.mono (by omega) (by omega))
  have hTG : TG s3 (fun j => if j < 241 then 0 else rI σ 113 (723 + j)) 0 0 := by
    obtain ⟨a, b, c, d, e, u, hnm, hwf, hrw⟩ := (b1.keep o2 (by omega)).keep c3 (by omega)
    obtain ⟨⟨n0, ha⟩, ⟨n1, hb⟩, ⟨n2, hc⟩, ⟨n3, hd⟩, ⟨n4, he⟩, n5, hu⟩ := id hnm
    have z : ∀ k, k < 1000 → (0 : Int32) = nI k → k = 0 := fun k hk y => (nIinj (a := 0) (by omega) (by omega) y).symm
    have ea := z a (by omega) n0
    have eb := z b (by omega) n1
    have ec := z c (by omega) n2
    have ed := z d (by omega) n3
    have ee := z e (by omega) n4
    have eu := z u (by omega) n5
    subst ea eb ec ed ee eu
    have hg : ∀ j, j < 241 → (fun _ => (0 : Int32)) j = (fun j => if j < 241 then (0 : Int32) else rI σ 113 (723 + j)) j := fun j hj => (if_pos hj).symm
    exact ⟨hnm.cong hg, hwf.cong (by omega) (by omega) (by omega) (by omega) (by omega) hg, hrw.cong (by omega) (by omega) (by omega) (by omega) (by omega) (by omega) hg⟩
  have hIT : IT n (rI σ 115) s3 0 0 (fun j => if j < 241 then 0 else rI σ 113 (723 + j)) 0 0 := ⟨r2.keep c3 (by omega), b3, by rw [b4 8 (by omega), ← hs2, rI_nj _ _ (by omega), rI_eq]; rfl, hTG⟩
  have hout := rd_loop hn n 0 0 0 0 FU FU (fun j => if j < 241 then 0 else rI σ 113 (723 + j)) s3 (by omega) (by unfold FU; omega) (by unfold FU; omega) (by omega) (Nat.le_refl _) hIT
  -- the reference's beginning
  have hbeg : ∀ τ, rI τ 112 3 = rI σ 112 3 → rI τ 113 = rI σ 113 → rI τ 115 = rI σ 115 → ∃ υ, f_X12_read τ = b_X12_read_20 FU υ (nI 0) 1 ∧ RS n (rI σ 115) υ (fun j => if j < 241 then 0 else rI σ 113 (723 + j)) (sk n (rI σ 115) blB 0) ∧ rI υ 112 8 = nI (sk n (rI σ 115) blB 0) ∧ Un Pe τ υ := by
    intro τ t1 t2 t3
    obtain ⟨w1, d1, d2, d3⟩ := empties_r τ 723 (by omega)
    have u1 : Un Pe τ w1 := d3.mono (fun a j q => by unfold Pe; omega)
    have u2 : Un Pe w1 (stI w1 112 7 0) := Un.stI _ _ _ _ (by unfold Pe; omega)
    have hRK : RK n (rI σ 115) (stI w1 112 7 0) := ⟨by rw [rI_nj _ _ (by omega), (d3 112 3 (by omega)).1, t1]; exact x1, by rw [← t3]; exact funext (fun j => by rw [rI_ne _ _ (by omega), (d3 115 j (by omega)).1])⟩
    obtain ⟨w2, f1, f2, f3, f4⟩ := blanks_r (p := 0) hn hRK (rI_eq _ _ _ _) (by omega)
    refine ⟨w2, ?_, ⟨RK_k hRK f4, f2, fun j => ?_⟩, f3, (u1.trans u2).trans (Pb_Pe f4)⟩
    · unfold f_X12_read
      rw [show f_X12_empties τ 723 = some w1 from d1, ob_some, nam_e, f1, ob_some]
      rfl
    · rw [(f4 113 _ (by unfold Pb; omega)).1, rI_ne _ _ (by omega), d2, t2]
      by_cases w : j < 241
      · rw [if_pos (by omega)]
        exact (if_pos w).symm
      · rw [if_neg (by omega)]
        exact (if_neg w).symm
  have hrm : f_X8_readMarket σ = b_X8_readMarket_25 FU s3 1 (nI 0) := by
    unfold f_X8_readMarket
    rw [a1, ob_some, nam_e, nam_e, hs2, a3, ob_some]
    rfl
  rcases hout with ⟨e, σ', y1, y2, y3, y4⟩ | ⟨k, σ', g2, a2, b2, y0, y1, y2, y3, y4⟩
  · have c14 : Only 69 94 σ σ' := c13.trans y3
    obtain ⟨υ0, z1, z2, z3, z4⟩ := hbeg σ' ((c14 112 (by omega)).1 3) (funext (fun j => (c14 113 (by omega)).1 j)) (funext (fun j => (c14 115 (by omega)).1 j))
    obtain ⟨υ, v1, v2⟩ := y4 υ0 z2 z3
    have hu : Un Pe σ' υ := z4.trans v2
    refine ⟨-10 - nI e, σ', υ, ?_, z1.trans v1, ?_⟩
    · unfold f_X11_read
      rw [hrm, y2, bnd_some, if_pos (neg_e (by omega))]
    · exact Inv_pass h ((c14.un (fun a j p q => by unfold Pc; omega)).trans (hu.mono (fun a j q => by unfold Pe at q; unfold Pc; omega)))
  · have c14 : Only 69 94 σ σ' := c13.trans y3
    obtain ⟨s5, e1, e2, e3⟩ := take_M (M := 1) (M' := 70) M1 (by unfold isM; omega) (by omega) (show Rep σ' 70 g2 from ⟨a2, b2, 0, 0, 0, 0, y2.1, y2.2.1, y2.2.2⟩)
    have hP : Un Pk σ s5 := (c14.un (fun a j p q => by unfold Pk; omega)).trans (e3.un (fun a j p q => by unfold Pk; omega))
    have hz : ∀ a, 94 ≤ a → ∀ j, rI s5 a j = rI σ a j := fun a ha j => ((e3 a (by omega)).1 j).trans ((c14 a (by omega)).1 j)
    obtain ⟨υ0, z1, z2, z3, z4⟩ := hbeg s5 (hz 112 (by omega) 3) (funext (fun j => hz 113 (by omega) j)) (funext (fun j => hz 115 (by omega) j))
    obtain ⟨υ, v1, v2, v3⟩ := y4 υ0 z2 z3
    have hu : Un Pf s5 υ := (Pe_Pf z4).trans v3
    refine ⟨nI k, s5, υ, ?_, z1.trans v1, Inv_two h e2 hP (hu.mono (fun a j q => by unfold Pf at q; unfold Pr; omega)) v2⟩
    unfold f_X11_read
    rw [hrm, y1, bnd_some, if_neg (nI_pos (by omega)), e1, ob_some]
