/-! ===== read: moods, balances, days; what may not stand; every item ===== -/
theorem res_mood {n p it a b : Nat} {T : Nat → Int32} {σ : Sg} {g : Nat → Int32} (hn : n ≤ 150) (hI : IT n T σ p it g a b) (hit2 : it < 2 ^ 31) (hp : p ≤ n) (hw : wd n T (sk n T blB p) = 2) (hit : 0 < it) : Res n T σ p it g 0 := by
  have hg0 : g 0 = nI a := hI.2.2.2.1.1.1
  have ha : a ≤ 7 := hI.2.2.2.1.1.2
  refine res_num (D := 2) (w := 2) (lo := fun i => 0) (hi := fun i => if i = 0 then nI a - 1 else 9) (g' := upd g (32 + ix (Vs n T (nx n T (sk n T blB p)) 0)) (Vs n T (nx n T (sk n T blB p)) 1)) (a' := a) (b' := b) 0 hn hI hit2 hp hw (by omega) (by unfold mayW; rw [if_neg (by omega), if_neg (by omega), if_neg (by omega), decide_eq_true hit]; rfl) (by omega) (fun s h => ?_) (fun s h ht i hi => ?_) (fun hc s hv h7 h8 ht => ?_) (fun τ hτ => ?_)
  · unfold f_X8_numbersDue
    rw [h, if_neg (show ¬ wC 2 = 0 by decide), if_neg (show ¬ wC 2 = 1 by decide), if_pos (show wC 2 = 2 from rfl)]
    rfl
  · have hk : f_X3_hasKeeper s 70 (rI s 69 6) = f_X11_between (rI s 69 6) 0 (nI a - 1) := by
      rw [← ht.2.2.1.2.1]; rfl
    unfold f_X8_numberMayStand
    rw [h, nam_e, if_neg (show ¬ wC 2 = 1 by decide), if_pos (show wC 2 = 2 from rfl), hk]
    rcases (show i = 0 ∨ i = 1 by omega) with rfl | rfl
    · rw [if_pos (show nI 0 = 0 from rfl)]; rfl
    · rw [if_neg (show ¬ nI 1 = 0 by decide)]; rfl
  · obtain ⟨e1, e2⟩ := car_7 h7 h8
    obtain ⟨k, hk, v1⟩ := hk_of (by omega) (show ¬ f_X11_between (Vs n T (nx n T (sk n T blB p)) 0) 0 (nI a - 1) = 0 from (hc 0 (by omega)).2)
    obtain ⟨x, _, hx, v2⟩ := btw_of (lo := 0) (hi := 9) (by omega) (show ¬ f_X11_between (Vs n T (nx n T (sk n T blB p)) 1) (nI 0) (nI 9) = 0 from (hc 1 (by omega)).2) (by omega)
    obtain ⟨s6, y1, y2, y3⟩ := mood_rw (TG_8 (nI (it + 1)) ht) hk hx
    refine ⟨s6, ?_, y2, ?_⟩
    · unfold f_X8_carryOut
      rw [e1, nam_e, nam_e, e2, if_neg (show ¬ wC 2 = 1 by decide), if_pos (show wC 2 = 2 from rfl), show f_X7_at (stI s 69 8 (nI (it + 1))) 92 0 = _ from c_at (i := 0) hv (by omega), ob_some, show f_X7_at (stI s 69 8 (nI (it + 1))) 92 1 = _ from c_at (i := 1) hv (by omega), ob_some, v1, v2, y1, ob_some]
    · rw [v1, v2, ix_nI (by omega)]
      exact y3
  · obtain ⟨s1, a1, b1, c1⟩ := head_w 0 hn hp hw (by omega) hτ
    have hxn : nx n T (sk n T blB p) ≤ n := (nx_in T (tk_1 (wd_tk (by rw [hw]; omega))).1).2
    generalize hP : nx n T (sk n T blB p) = P at b1 hxn ⊢
    have e20 : f_X12_readsItem τ 0 = bnd (f_X12_readsMood s1) fun x9 s10 => (if x9 = 0 then b_X12_readsItem_91 0 s10 else b_X12_readsItem_87 0 s10) := by
      rw [a1]
      unfold b_X12_readsItem_20
      rw [if_pos (show (0 : Int32) = if 2 = 0 then 1 else 0 from rfl), if_neg (show ¬ wR 2 = 1 by decide), if_neg (show ¬ wR 2 = 2 by decide), if_pos (show wR 2 = 3 from rfl)]
    have e0 : rI s1 113 (ix 723) = nI a := (show rI s1 113 (723 + 0) = g 0 from b1.2.2 0).trans hg0
    have eK : f_X12_readsMood s1 = bnd (f_X12_takesNumber s1 0 (nI a - 1)) fun x1 s2 => (if x1 = 0 then (some (0, s2)) else nam (rI s2 112 9) fun x3 => bnd (f_X12_takesNumber s2 0 9) fun x4 s5 => (if x4 = 0 then (some (0, s5)) else (if inb (755 + x3) (kLen 113) = true then nam (stI s5 113 (ix (755 + x3)) (rI s5 112 9)) (fun s6 => (some (1, s6))) else none))) := by
      unfold f_X12_readsMood
      rw [if_pos (show inb 723 (kLen 113) = true from i113 (n := 723) (by omega)), e0]
    obtain ⟨u1, k1, k2, k3, k4, _⟩ := num_s 0 (nI a - 1) hn hxn b1
    by_cases c0 : tk n T (sk n T blB P) = 2 ∧ ¬ f_X11_between (vl n T (sk n T blB P)) 0 (nI a - 1) = 0
    rotate_left
    · have fl : ∃ υ, f_X12_readsItem τ 0 = some (0, υ) ∧ rI υ 112 8 = nI (Qs n T P 0) ∧ Un Pe τ υ := ⟨u1, by rw [e20, eK, k1, bnd_some, if_neg c0, if_pos rfl, bnd_some, if_pos rfl, fail_91], k2, c1.trans k4⟩
      refine ⟨fun i hi hj hc => ?_, fun hc => absurd (hc 0 (by omega)) c0⟩
      by_cases z : i = 0
      · subst z; exact fl
      · exact absurd (hj 0 (by omega)) c0
    obtain ⟨r1, w1⟩ := k3 c0.1
    have hx1 : Ps n T P 1 ≤ n := (nx_in T (tk_lt (T := T) (show ¬ tk n T (sk n T blB P) = 0 by rw [c0.1]; decide))).2
    obtain ⟨u2, m1, m2, m3, m4, _⟩ := num_s 0 9 hn hx1 r1
    by_cases c2 : tk n T (sk n T blB (Ps n T P 1)) = 2 ∧ ¬ f_X11_between (vl n T (sk n T blB (Ps n T P 1))) 0 9 = 0
    rotate_left
    · have fl : ∃ υ, f_X12_readsItem τ 0 = some (0, υ) ∧ rI υ 112 8 = nI (Qs n T P 1) ∧ Un Pe τ υ := ⟨u2, by rw [e20, eK, k1, bnd_some, if_pos c0, if_neg (by decide), nam_e, m1, bnd_some, if_neg c2, if_pos rfl, bnd_some, if_pos rfl, fail_91], m2, (c1.trans k4).trans m4⟩
      refine ⟨fun i hi hj hc => ?_, fun hc => absurd (hc 1 (by omega)) c2⟩
      rcases (show i = 0 ∨ i = 1 by omega) with rfl | rfl
      · exact absurd c0 hc
      · exact fl
    obtain ⟨r2, w2⟩ := m3 c2.1
    obtain ⟨k, hk, v1⟩ := hk_of (by omega) c0.2
    have e755 : 755 + vl n T (sk n T blB P) = nI (723 + (32 + k)) := by
      rw [v1, L755, nI_add]
      congr 1
      omega
    have u3 : Un Pe u2 (stI u2 113 (723 + (32 + k)) (vl n T (sk n T blB (Ps n T P 1)))) := Un.stI _ _ _ _ (by unfold Pe; omega)
    refine ⟨fun i hi hj hc => ?_, fun _ => ⟨stI u2 113 (723 + (32 + k)) (vl n T (sk n T blB (Ps n T P 1))), ?_, ⟨⟨by rw [rI_ne _ _ (by omega)]; exact r2.1.1, by rw [← r2.1.2]; exact funext (fun j => rI_ne _ _ (by omega))⟩, by rw [rI_ne _ _ (by omega)]; exact r2.2.1, fun j => ?_⟩, ((c1.trans k4).trans m4).trans u3⟩⟩
    · rcases (show i = 0 ∨ i = 1 by omega) with rfl | rfl
      · exact absurd c0 hc
      · exact absurd c2 hc
    · rw [e20, eK, k1, bnd_some, if_pos c0, if_neg (by decide), nam_e, m1, bnd_some, if_pos c2, if_neg (by decide), w1, w2, e755, if_pos (i113 (by omega)), nam_e, bnd_some, if_neg (by decide), ix_nI (by omega)]
    · show rI (stI u2 113 (723 + (32 + k)) (vl n T (sk n T blB (Ps n T P 1)))) 113 (723 + j) = upd g (32 + ix (vl n T (sk n T blB P))) (vl n T (sk n T blB (Ps n T P 1))) j
      rw [v1, ix_nI (by omega), rI_stI, r2.2.2 j]
      unfold upd
      by_cases z : j = 32 + k
      · rw [if_pos ⟨rfl, by omega⟩, if_pos z]
      · rw [if_neg (by omega), if_neg z]
theorem res_bal {n p it a b : Nat} {T : Nat → Int32} {σ : Sg} {g : Nat → Int32} (hn : n ≤ 150) (hI : IT n T σ p it g a b) (hit2 : it < 2 ^ 31) (hp : p ≤ n) (hw : wd n T (sk n T blB p) = 3) (hit : 0 < it) (hb4 : b < 4) : Res n T σ p it g 0 := by
  have hg1 : g 1 = nI b := hI.2.2.2.1.2.1.1
  refine res_num (D := 1) (w := 3) (lo := fun i => 0) (hi := fun i => 5) (g' := upd (upd g (39 + b) (Vs n T (nx n T (sk n T blB p)) 0)) 1 (nI (b + 1))) (a' := a) (b' := b + 1) 0 hn hI hit2 hp hw (by omega) (by unfold mayW; rw [if_neg (by omega), if_neg (by omega), if_pos rfl, decide_eq_true hit, decide_eq_true hb4]; rfl) (by omega) (fun s h => ?_) (fun s h ht i hi => ?_) (fun hc s hv h7 h8 ht => ?_) (fun τ hτ => ?_)
  · unfold f_X8_numbersDue
    rw [h, if_neg (show ¬ wC 3 = 0 by decide), if_neg (show ¬ wC 3 = 1 by decide), if_neg (show ¬ wC 3 = 2 by decide)]
    rfl
  · unfold f_X8_numberMayStand
    rw [h, nam_e, if_neg (show ¬ wC 3 = 1 by decide), if_neg (show ¬ wC 3 = 2 by decide), if_pos (show wC 3 = 3 from rfl)]
    rfl
  · obtain ⟨e1, e2⟩ := car_7 h7 h8
    obtain ⟨x, _, hx, v1⟩ := btw_of (lo := 0) (hi := 5) (by omega) (show ¬ f_X11_between (Vs n T (nx n T (sk n T blB p)) 0) (nI 0) (nI 5) = 0 from (hc 0 (by omega)).2) (by omega)
    obtain ⟨s6, y1, y2, y3⟩ := bal_rw (TG_8 (nI (it + 1)) ht) hb4 hx
    refine ⟨s6, ?_, y2, ?_⟩
    · unfold f_X8_carryOut
      rw [e1, nam_e, nam_e, e2, if_neg (show ¬ wC 3 = 1 by decide), if_neg (show ¬ wC 3 = 2 by decide), if_pos (show wC 3 = 3 from rfl), show f_X7_at (stI s 69 8 (nI (it + 1))) 92 0 = _ from c_at (i := 0) hv (by omega), ob_some, v1, y1, ob_some]
    · rw [v1]
      exact y3
  · obtain ⟨s1, a1, b1, c1⟩ := head_w 0 hn hp hw (by omega) hτ
    have hxn : nx n T (sk n T blB p) ≤ n := (nx_in T (tk_1 (wd_tk (by rw [hw]; omega))).1).2
    generalize hP : nx n T (sk n T blB p) = P at b1 hxn ⊢
    have e20 : f_X12_readsItem τ 0 = bnd (f_X12_readsBalance s1) fun x7 s8 => (if x7 = 0 then b_X12_readsItem_91 0 s8 else b_X12_readsItem_87 0 s8) := by
      rw [a1]
      unfold b_X12_readsItem_20
      rw [if_pos (show (0 : Int32) = if 3 = 0 then 1 else 0 from rfl), if_neg (show ¬ wR 3 = 1 by decide), if_neg (show ¬ wR 3 = 2 by decide), if_neg (show ¬ wR 3 = 3 by decide), if_pos (show wR 3 = 4 from rfl)]
    have i724 : inb 724 (kLen 113) = true := i113 (n := 724) (by omega)
    have e0 : rI s1 113 (ix 724) = nI b := (show rI s1 113 (723 + 1) = g 1 from b1.2.2 1).trans hg1
    obtain ⟨u1, k1, k2, k3, k4, k5⟩ := num_s 0 5 hn hxn b1
    have e1 : rI u1 113 (ix 724) = nI b := (k5 (ix 724)).trans e0
    by_cases c0 : tk n T (sk n T blB P) = 2 ∧ ¬ f_X11_between (vl n T (sk n T blB P)) 0 5 = 0
    rotate_left
    · have fl : ∃ υ, f_X12_readsItem τ 0 = some (0, υ) ∧ rI υ 112 8 = nI (Qs n T P 0) ∧ Un Pe τ υ := by
        refine ⟨u1, ?_, k2, c1.trans k4⟩
        rw [e20]
        unfold f_X12_readsBalance
        rw [if_pos i724, e0, if_neg (show ¬ nI b = 4 from fun z => absurd (nIinj (b := 4) (by omega) (by omega) z) (by omega)), k1, bnd_some, if_neg c0, if_pos rfl, bnd_some, if_pos rfl, fail_91]
      refine ⟨fun i hi hj hc => ?_, fun hc => absurd (hc 0 (by omega)) c0⟩
      have : i = 0 := by omega
      subst this
      exact fl
    obtain ⟨r1, w1⟩ := k3 c0.1
    have u3 : Un Pe u1 (stI (stI u1 113 (723 + (39 + b)) (vl n T (sk n T blB P))) 113 (723 + 1) (nI (b + 1))) := (Un.stI _ _ _ _ (by unfold Pe; omega)).trans (Un.stI _ _ _ _ (by unfold Pe; omega))
    have e762 : 762 + nI b = nI (723 + (39 + b)) := by
      rw [L762, nI_add]
      congr 1
      omega
    refine ⟨fun i hi hj hc => ?_, fun _ => ⟨stI (stI u1 113 (723 + (39 + b)) (vl n T (sk n T blB P))) 113 (723 + 1) (nI (b + 1)), ?_, ⟨⟨by rw [rI_ne _ _ (by omega), rI_ne _ _ (by omega)]; exact r1.1.1, by rw [← r1.1.2]; exact funext (fun j => by rw [rI_ne _ _ (by omega), rI_ne _ _ (by omega)])⟩, by rw [rI_ne _ _ (by omega), rI_ne _ _ (by omega)]; exact r1.2.1, fun j => ?_⟩, (c1.trans k4).trans u3⟩⟩
    · have : i = 0 := by omega
      subst this
      exact absurd c0 hc
    · rw [e20]
      unfold f_X12_readsBalance
      have x724 : ix (724 : Int32) = 723 + 1 := ix_nI (n := 724) (by omega)
      rw [if_pos i724, e0, if_neg (show ¬ nI b = 4 from fun z => absurd (nIinj (b := 4) (by omega) (by omega) z) (by omega)), k1, bnd_some, if_pos c0, if_neg (by decide), if_pos i724, e1, e762, if_pos (i113 (by omega)), nam_e, w1, if_pos i724, if_pos i724, nam_e, bnd_some, if_neg (by decide), ix_nI (by omega), x724, rI_nj _ _ (by omega), show rI u1 113 (723 + 1) = nI b from e1, nI_1]
    · rw [rI_stI, rI_stI, r1.2.2 j]
      show _ = upd (upd g (39 + b) (vl n T (sk n T blB P))) 1 (nI (b + 1)) j
      unfold upd
      by_cases z1 : j = 1
      · rw [if_pos ⟨rfl, by omega⟩, if_pos z1]
      · rw [if_neg (by omega), if_neg z1]
        by_cases z : j = 39 + b
        · rw [if_pos ⟨rfl, by omega⟩, if_pos z]
        · rw [if_neg (by omega), if_neg z]
theorem daysR {n p a v : Nat} {T : Nat → Int32} (ha : a ≤ 7) (hv : v ≤ 99) : ∀ (t i fu : Nat) (τ : Sg) (g : Nat → Int32), t + i = v → t < fu → RS n T τ g p → rI τ 112 9 = nI v → g 0 = nI a → ∃ υ, b_X12_readsDays_14 fu τ (nI i) = some (1, υ) ∧ RS n T υ (daysG a t g) p ∧ Un Pe τ υ := by
  intro t
  induction t with
  | zero =>
    intro i fu τ g ht hf h h9 g0
    obtain ⟨fu, rfl⟩ : ∃ q, fu = q + 1 := ⟨fu - 1, by omega⟩
    refine ⟨τ, ?_, h, Un.rf⟩
    rw [b_X12_readsDays_14, h9, if_pos (nI_le (by omega) (by omega))]
  | succ t ih =>
    intro i fu τ g ht hf h h9 g0
    obtain ⟨fu, rfl⟩ : ∃ q, fu = q + 1 := ⟨fu - 1, by omega⟩
    obtain ⟨s1, a1, b1, c1⟩ := passes_r (σ := τ) (r := 723) (by omega) ha ((show rI τ 113 (723 + 0) = g 0 from h.2.2 0).trans g0)
    rw [funext h.2.2] at b1
    have h1 : RS n T s1 (dayG a g) p := ⟨⟨by rw [(c1 112 3 (by omega)).1]; exact h.1.1, (funext (fun j => (c1 115 j (by omega)).1)).trans h.1.2⟩, by rw [(c1 112 7 (by omega)).1]; exact h.2.1, b1⟩
    obtain ⟨υ, k1, k2, k3⟩ := ih (i + 1) fu s1 (dayG a g) (by omega) (by omega) h1 (by rw [(c1 112 9 (by omega)).1]; exact h9) ((day_lo g).trans g0)
    refine ⟨υ, ?_, k2, (c1.mono (fun a j q => by unfold Pe; omega)).trans k3⟩
    rw [b_X12_readsDays_14, h9, if_neg (nI_ge (by omega) (by omega)), show f_X12_passes τ 723 = some s1 from a1, ob_some, nam_e, nI_1]
    exact k1
theorem res_days {n p it a b : Nat} {T : Nat → Int32} {σ : Sg} {g : Nat → Int32} (hn : n ≤ 150) (hI : IT n T σ p it g a b) (hit2 : it < 2 ^ 31) (hp : p ≤ n) (hw : wd n T (sk n T blB p) = 4) (hit : 0 < it) : Res n T σ p it g 0 := by
  have hg0 : g 0 = nI a := hI.2.2.2.1.1.1
  have ha : a ≤ 7 := hI.2.2.2.1.1.2
  refine res_num (D := 1) (w := 4) (lo := fun i => 1) (hi := fun i => 99) (g' := daysG a (ix (Vs n T (nx n T (sk n T blB p)) 0)) g) (a' := a) (b' := b) 0 hn hI hit2 hp hw (by omega) (by unfold mayW; rw [if_neg (by omega), if_neg (by omega), if_neg (by omega), decide_eq_true hit]; rfl) (by omega) (fun s h => ?_) (fun s h ht i hi => ?_) (fun hc s hv h7 h8 ht => ?_) (fun τ hτ => ?_)
  · unfold f_X8_numbersDue
    rw [h, if_neg (show ¬ wC 4 = 0 by decide), if_neg (show ¬ wC 4 = 1 by decide), if_neg (show ¬ wC 4 = 2 by decide)]
    rfl
  · unfold f_X8_numberMayStand
    rw [h, nam_e, if_neg (show ¬ wC 4 = 1 by decide), if_neg (show ¬ wC 4 = 2 by decide), if_neg (show ¬ wC 4 = 3 by decide)]
  · obtain ⟨e1, e2⟩ := car_7 h7 h8
    obtain ⟨x, hx1, hx, v1⟩ := btw_of (lo := 1) (hi := 99) (by omega) (show ¬ f_X11_between (Vs n T (nx n T (sk n T blB p)) 0) (nI 1) (nI 99) = 0 from (hc 0 (by omega)).2) (by omega)
    obtain ⟨t1, t2, t3⟩ := TG_8 (nI (it + 1)) ht
    obtain ⟨s6, y1, y2, y3⟩ := passDays_M (M := 70) hx x 0 FU _ g (by omega) (by unfold FU; omega) t1 t2 t3
    obtain ⟨d1, d2⟩ := days_keep x t1 t2
    refine ⟨s6, ?_, y3, ?_⟩
    · unfold f_X8_carryOut
      rw [e1, nam_e, nam_e, e2, if_neg (show ¬ wC 4 = 1 by decide), if_neg (show ¬ wC 4 = 2 by decide), if_neg (show ¬ wC 4 = 3 by decide), if_pos (show wC 4 = 4 from rfl), show f_X7_at (stI s 69 8 (nI (it + 1))) 92 0 = _ from c_at (i := 0) hv (by omega), ob_some, v1, show f_X3_passDays (stI s 69 8 (nI (it + 1))) 70 (nI x) = some s6 from y1, ob_some]
    · rw [v1, ix_nI (by omega)]
      exact ⟨d1, d2, y2⟩
  · obtain ⟨s1, a1, b1, c1⟩ := head_w 0 hn hp hw (by omega) hτ
    have hxn : nx n T (sk n T blB p) ≤ n := (nx_in T (tk_1 (wd_tk (by rw [hw]; omega))).1).2
    generalize hP : nx n T (sk n T blB p) = P at b1 hxn ⊢
    have e20 : f_X12_readsItem τ 0 = bnd (f_X12_readsDays s1) fun x5 s6 => (if x5 = 0 then b_X12_readsItem_91 0 s6 else b_X12_readsItem_87 0 s6) := by
      rw [a1]
      unfold b_X12_readsItem_20
      rw [if_pos (show (0 : Int32) = if 4 = 0 then 1 else 0 from rfl), if_neg (show ¬ wR 4 = 1 by decide), if_neg (show ¬ wR 4 = 2 by decide), if_neg (show ¬ wR 4 = 3 by decide), if_neg (show ¬ wR 4 = 4 by decide), if_pos (show wR 4 = 5 from rfl)]
    obtain ⟨u1, k1, k2, k3, k4, k5⟩ := num_s 1 99 hn hxn b1
    by_cases c0 : tk n T (sk n T blB P) = 2 ∧ ¬ f_X11_between (vl n T (sk n T blB P)) 1 99 = 0
    rotate_left
    · have fl : ∃ υ, f_X12_readsItem τ 0 = some (0, υ) ∧ rI υ 112 8 = nI (Qs n T P 0) ∧ Un Pe τ υ := by
        refine ⟨u1, ?_, k2, c1.trans k4⟩
        rw [e20]
        unfold f_X12_readsDays
        rw [k1, bnd_some, if_neg c0, if_pos rfl, bnd_some, if_pos rfl, fail_91]
      refine ⟨fun i hi hj hc => ?_, fun hc => absurd (hc 0 (by omega)) c0⟩
      have : i = 0 := by omega
      subst this
      exact fl
    obtain ⟨r1, w1⟩ := k3 c0.1
    obtain ⟨x, hx1, hx, v1⟩ := btw_of (lo := 1) (hi := 99) (by omega) (show ¬ f_X11_between (vl n T (sk n T blB P)) (nI 1) (nI 99) = 0 from c0.2) (by omega)
    obtain ⟨u2, m1, m2, m3⟩ := daysR ha hx x 0 FU u1 g (by omega) (by unfold FU; omega) r1 (w1.trans v1) hg0
    refine ⟨fun i hi hj hc => ?_, fun _ => ⟨u2, ?_, ?_, (c1.trans k4).trans m3⟩⟩
    · have : i = 0 := by omega
      subst this
      exact absurd c0 hc
    · rw [e20]
      unfold f_X12_readsDays
      rw [k1, bnd_some, if_pos c0, if_neg (by decide), show b_X12_readsDays_14 FU u1 0 = some (1, u2) from m1, bnd_some, if_neg (by decide)]
    · show RS n T u2 (daysG a (ix (vl n T (sk n T blB P))) g) (nx n T (sk n T blB P))
      rw [v1, ix_nI (by omega)]
      exact m2
theorem res_no {n p it a b : Nat} {T : Nat → Int32} {σ : Sg} {g : Nat → Int32} (hn : n ≤ 150) (hI : IT n T σ p it g a b) (hit2 : it < 2 ^ 31) (hp : p ≤ n) (hmay : mayW (wd n T (sk n T blB p)) it a b = false) : Res n T σ p it g (if it = 0 then 1 else 0) := by
  obtain ⟨s2, c1, c2, c3, _⟩ := head_c2 hn hI hit2 hp
  have hg0 : g 0 = nI a := hI.2.2.2.1.1.1
  have ha : a ≤ 7 := hI.2.2.2.1.1.2
  have hg1 : g 1 = nI b := hI.2.2.2.1.2.1.1
  have hb : b ≤ 4 := hI.2.2.2.1.2.1.2
  refine Or.inl ⟨sk n T blB p, s2, (sk_le T blB hp).2, c3 hmay, c1, Pn_O c2, fun τ hτ => ?_⟩
  obtain ⟨s1, a1, b1, b2, d1⟩ := head_r (if it = 0 then 1 else 0) hn hp hτ
  refine ⟨s1, ?_, b2, d1⟩
  rw [a1]
  have hwl := wd_le n T (sk n T blB p)
  generalize wd n T (sk n T blB p) = w at hwl hmay ⊢
  have e0 : rI s1 113 (ix 723) = nI a := (show rI s1 113 (723 + 0) = g 0 from b1.2.2 0).trans hg0
  have e1 : rI s1 113 (ix 724) = nI b := (show rI s1 113 (723 + 1) = g 1 from b1.2.2 1).trans hg1
  have i723 : inb 723 (kLen 113) = true := i113 (n := 723) (by omega)
  have i724 : inb 724 (kLen 113) = true := i113 (n := 724) (by omega)
  unfold b_X12_readsItem_20
  by_cases z : it = 0
  · subst z
    by_cases y : w = 0
    · subst y
      unfold mayW at hmay
      rw [if_pos rfl] at hmay
      exact absurd hmay (by decide)
    · rw [if_pos rfl, if_neg y, if_neg (by decide)]
  · rw [if_neg z]
    by_cases y : w = 0
    · rw [if_pos y, if_neg (by decide)]
    · rw [if_neg y, if_pos rfl]
      have hz : decide (0 < it) = true := decide_eq_true (by omega)
      rcases (show w = 1 ∨ w = 2 ∨ w = 3 ∨ w = 4 ∨ w = 5 by omega) with rfl | rfl | rfl | rfl | rfl
      · have h7 : a = 7 := by
          unfold mayW at hmay
          rw [if_neg (by omega), if_pos rfl, hz, Bool.true_and] at hmay
          have := of_decide_eq_false hmay
          omega
        subst h7
        rw [if_neg (show ¬ wR 1 = 1 by decide), if_pos (show wR 1 = 2 from rfl)]
        unfold f_X12_readsKeeper
        rw [if_pos i723, e0, if_pos (show nI 7 = 7 from rfl), bnd_some, if_pos rfl, fail_91]
      · unfold mayW at hmay
        rw [if_neg (by omega), if_neg (by omega), if_neg (by omega), hz, Bool.true_and] at hmay
        exact absurd hmay (by decide)
      · have h4 : b = 4 := by
          unfold mayW at hmay
          rw [if_neg (by omega), if_neg (by omega), if_pos rfl, hz, Bool.true_and] at hmay
          have := of_decide_eq_false hmay
          omega
        subst h4
        rw [if_neg (show ¬ wR 3 = 1 by decide), if_neg (show ¬ wR 3 = 2 by decide), if_neg (show ¬ wR 3 = 3 by decide), if_pos (show wR 3 = 4 from rfl)]
        unfold f_X12_readsBalance
        rw [if_pos i724, e1, if_pos (show nI 4 = 4 from rfl), bnd_some, if_pos rfl, fail_91]
      · unfold mayW at hmay
        rw [if_neg (by omega), if_neg (by omega), if_neg (by omega), hz, Bool.true_and] at hmay
        exact absurd hmay (by decide)
      · rw [if_neg (show ¬ wR 5 = 1 by decide), if_neg (show ¬ wR 5 = 2 by decide), if_neg (show ¬ wR 5 = 3 by decide), if_neg (show ¬ wR 5 = 4 by decide), if_neg (show ¬ wR 5 = 5 by decide), fail_91]
theorem res_item {n p it a b : Nat} {T : Nat → Int32} {σ : Sg} {g : Nat → Int32} (hn : n ≤ 150) (hI : IT n T σ p it g a b) (hit2 : it < 2 ^ 31) (hp : p ≤ n) : Res n T σ p it g (if it = 0 then 1 else 0) := by
  cases hm : mayW (wd n T (sk n T blB p)) it a b with
  | false => exact res_no hn hI hit2 hp hm
  | true =>
    have hwl := wd_le n T (sk n T blB p)
    by_cases z : it = 0
    · have hw : wd n T (sk n T blB p) = 0 := by
        unfold mayW at hm
        by_cases y : wd n T (sk n T blB p) = 0
        · exact y
        · rw [if_neg y] at hm
          split at hm
          · rw [Bool.and_eq_true] at hm
            have := of_decide_eq_true hm.1
            omega
          · split at hm
            · rw [Bool.and_eq_true] at hm
              have := of_decide_eq_true hm.1
              omega
            · rw [Bool.and_eq_true] at hm
              have := of_decide_eq_true hm.1
              omega
      rw [if_pos z]
      exact res_market hn hI hp hw z
    · rw [if_neg z]
      generalize hw : wd n T (sk n T blB p) = w at hm hwl
      unfold mayW at hm
      rcases (show w = 0 ∨ w = 1 ∨ w = 2 ∨ w = 3 ∨ w = 4 ∨ w = 5 by omega) with rfl | rfl | rfl | rfl | rfl | rfl
      · rw [if_pos rfl] at hm
        exact absurd (of_decide_eq_true hm) z
      · rw [if_neg (by omega), if_pos rfl, Bool.and_eq_true] at hm
        exact res_keeper hn hI hit2 hp hw (by omega) (of_decide_eq_true hm.2)
      · exact res_mood hn hI hit2 hp hw (by omega)
      · rw [if_neg (by omega), if_neg (by omega), if_pos rfl, Bool.and_eq_true] at hm
        exact res_bal hn hI hit2 hp hw (by omega) (of_decide_eq_true hm.2)
      · exact res_days hn hI hit2 hp hw (by omega)
      · rw [if_neg (by omega), if_neg (by omega), if_neg (by omega), Bool.and_eq_true] at hm
        exact absurd (of_decide_eq_true hm.2) (by omega)
