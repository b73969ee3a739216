theorem mind_lo {u j : Nat} (g : Nat → Int32) (h : j < 112) : mind u g j = g j := by
  unfold mind
  split
  · rw [storeG_o _ (by omega) (by omega), shiftG_o g h]
  · rw [storeG_o _ (by omega) (by omega)]
theorem Pw_Pr {σ τ : Sg} (h : Un Pw σ τ) : Un Pr σ τ := h.mono (fun a j q => by unfold Pw at q; unfold Pr; omega)
theorem day_lo {a : Nat} (g : Nat → Int32) : dayG a g 0 = g 0 := by
  unfold dayG
  split
  · rfl
  · exact passG_o g (by omega) (by omega) (by omega) (by omega)
theorem dayR_loop {a n : Nat} (ha : a ≤ 7) (hn : n ≤ 99) : ∀ (t i fu : Nat) (σ : Sg) (g : Nat → Int32), t + i = n → t < fu → rI σ 113 = g → g 0 = nI a → ∃ τ, b_X12_day_25 (nI n) fu σ (nI i) = some (fo (alS (daysG a t g)) 0 a 0, τ) ∧ (∀ j, rI τ 113 j = daysG a t g j) ∧ Un Pw σ τ := by
  intro t
  induction t with
  | zero =>
    intro i fu σ g ht hf hg g0
    obtain ⟨fu, rfl⟩ : ∃ q, fu = q + 1 := ⟨fu - 1, by omega⟩
    refine ⟨σ, ?_, fun j => congrFun hg j, Un.rf⟩
    rw [b_X12_day_25, if_pos (nI_le (by omega) (by omega)), allR (by rw [hg]; exact g0) ha, ob_some, hg]
    rfl
  | succ t ih =>
    intro i fu σ g ht hf hg g0
    obtain ⟨fu, rfl⟩ : ∃ q, fu = q + 1 := ⟨fu - 1, by omega⟩
    obtain ⟨s1, a1, b1, c1⟩ := passes_r (σ := σ) (r := 0) (by omega) ha (by rw [hg]; exact g0)
    have e1 : (fun j => rI σ 113 (0 + j)) = g := by rw [← hg]; exact funext (fun j => by rw [Nat.zero_add])
    rw [e1] at b1
    obtain ⟨τ, k1, k2, k3⟩ := ih (i + 1) fu s1 (dayG a g) (by omega) (by omega) (funext (fun j => by have := b1 j; rwa [Nat.zero_add] at this)) ((day_lo g).trans g0)
    refine ⟨τ, ?_, k2, (c1.mono (fun a j q => by unfold Pw; omega)).trans k3⟩
    rw [b_X12_day_25, if_neg (nI_ge (by omega) (by omega)), show f_X12_passes σ 0 = _ from a1, ob_some, nam_e, nI_1]
    exact k1
theorem m_day {σ : Sg} (h : Inv σ) (v : Int32) : Sim (fun s => f_X11_day s v) (fun s => f_X12_day s v) σ := by
  by_cases q1 : f_X11_between v 1 99 = 0
  · refine ref_bad h (-2) id ?_ (fun τ ht => ?_)
    · show f_X11_day σ v = _
      unfold f_X11_day; rw [if_pos q1]; rfl
    · show f_X12_day τ v = _
      unfold f_X12_day; rw [in_1_99, if_pos q1]; rfl
  obtain ⟨n, p5, p6, rfl⟩ := btw_of (lo := 1) (hi := 99) (by omega) q1 (by omega)
  obtain ⟨a, b, c, d, e, u, hn, hw, hr⟩ := h.1
  obtain ⟨⟨n0, ha⟩, ⟨n1, hb⟩, ⟨n2, hc⟩, ⟨n3, hd⟩, ⟨n4, he⟩, n5, hu⟩ := id hn
  obtain ⟨s1, a1, b1, c1⟩ := remember_c hn hw hr
  obtain ⟨mn, mw⟩ := mind_keep hn hw
  obtain ⟨s2, a2, b2, c2⟩ := passDays_M (M := 1) p6 n 0 FU s1 _ (by omega) (by unfold FU; omega) mn mw b1
  obtain ⟨dn, dw⟩ := days_keep n mn mw
  have hP : Un Pk σ s2 := (c1.un (fun a j p q => by unfold Pk; omega)).trans (c2.un (fun a j p q => by unfold Pk; omega))
  obtain ⟨s3, a3, b3, c3⟩ := minds_r (σ := s2) hu n5 (Pk_w hP)
  obtain ⟨s4, a4, b4, c4⟩ := dayR_loop ha p6 n 0 FU s3 (mind u (rI σ 113)) (by omega) (by unfold FU; omega) (funext b3) ((mind_lo _ (by omega)).trans n0)
  refine ⟨fo (alS (daysG a n (mind u (rI σ 113)))) 0 a 0, s2, s4, ?_, ?_, Inv_two h ⟨_, _, _, _, _, _, dn, dw, b2⟩ hP (Pw_Pr (c3.trans c4)) (fun j _ => b4 j)⟩
  · show f_X11_day σ (nI n) = _
    unfold f_X11_day
    have e3 : f_X3_allStones s2 1 = (1 <<< (nI a &&& 31)) - 1 := by
      show (1 <<< (rI s2 2 1 &&& 31)) - 1 = _
      rw [show rI s2 2 1 = nI a from b2.1.2.1]
    rw [if_neg q1, a1, ob_some, show f_X3_passDays s1 1 (nI n) = _ from a2, ob_some, e3, show f_X7_sumOf s2 19 _ = _ from allC (k := 19) b2.2.2.2.2.2.2.2.2.2.2.1 ha, ob_some]
  · show f_X12_day s2 (nI n) = _
    unfold f_X12_day
    rw [in_1_99, if_neg q1, a3, ob_some]
    exact a4
theorem mood_b : ∀ m, m < 10 → ∀ f, f < 10 → (if (nI m - 1) < 0 then 0 else (nI m - 1)) = f_X12_moodBehind (nI m) (nI f) 0 ∧ (if 9 < (nI m + (nI f / 3)) then 9 else (nI m + (nI f / 3))) = f_X12_moodBehind (nI m) (nI f) 1 := by decide +kernel
theorem mood_v : ∀ m, m < 10 → ∀ f, f < 10 → (∃ n, n < 10 ∧ f_X12_moodBehind (nI m) (nI f) 0 = nI n) ∧ ∃ n, n < 10 ∧ f_X12_moodBehind (nI m) (nI f) 1 = nI n := by decide +kernel
theorem lent_v : ∀ x, x < 128 → ∀ k, k < 7 → ∃ n, n < 128 ∧ nI x ||| (1 <<< (nI k &&& 31)) = nI n := by decide +kernel
/-- what a visit changes: l whether the stone is lent -/
def visitG (k : Nat) (f l : Int32) (g : Nat → Int32) : Nat → Int32 := upd (upd g (32 + k) (f_X12_moodBehind (g (32 + k)) f l)) 3 (g 3 ||| (if l = 0 then (0 : Int32) else 1 <<< (nI k &&& 31)))
theorem visit_keep {g : Nat → Int32} {a b c d e u k f : Nat} {l : Int32} (hl : l = 0 ∨ l = 1) (hk : k < a) (hf : f < 10) (hn : Nm g a b c d e u) (hw : Wf g a b d e u) : Nm (visitG k (nI f) l g) a b c d e u ∧ Wf (visitG k (nI f) l g) a b d e u := by
  obtain ⟨⟨n0, ha⟩, ⟨n1, hb⟩, ⟨n2, hc⟩, ⟨n3, hd⟩, ⟨n4, he⟩, n5, hu⟩ := id hn
  obtain ⟨w1, w2, w3, w4, w5, w6⟩ := hw
  have hm : vIn (f_X12_moodBehind (g (32 + k)) (nI f) l) 0 9 := by
    obtain ⟨m, _, m2, m3⟩ := ((w5.1 k (by omega)).1 hk).2
    obtain ⟨⟨x, x1, x2⟩, y, y1, y2⟩ := mood_v m (by omega) f hf
    rw [m3]
    rcases hl with rfl | rfl
    · exact ⟨x, by omega, by omega, x2⟩
    · exact ⟨y, by omega, by omega, y2⟩
  have hlt : vIn (g 3 ||| (if l = 0 then (0 : Int32) else 1 <<< (nI k &&& 31))) 0 127 := by
    obtain ⟨x, _, x2, x3⟩ := w5.2.1
    rw [x3]
    by_cases q : l = 0
    · rw [if_pos q, or_0]; exact vIn.mk (by omega) x2
    · rw [if_neg q]
      obtain ⟨y, y1, y2⟩ := lent_v x (by omega) k (by omega)
      exact ⟨y, by omega, by omega, y2⟩
  unfold visitG
  refine ⟨⟨⟨?_, ha⟩, ⟨?_, hb⟩, ⟨?_, hc⟩, ⟨?_, hd⟩, ⟨?_, he⟩, ?_, hu⟩, fun k hk => ?_, fun k hk => ?_, fun i hi => ?_, fun i hi => ?_, ⟨fun j hj => ?_, ?_, ?_⟩, fun i hi => ?_⟩
  · simp (disch := omega) only [pk_un, n0]
  · simp (disch := omega) only [pk_un, n1]
  · simp (disch := omega) only [pk_un, n2]
  · simp (disch := omega) only [pk_un, n3]
  · simp (disch := omega) only [pk_un, n4]
  · simp (disch := omega) only [pk_un, n5]
  · simp (disch := omega) only [pk_un]; exact w1 k hk
  · simp (disch := omega) only [pk_un]; exact w2 k hk
  · simp (disch := omega) only [pk_un]; exact w3 i hi
  · simp (disch := omega) only [pk_un]; exact w4 i hi
  · have w5' := w5.1 j hj
    by_cases q : j = k
    · subst q
      simp (disch := omega) only [pk_un, pk_us]
      exact ⟨fun h => ⟨(w5'.1 h).1, hm⟩, fun h => absurd h (by omega)⟩
    · simp (disch := omega) only [pk_un]
      exact w5'
  · simp (disch := omega) only [pk_un, pk_us]; exact hlt
  · simp (disch := omega) only [pk_un]; exact w5.2.2
  · have w7 := w6 i hi
    unfold mom at w7 ⊢
    simp (disch := omega) only [pk_un]
    exact w7
theorem bring_c {σ : Sg} {k0 a k f : Nat} {m : Nat → Int32} {kd d l : Int32} {kdn : Nat} (hkd : kd = nI kdn) (h5 : kdn ≤ 5) (hk : k < a) (ha : a ≤ 7) (hf : f < 10) (h1 : rowIs σ (k0 + 3) a m) (hm : vIn (m k) 0 9) (h2 : rI σ k0 0 = d) (h3 : rI σ k0 1 = l) : ∃ τ, f_X4_bringGift σ k0 (nI k) kd (nI f) = some (f_X12_lends kd d (m k) (nI f), τ) ∧ rowIs τ (k0 + 3) a (upd m k (f_X12_moodBehind (m k) (nI f) (f_X12_lends kd d (m k) (nI f)))) ∧ rI τ k0 0 = d ∧ rI τ k0 1 = l ||| (if f_X12_lends kd d (m k) (nI f) = 0 then (0 : Int32) else 1 <<< (nI k &&& 31)) ∧ (∀ a j, a ≠ k0 → a ≠ k0 + 3 → a ≠ k0 + 4 → rI τ a j = rI σ a j ∧ rL τ a j = rL σ a j) ∧ Only k0 (k0 + 5) σ τ := by
  have hle : f_X2_lends kd d (m k) (nI f) = f_X12_lends kd d (m k) (nI f) := by rw [hkd]; exact lends_same d _ _ h5
  obtain ⟨x, _, x2, x3⟩ := hm
  obtain ⟨mb0, mb1⟩ := mood_b x (by omega) f hf
  rcases lends01 kd d (m k) (nI f) with q | q
  · obtain ⟨s1, a1, b1, c1⟩ := put_in (f_X12_moodBehind (m k) (nI f) 0) h1 hk
    rw [q]
    refine ⟨s1, ?_, b1, by rw [(c1 k0 (by omega)).1, h2], by rw [(c1 k0 (by omega)).1, h3, if_pos rfl, or_0], fun a j y1 y2 y3 => ⟨(c1 a (by omega)).1 j, (c1 a (by omega)).2 j⟩, c1.mono (by omega) (by omega)⟩
    unfold f_X4_bringGift
    rw [at_in h1 hk, ob_some, h2, hle, q, nam_e, if_pos rfl]
    unfold b_X4_bringGift_40 b_X4_bringGift_72
    rw [if_pos rfl, x3, mb0, ← x3, a1, ob_some, if_pos (Or.inl rfl)]
  · have o1 : Only k0 (k0 + 1) σ (stI σ k0 1 (l ||| (1 <<< (nI k &&& 31)))) := Only.stI σ k0 1 _
    obtain ⟨s1, a1, b1, c1⟩ := put_in (f_X12_moodBehind (m k) (nI f) 1) (h1.keep o1 (by omega)) hk
    rw [q]
    refine ⟨s1, ?_, b1, by rw [(c1 k0 (by omega)).1, rI_nj _ _ (by omega), h2], by rw [(c1 k0 (by omega)).1, rI_eq, if_neg (by decide)], fun a j y1 y2 y3 => ⟨((c1 a (by omega)).1 j).trans ((o1 a (by omega)).1 j), ((c1 a (by omega)).2 j).trans ((o1 a (by omega)).2 j)⟩, (o1.mono (by omega) (by omega)).trans (c1.mono (by omega) (by omega))⟩
    unfold f_X4_bringGift
    rw [at_in h1 hk, ob_some, h2, hle, q, nam_e, if_neg (by decide), nam_e, h3]
    unfold b_X4_bringGift_40 b_X4_bringGift_72
    rw [if_neg (by decide), x3, mb1, ← x3, a1, ob_some, if_pos (Or.inr rfl)]
