/-- what an undoing brings back: the entry v -/
def undoG (v : Nat) (g : Nat → Int32) : Nat → Int32 := fun j => if j = 112 then nI v else if 18 ≤ j ∧ j < 25 then g (113 + (16 * v + (j - 18))) else if 32 ≤ j ∧ j < 39 then g (113 + (16 * v + 7 + (j - 32))) else if j = 3 then g (113 + (16 * v + 14)) else if j = 2 then g (113 + (16 * v + 15)) else g j
theorem undoG_o {v j : Nat} (g : Nat → Int32) (h1 : j ≠ 112) (h2 : j ≠ 2) (h3 : j ≠ 3) (h4 : j < 18 ∨ 25 ≤ j) (h5 : j < 32 ∨ 39 ≤ j) : undoG v g j = g j := by
  unfold undoG
  rw [if_neg h1, if_neg (by omega), if_neg (by omega), if_neg h3, if_neg h2]
theorem undoG_s {v k : Nat} (g : Nat → Int32) (hk : k < 7) : undoG v g (18 + k) = g (113 + (16 * v + k)) := by
  unfold undoG
  rw [if_neg (by omega), if_pos (by omega), Nat.add_sub_cancel_left]
theorem undoG_m {v k : Nat} (g : Nat → Int32) (hk : k < 7) : undoG v g (32 + k) = g (113 + (16 * v + 7 + k)) := by
  unfold undoG
  rw [if_neg (by omega), if_neg (by omega), if_pos (by omega), Nat.add_sub_cancel_left]
theorem undoG_l {v : Nat} (g : Nat → Int32) : undoG v g 3 = g (113 + (16 * v + 14)) := by
  unfold undoG
  rw [if_neg (by omega), if_neg (by omega), if_neg (by omega), if_pos rfl]
theorem undoG_d {v : Nat} (g : Nat → Int32) : undoG v g 2 = g (113 + (16 * v + 15)) := by
  unfold undoG
  rw [if_neg (by omega), if_neg (by omega), if_neg (by omega), if_neg (by omega), if_pos rfl]
theorem undo_keep {g : Nat → Int32} {a b c d e v : Nat} (hn : Nm g a b c d e (v + 1)) (hw : Wf g a b d e (v + 1)) : Nm (undoG v g) a b c d e v ∧ Wf (undoG v g) a b d e v := by
  obtain ⟨⟨n0, ha⟩, ⟨n1, hb⟩, ⟨n2, hc⟩, ⟨n3, hd⟩, ⟨n4, he⟩, n5, hu⟩ := hn
  obtain ⟨w1, w2, w3, w4, w5, w6⟩ := hw
  have o : ∀ j, j ≠ 112 → j ≠ 2 → j ≠ 3 → (j < 18 ∨ 25 ≤ j) → (j < 32 ∨ 39 ≤ j) → undoG v g j = g j := fun j a b c d e => undoG_o g a b c d e
  refine ⟨⟨⟨?_, ha⟩, ⟨?_, hb⟩, ⟨?_, hc⟩, ⟨?_, hd⟩, ⟨?_, he⟩, if_pos rfl, by omega⟩, fun k hk => ?_, fun k hk => ?_, fun i hi => ?_, fun i hi => ?_, ?_, fun i hi => ?_⟩
  · simp (disch := omega) only [o, n0]
  · simp (disch := omega) only [o, n1]
  · simp (disch := omega) only [o, n2]
  · simp (disch := omega) only [o, n3]
  · simp (disch := omega) only [o, n4]
  · simp (disch := omega) only [o]; exact w1 k hk
  · simp (disch := omega) only [o]; exact w2 k hk
  · simp (disch := omega) only [o]; exact w3 i hi
  · simp (disch := omega) only [o]; exact w4 i hi
  · refine mom_same (w6 v (by omega)) (fun k hk => ?_) (fun k hk => ?_) ?_ ?_
    · rw [undoG_s g hk, show 113 + (16 * v + k) = 113 + 16 * v + k by omega]
    · rw [undoG_m g hk, show 113 + (16 * v + 7 + k) = 120 + 16 * v + k by omega]
    · rw [undoG_l g, show 113 + (16 * v + 14) = 127 + 16 * v by omega]
    · rw [undoG_d g, show 113 + (16 * v + 15) = 128 + 16 * v by omega]
  · refine mom_same (w6 i (by omega)) (fun k hk => ?_) (fun k hk => ?_) ?_ ?_ <;> exact o _ (by omega) (by omega) (by omega) (by omega) (by omega)
theorem put_any {σ : Sg} {k n j : Nat} {f g' : Nat → Int32} (v : Int32) (h : rowIs σ k n f) (hj2 : j < 2 ^ 31) (hg : ∀ i, i < n → g' i = if i = j then v else f i) : ∃ τ, f_X7_put σ k (nI j) v = some τ ∧ rowIs τ k n g' ∧ Only k (k + 2) σ τ := by
  by_cases q : j < n
  · exact put_c v h q hg
  · exact ⟨σ, put_out v h (by omega) hj2, h.cong (fun i hi => by rw [hg i hi, if_neg (by omega)]), Only.rf⟩
theorem restore_loop {k0 k1 a v : Nat} {g : Nat → Int32} (hk : k0 + 5 ≤ k1 ∨ k1 + 2 ≤ k0) (ha : a ≤ 7) (hv : v < 8) : ∀ (t i fu : Nat) (σ : Sg), t + i = 7 → t < fu → rowIs σ (k0 + 1) a (fun j => if j < i then g (113 + (16 * v + j)) else g (18 + j)) → rowIs σ (k0 + 3) a (fun j => if j < i then g (113 + (16 * v + 7 + j)) else g (32 + j)) → rowIs σ k1 (16 * v + 16) (fun j => g (113 + pp j)) → ∃ τ, b_X4_restore_30 k0 k1 fu σ (nI (16 * v)) (nI i) = some τ ∧ rowIs τ (k0 + 1) a (fun j => g (113 + (16 * v + j))) ∧ rowIs τ (k0 + 3) a (fun j => g (113 + (16 * v + 7 + j))) ∧ rowIs τ k1 (16 * v) (fun j => g (113 + pp j)) ∧ (∀ b j, (b < k0 + 1 ∨ k0 + 5 ≤ b) → (b < k1 ∨ k1 + 2 ≤ b) → rI τ b j = rI σ b j ∧ rL τ b j = rL σ b j) := by
  intro t
  induction t with
  | zero =>
    intro i fu σ ht hf h1 h2 h3
    obtain ⟨fu, rfl⟩ : ∃ q, fu = q + 1 := ⟨fu - 1, by omega⟩
    obtain ⟨s1, a1, b1, c1⟩ := dropLast_in (m := 16) h3 (by omega)
    refine ⟨s1, ?_, (h1.keep c1 (by omega)).cong (fun j hj => if_pos (by omega)), (h2.keep c1 (by omega)).cong (fun j hj => if_pos (by omega)), ?_, fun b j p q => ⟨(c1 b (by omega)).1 j, (c1 b (by omega)).2 j⟩⟩
    · rw [b_X4_restore_30, if_pos (show (7 : Int32) ≤ nI i from nI_le (a := 7) (by omega) (by omega)), show f_X7_dropLast σ k1 16 = _ from a1, ob_some]
    · rw [Nat.add_sub_cancel] at b1; exact b1
  | succ t ih =>
    intro i fu σ ht hf h1 h2 h3
    obtain ⟨fu, rfl⟩ : ∃ q, fu = q + 1 := ⟨fu - 1, by omega⟩
    have t1 := at_in (j := 16 * v + 2 + 2 * i) h3 (by omega)
    rw [pp_2 v i (by omega)] at t1
    obtain ⟨s1, a1, b1, c1⟩ := put_any (j := i) (g' := fun j => if j < i + 1 then g (113 + (16 * v + j)) else g (18 + j)) (g (113 + (16 * v + i))) h1 (by omega) (fun j hj => by
      by_cases q : j = i
      · rw [if_pos q, if_pos (by omega), q]
      · rw [if_neg q]
        by_cases w : j < i
        · exact (if_pos (by omega)).trans (if_pos w).symm
        · exact (if_neg (by omega)).trans (if_neg w).symm)
    have t2 := at_in (j := 16 * v + 3 + 2 * i) (h3.keep c1 (by omega)) (by omega)
    rw [pp_3 v i (by omega)] at t2
    obtain ⟨s2, a2, b2, c2⟩ := put_any (j := i) (g' := fun j => if j < i + 1 then g (113 + (16 * v + 7 + j)) else g (32 + j)) (g (113 + (16 * v + 7 + i))) (h2.keep c1 (by omega)) (by omega) (fun j hj => by
      by_cases q : j = i
      · rw [if_pos q, if_pos (by omega), q]
      · rw [if_neg q]
        by_cases w : j < i
        · exact (if_pos (by omega)).trans (if_pos w).symm
        · exact (if_neg (by omega)).trans (if_neg w).symm)
    obtain ⟨τ, e1, e2, e3, e4, e5⟩ := ih (i + 1) fu s2 (by omega) (by omega) (b1.keep c2 (by omega)) b2 ((h3.keep c1 (by omega)).keep c2 (by omega))
    refine ⟨τ, ?_, e2, e3, e4, fun b j p q => ⟨?_, ?_⟩⟩
    · rw [b_X4_restore_30, if_neg (show ¬ (7 : Int32) ≤ nI i from nI_ge (b := 7) (by omega) (by omega)), L2, L3, pk_mul, nI_add, nI_add, nI_add, nI_add, t1, ob_some, a1, ob_some, t2, ob_some, a2, ob_some, nam_e, nI_1]
      exact e1
    · rw [(e5 b j p q).1, (c2 b (by omega)).1, (c1 b (by omega)).1]
    · rw [(e5 b j p q).2, (c2 b (by omega)).2, (c1 b (by omega)).2]
theorem undo_r {v : Nat} {g : Nat → Int32} (hv : v < 8) : ∀ (t i fu : Nat) (σ : Sg), t + i = 7 → t < fu → (∀ j, rI σ 113 j = if j = 112 then nI v else if 18 ≤ j ∧ j < 18 + i then g (113 + (16 * v + (j - 18))) else if 32 ≤ j ∧ j < 32 + i then g (113 + (16 * v + 7 + (j - 32))) else g j) → ∃ τ, b_X12_undo_42 fu σ (nI (113 + 16 * v)) (nI i) = some (g (113 + (16 * v + 15)), τ) ∧ (∀ j, rI τ 113 j = undoG v g j) ∧ Un Pw σ τ := by
  intro t
  induction t with
  | zero =>
    intro i fu σ ht hf hg
    obtain ⟨fu, rfl⟩ : ∃ q, fu = q + 1 := ⟨fu - 1, by omega⟩
    have hi : i = 7 := by omega
    subst hi
    have e14 : rI σ 113 (113 + 16 * v + 14) = g (113 + (16 * v + 14)) := by rw [hg, if_neg (by omega), if_neg (by omega), if_neg (by omega), Nat.add_assoc]
    have e15 : rI σ 113 (113 + 16 * v + 15) = g (113 + (16 * v + 15)) := by rw [hg, if_neg (by omega), if_neg (by omega), if_neg (by omega), Nat.add_assoc]
    refine ⟨stI (stI σ 113 3 (g (113 + (16 * v + 14)))) 113 2 (g (113 + (16 * v + 15))), ?_, fun j => ?_, (Un.stI _ _ _ _ ⟨rfl, by omega⟩).trans (Un.stI _ _ _ _ ⟨rfl, by omega⟩)⟩
    · rw [b_X12_undo_42]
      simp (disch := omega) only [L2, L3, L7, L14, L15, nI_add, i113, if_true, ix_nI, leT, nam_e, rI_nj, rI_eq, e14, e15]
    · rw [rI_stI, rI_stI, hg]
      unfold undoG
      by_cases q2 : j = 2
      · subst q2
        rw [if_pos ⟨rfl, rfl⟩, if_neg (by omega), if_neg (by omega), if_neg (by omega), if_neg (by omega), if_pos rfl]
      · rw [if_neg (fun z => q2 z.2)]
        by_cases q3 : j = 3
        · subst q3
          rw [if_pos ⟨rfl, rfl⟩, if_neg (by omega), if_neg (by omega), if_neg (by omega), if_pos rfl]
        · rw [if_neg (fun z => q3 z.2), if_neg q3, if_neg q2]
  | succ t ih =>
    intro i fu σ ht hf hg
    obtain ⟨fu, rfl⟩ : ∃ q, fu = q + 1 := ⟨fu - 1, by omega⟩
    have e1 : rI σ 113 (113 + 16 * v + i) = g (113 + (16 * v + i)) := by rw [hg, if_neg (by omega), if_neg (by omega), if_neg (by omega), Nat.add_assoc]
    have e2 : rI σ 113 (113 + 16 * v + 7 + i) = g (113 + (16 * v + 7 + i)) := by rw [hg, if_neg (by omega), if_neg (by omega), if_neg (by omega)]; congr 1; omega
    obtain ⟨τ, k1, k2, k3⟩ := ih (i + 1) fu (stI (stI σ 113 (18 + i) (g (113 + (16 * v + i)))) 113 (32 + i) (g (113 + (16 * v + 7 + i)))) (by omega) (by omega) (fun j => by
      rw [rI_stI, rI_stI, hg]
      by_cases q1 : j = 32 + i
      · subst q1
        rw [if_pos ⟨rfl, rfl⟩, if_neg (by omega), if_neg (by omega), if_pos (by omega), Nat.add_sub_cancel_left]
      · by_cases q2 : j = 18 + i
        · subst q2
          rw [if_neg (by omega), if_pos ⟨rfl, rfl⟩, if_neg (by omega), if_pos (by omega), Nat.add_sub_cancel_left]
        · rw [if_neg (by omega), if_neg (by omega)]
          by_cases q0 : j = 112
          · rw [if_pos q0, if_pos q0]
          · rw [if_neg q0, if_neg q0]
            by_cases q3 : 18 ≤ j ∧ j < 18 + i
            · rw [if_pos q3, if_pos (by omega)]
            · rw [if_neg q3, if_neg (show ¬ (18 ≤ j ∧ j < 18 + (i + 1)) by omega)]
              by_cases q4 : 32 ≤ j ∧ j < 32 + i
              · rw [if_pos q4, if_pos (by omega)]
              · rw [if_neg q4, if_neg (by omega)])
    refine ⟨τ, ?_, k2, ((Un.stI _ _ _ _ ⟨rfl, by omega⟩).trans (Un.stI _ _ _ _ ⟨rfl, by omega⟩)).trans k3⟩
    rw [b_X12_undo_42]
    simp (disch := omega) only [L7, L18, L32, nI_add, i113, if_true, if_false, ix_nI, leF, nam_e, rI_nj, e1, e2, nI_1]
    exact k1
theorem m_undo {σ : Sg} (h : Inv σ) : Sim f_X11_undo f_X12_undo σ := by
  obtain ⟨a, b, c, d, e, u, hn, hw, hr⟩ := h.1
  obtain ⟨⟨n0, ha⟩, ⟨n1, hb⟩, ⟨n2, hc⟩, ⟨n3, hd⟩, ⟨n4, he⟩, n5, hu⟩ := id hn
  obtain ⟨r1, r2, r3, r4, r5, r6, r7, r8, r9, r10, r11, r12⟩ := hr
  have f8 : f_X3_undoable σ 1 = nI u := by
    rw [← div_c (n := u) (m := 16) (by omega) (by omega) (by omega)]
    show rI σ 16 1 / 16 = _
    rw [show rI σ 16 1 = _ from r8.2.1]; rfl
  by_cases q : u = 0
  · subst q
    refine ref_no h ?_ (fun τ ht => ?_)
    · unfold f_X11_undo
      rw [f8, if_pos (show nI 0 = 0 from rfl)]
    · unfold f_X12_undo
      rw [if_pos (show inb 112 (kLen 113) = true from i113 (n := 112) (by omega)), show rI τ 113 (ix 112) = nI 0 from (ht 113 112 (by omega)).trans n5, if_pos (show nI 0 = 0 from rfl)]
  · obtain ⟨v, rfl⟩ : ∃ v, u = v + 1 := ⟨u - 1, by omega⟩
    have r8' : rowIs σ 16 (16 * v + 16) (fun j => rI σ 113 (113 + pp j)) := r8
    have u0 : ¬ nI (v + 1) = 0 := nI_ne0 (by omega) (by omega)
    have t1 := at_in (j := 16 * v) r8' (by omega)
    rw [pp_0] at t1
    have o1 : Only 18 19 σ (stI σ 18 0 (rI σ 113 (113 + (16 * v + 15)))) := Only.stI σ 18 0 _
    have t2 := at_in (j := 16 * v + 1) (r8'.keep o1 (by omega)) (by omega)
    rw [pp_1] at t2
    have o2 : Only 18 19 (stI σ 18 0 (rI σ 113 (113 + (16 * v + 15)))) (stI (stI σ 18 0 (rI σ 113 (113 + (16 * v + 15)))) 18 1 (rI σ 113 (113 + (16 * v + 14)))) := Only.stI _ 18 1 _
    have o3 := o1.trans o2
    obtain ⟨s1, a1, b1, b2, b3, b4⟩ := restore_loop (k0 := 18) (k1 := 16) (g := rI σ 113) (v := v) (by omega) ha (by omega) 7 0 FU _ rfl (by unfold FU; omega) ((r11.keep o3 (by omega)).cong (fun j hj => (if_neg (by omega)).symm)) ((r12.keep o3 (by omega)).cong (fun j hj => (if_neg (by omega)).symm)) (r8'.keep o3 (by omega))
    have e0 : rI s1 18 0 = rI σ 113 (113 + (16 * v + 15)) := by rw [(b4 18 0 (by omega) (by omega)).1, rI_nj _ _ (by omega), rI_eq]
    have e1 : rI s1 18 1 = rI σ 113 (113 + (16 * v + 14)) := by rw [(b4 18 1 (by omega) (by omega)).1, rI_eq]
    have hs : ∀ k j, (k < 16 ∨ 23 ≤ k) → rI s1 k j = rI σ k j := fun k j hk => by
      rw [(b4 k j (by omega) (by omega)).1, (o3 k (by omega)).1]
    have hP : Un Pk σ s1 := fun b j hb => by
      unfold Pk at hb
      have hq := b4 b j (by omega) (by omega)
      have hz := o3 b (by omega)
      exact ⟨hq.1.trans (hz.1 j), hq.2.trans (hz.2 j)⟩
    obtain ⟨un, uw⟩ := undo_keep hn hw
    have hr1 : Rw s1 1 (undoG v (rI σ 113)) a b c d e v := by
      refine ⟨?_, ?_, ?_, ?_, ?_, ?_, ?_, ?_, ?_, ?_, ?_, ?_⟩
      · exact r1.res (fun k j hk => hs k j (by omega)) (fun j hj => (undoG_o _ (by omega) (by omega) (by omega) (by omega) (by omega)).symm)
      · exact r2.res (fun k j hk => hs k j (by omega)) (fun j hj => (undoG_o _ (by omega) (by omega) (by omega) (by omega) (by omega)).symm)
      · exact r3.res (fun k j hk => hs k j (by omega)) (fun j hj => (undoG_o _ (by omega) (by omega) (by omega) (by omega) (by omega)).symm)
      · exact r4.res (fun k j hk => hs k j (by omega)) (fun j hj => (undoG_o _ (by omega) (by omega) (by omega) (by omega) (by omega)).symm)
      · exact r5.res (fun k j hk => hs k j (by omega)) (fun j hj => (undoG_o _ (by omega) (by omega) (by omega) (by omega) (by omega)).symm)
      · exact r6.res (fun k j hk => hs k j (by omega)) (fun j hj => (undoG_o _ (by omega) (by omega) (by omega) (by omega) (by omega)).symm)
      · exact r7.res (fun k j hk => hs k j (by omega)) (fun j hj => (undoG_o _ (by omega) (by omega) (by omega) (by omega) (by omega)).symm)
      · exact b3.cong (fun j hj => (undoG_o _ (by omega) (by omega) (by omega) (by omega) (by omega)).symm)
      · exact e0.trans (undoG_d _).symm
      · exact e1.trans (undoG_l _).symm
      · exact b1.cong (fun j hj => (undoG_s _ (by omega)).symm)
      · exact b2.cong (fun j hj => (undoG_m _ (by omega)).symm)
    obtain ⟨s2, a2, c2, c3⟩ := undo_r (v := v) (g := rI σ 113) (by omega) 7 0 FU (stI s1 113 112 (nI v)) rfl (by unfold FU; omega) (fun j => by
      rw [rI_stI, Pk_w hP]
      by_cases q : j = 112
      · rw [if_pos ⟨rfl, q⟩, if_pos q]
      · rw [if_neg (fun z => q z.2), if_neg q, if_neg (by omega), if_neg (by omega)])
    refine ⟨rI σ 113 (113 + (16 * v + 15)), s1, s2, ?_, ?_, Inv_two h ⟨_, _, _, _, _, _, un, uw, hr1⟩ hP ((Un.stI _ _ _ _ (by unfold Pr; omega)).trans (Pw_Pr c3)) (fun j _ => c2 j)⟩
    · unfold f_X11_undo f_X4_restore
      rw [f8, if_neg u0, show f_X7_size σ 16 = _ from r8'.2.1, L16, pk_sub (by omega), Nat.add_sub_cancel, nam_e, t1, ob_some, nam_e, L1, nI_add, t2, ob_some, nam_e]
      rw [show b_X4_restore_30 18 16 FU _ (nI (16 * v)) 0 = some s1 from a1, ob_some, e0]
    · unfold f_X12_undo
      have i112 : inb 112 (kLen 113) = true := i113 (n := 112) (by omega)
      rw [if_pos i112, show rI s1 113 (ix 112) = nI (v + 1) from (Pk_w hP 112).trans n5, if_neg u0, if_pos i112, if_pos i112, nam_e, if_pos i112, nI_pred, show ix 112 = 112 from rfl, rI_eq, L16, L113, pk_mul, nI_add, nam_e]
      exact a2
