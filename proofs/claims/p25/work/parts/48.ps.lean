/-! what a week does to one waiting letter -/
theorem cz_wA_l {s : Nat → Int32} {n W r : Nat} {R : Nat → List Nat} (ok : cz_ok s n W R) (hr : r < 2) {k : Nat} (hk : k < (R r).length) :
    (cz_wA s W R).1 (111 + 11 * (R r)[k] + 2) = (if cz_fk s (cz_wt s) (cz_no s (5 + 2 * (W % 4) + r)) (cz_no s 0) (R r) k = 0 then nI 3 else if cz_fk s (cz_wt s) (cz_no s (5 + 2 * (W % 4) + r)) (cz_no s 0) (R r) k = 5 then nI 2 else nI 0) ∧ (cz_wA s W R).2 (R r)[k] = (if cz_fk s (cz_wt s) (cz_no s (5 + 2 * (W % 4) + r)) (cz_no s 0) (R r) k = 2 ∨ cz_fk s (cz_wt s) (cz_no s (5 + 2 * (W % 4) + r)) (cz_no s 0) (R r) k = 3 then nI 0 else nI 1) := by
  obtain ⟨n0, n1, n2, q0, q1, q2⟩ := cz_ok_no ok.1
  obtain ⟨gg1, -⟩ := cz_ok_g ok
  have hdj := fun i => cz_ok_dj ok.1 (i := i)
  obtain ⟨-, -, -, -, hrw, hle, -⟩ := ok.1
  obtain ⟨-, l2, -, l4, l5⟩ := hrw 0 (by decide)
  obtain ⟨-, r2, -, r4, r5⟩ := hrw 1 (by decide)
  obtain ⟨gA, gB⟩ := cz_go_all (w := cz_wt s) (u := fun _ => nI 0) (rdm := cz_no s 0) n0 l4 (fun i hi => (hle i (l5 i hi).1).1)
  have hkp : ∀ j, cz_kp j → (j < 29 ∨ 111 ≤ j) → (cz_gt (cz_wt s) 0 (cz_no s (5 + 2 * (W % 4))) (cz_no s 0) (R 0) (s, fun _ => nI 0)).1 j = s j := fun j h1 h2 => cz_gt_kp n0 l2 h1 (by omega) (by omega)
  have h0l : ∀ j, 111 ≤ j → (cz_gt (cz_wt s) 0 (cz_no s (5 + 2 * (W % 4))) (cz_no s 0) (R 0) (s, fun _ => nI 0)).1 j = (cz_go (cz_wt s) (cz_no s (5 + 2 * (W % 4))) (cz_no s 0) (R 0) (0, s, fun _ => nI 0)).2.1 j := fun j hj => cz_gt_l (by decide) l2 (Or.inr hj)
  have hlw1 : ∀ i ∈ R 1, cz_lw (cz_gt (cz_wt s) 0 (cz_no s (5 + 2 * (W % 4))) (cz_no s 0) (R 0) (s, fun _ => nI 0)).1 i := fun i hi => (gg1.2.2.2.2.2.1 i (r5 i hi).1).1
  obtain ⟨hA, hB⟩ := cz_go_all (w := cz_wt s) (s := (cz_gt (cz_wt s) 0 (cz_no s (5 + 2 * (W % 4))) (cz_no s 0) (R 0) (s, fun _ => nI 0)).1) (u := (cz_gt (cz_wt s) 0 (cz_no s (5 + 2 * (W % 4))) (cz_no s 0) (R 0) (s, fun _ => nI 0)).2) (rdm := cz_no s 0) n1 r4 hlw1
  have hw1 : ∀ j, 111 ≤ j → (cz_wA s W R).1 j = (cz_go (cz_wt s) (cz_no s (5 + 2 * (W % 4) + 1)) (cz_no s 0) (R 1) (0, (cz_gt (cz_wt s) 0 (cz_no s (5 + 2 * (W % 4))) (cz_no s 0) (R 0) (s, fun _ => nI 0)).1, (cz_gt (cz_wt s) 0 (cz_no s (5 + 2 * (W % 4))) (cz_no s 0) (R 0) (s, fun _ => nI 0)).2)).2.1 j := fun j hj => cz_gt_l (by decide) r2 (Or.inr hj)
  have hw2 : (cz_wA s W R).2 = (cz_go (cz_wt s) (cz_no s (5 + 2 * (W % 4) + 1)) (cz_no s 0) (R 1) (0, (cz_gt (cz_wt s) 0 (cz_no s (5 + 2 * (W % 4))) (cz_no s 0) (R 0) (s, fun _ => nI 0)).1, (cz_gt (cz_wt s) 0 (cz_no s (5 + 2 * (W % 4))) (cz_no s 0) (R 0) (s, fun _ => nI 0)).2)).2.2 := rfl
  rcases (show r = 0 ∨ r = 1 by omega) with rfl | rfl
  · have hmem : (R 0)[k] ∈ R 0 := List.getElem_mem hk
    have hno : (R 0)[k] ∉ R 1 := fun z => hdj _ hmem z
    rw [hw1 _ (by omega), hw2, (hA _ hno).1 2 (by decide), (hA _ hno).2, h0l _ (by omega), (gB k hk).1 2 (by decide), cz_gt_2, (gB k hk).2, cz_tl_2 (l5 _ hmem).2.2]
    exact ⟨rfl, rfl⟩
  · have hmem : (R 1)[k] ∈ R 1 := List.getElem_mem hk
    have hno : (R 1)[k] ∉ R 0 := fun z => hdj _ z hmem
    have h5 := r5 _ hmem
    obtain ⟨l, -, hl8, hl⟩ := (hle _ h5.1).1.1
    have hfk : cz_fk (cz_gt (cz_wt s) 0 (cz_no s (5 + 2 * (W % 4))) (cz_no s 0) (R 0) (s, fun _ => nI 0)).1 (cz_wt s) (cz_no s (5 + 2 * (W % 4) + 1)) (cz_no s 0) (R 1) k = cz_fk s (cz_wt s) (cz_no s (5 + 2 * (W % 4) + 1)) (cz_no s 0) (R 1) k := by
      refine cz_fk_e hk (fun j => ?_) ?_ ?_ ?_ ?_
      · exact hkp _ (by unfold cz_kp; omega) (by omega)
      · exact hkp _ (by unfold cz_kp; omega) (by omega)
      · exact hkp _ (by unfold cz_kp; omega) (by omega)
      · exact (h0l _ (by omega)).trans ((gA _ hno).1 6 (by decide))
      · exact cz_ms_e hl hl8 (hkp _ (by unfold cz_kp; omega) (by omega)) (hkp _ (by unfold cz_kp; omega) (by omega)) (hkp _ (by unfold cz_kp; omega) (by omega)) (hkp _ (by unfold cz_kp; omega) (by omega))
    have h20 : (cz_gt (cz_wt s) 0 (cz_no s (5 + 2 * (W % 4))) (cz_no s 0) (R 0) (s, fun _ => nI 0)).1 (111 + 11 * (R 1)[k] + 2) = nI 0 := (h0l _ (by omega)).trans (((gA _ hno).1 2 (by decide)).trans h5.2.2)
    have hu0 : (cz_gt (cz_wt s) 0 (cz_no s (5 + 2 * (W % 4))) (cz_no s 0) (R 0) (s, fun _ => nI 0)).2 (R 1)[k] = nI 0 := (gA _ hno).2
    rw [hw1 _ (by omega), hw2, (hB k hk).1 2 (by decide), (hB k hk).2, cz_tl_2 h20, hfk, hu0]
    exact ⟨rfl, rfl⟩
theorem o_why (M : cz_M) (b : Nat) (x : Int32) (iv : cz_iv b M) : ∃ v M1 M2, f_X4_why M b x = some (v, M1) ∧ f_X5_why M1 (b + 461) x = some (v, M2) ∧ cz_iv b M2 := by
  obtain ⟨now, hist, pc, slot, used, pad, len, wf, cv, rv⟩ := id iv
  obtain ⟨s, n, W, R⟩ := now
  obtain ⟨ok, hW9⟩ := wf.1
  have ok : cz_ok s n W R := ok
  have hW9 : W ≤ 9999 := hW9
  have hn : n ≤ 40 := ok.1.1.1
  have hs4 : s 4 = nI n := ok.1.1.2.1
  have hv1 : M.1 (b + 461 + 1) = s := rv.1
  have rp : cz_rp M (b + 1) s n R := cv.1
  have h7 : M.1 (b + 1) 7 = nI n := rp.2.1.2.trans hs4
  rcases m_isLetter (M := M) (a := b + 461) (n := n) (by rw [hv1]; exact hs4) hn x with ⟨i, hi, rfl, hL⟩ | ⟨hout, hL⟩
  · have hX4 : f_X4_why M b (nI i) = if s (111 + 11 * i + 2) = nI 0 then ((f_X2_judgeWeek M (b + 1)).bind fun M11 => some ((M11.1 (b + 1 + 4 + (9 + i)) 10), M11)) else some (nI 1, M) := by
      rw [f_X4_why, (c_hasLetter h7).1 i hi hn rfl, Option.bind_some, if_neg (by decide), cz_gdn (by omega) (by decide), cz_lt_e, cz_cl (by omega), cz_rl5 ok hi (rp.2.2.2.2.2 i hi)]
    rw [hX4]
    by_cases h0 : s (111 + 11 * i + 2) = nI 0
    · rw [if_pos h0]
      obtain ⟨r, hr, hr1, hr2⟩ := (ok.1.2.2.2.2.2.1 i hi).2.2.1
      obtain ⟨k, hk, rfl⟩ := List.mem_iff_getElem.mp (hr2 h0)
      obtain ⟨M1, f1, t1, p1, e1⟩ := c_judgeWeek M (b + 1) ok.1 rp
      have hf := t1 r hr k hk
      have cv1 := cz_cv_now (now' := (s, n, W, R)) wf (e1.mono (fun x hx => hx)) p1 cv
      have rv1 : cz_rv (b + 461) M1 (s, n, W, R) hist pc slot used pad len := cz_rv_w (D := fun x => x < b + 461) (e1.w (fun x hx => by omega)) (fun x hx => hx) rv
      have s1 : M1.1 (b + 461 + 1) = s := rv1.1
      have hL1 : f_X5_isLetter M1 (b + 461) (nI (R r)[k]) = some (nI 1) := by
        rcases m_isLetter (M := M1) (a := b + 461) (n := n) (by rw [s1]; exact hs4) hn (nI (R r)[k]) with ⟨_, _, _, hz⟩ | ⟨hz, _⟩
        · exact hz
        · rcases hz with hz | hz
          · exact absurd hz (nI_pos (by omega))
          · exact absurd hz (nI_ge hi (by omega))
      obtain ⟨M5, f5, g5, e5⟩ := m_putAside M1 (b + 461)
      have s5 : M5.1 (b + 461 + 1) = s := by rw [(e5.1 _ (by omega)).1]; exact s1
      have v5 : cz_fg M5 (b + 461) := cz_fg_fr e5 (by omega) (by omega) rv1.2.2.2.2.2.2
      obtain ⟨M6, f6, g6, w6, u6, a6, b6, e6⟩ := m_week M5 (b + 461) (n := n) (W := W) (R := R) (by rw [s5]; exact ok) v5.1 v5.2
      rw [s5] at f6 g6 w6 u6
      obtain ⟨M7, f7, g7, e7⟩ := m_putBack M6 (b + 461)
      have iv7 : cz_iv b M7 := by
        have e : cz_fr (fun x => (b + 58 ≤ x ∧ x < b + 115) ∨ x = b + 461 + 1 ∨ x = b + 461 + 2 ∨ x = b + 461 + 7 ∨ x = b + 461 + 8 ∨ x = b + 461 + 9) M1 M7 := ((e5.mono (fun x hx => by omega)).tr (e6.mono (fun x hx => by omega))).tr (e7.mono (fun x hx => by omega))
        exact cz_trial wf cv1 rv1 e (fun x hx => hx) (fun j hj => by rw [g7 j hj, (e6.1 _ (by omega)).1, g5 j hj, s1]) (cz_fg_fr e7 (by omega) (by omega) ⟨a6, b6⟩)
      obtain ⟨z1, z2⟩ := cz_wA_l ok hr hk
      have hs6 : M6.1 (b + 461 + 1) (111 + 11 * (R r)[k] + 2) = if (cz_wA s W R).1 (111 + 11 * (R r)[k] + 2) = nI 3 then nI 1 else (cz_wA s W R).1 (111 + 11 * (R r)[k] + 2) := by
        rw [g6]
        unfold cz_wK
        rw [cz_fi_2 hi, pk_un (by omega)]
      have hth : ∀ j, M6.1 (b + 461 + 1) (111 + 11 * j) = s (111 + 11 * j) := fun j => by
        obtain ⟨n0, n1, n2, -⟩ := cz_ok_no ok.1
        have l2 := (ok.1.2.2.2.2.1 0 (by decide)).2.1
        have r2 := (ok.1.2.2.2.2.1 1 (by decide)).2.1
        rw [g6]
        unfold cz_wK
        rw [cz_fi_o _ _ _ (by omega), pk_un (by omega)]
        unfold cz_wA cz_wa
        rw [cz_gt_kp n1 r2 (by unfold cz_kp; omega) (by omega) (by omega), cz_gt_kp n0 l2 (by unfold cz_kp; omega) (by omega) (by omega)]
      have hbar : cz_bar (M6.1 (b + 461 + 1)) (M6.1 (b + 461 + 7)) (R r)[k] ↔ cz_bar s (cz_wt s) (R r)[k] := (cz_bar_e hth).trans (cz_bar_w (fun j hj => w6 j (by omega)))
      have hfk : cz_fk s (cz_wt s) (cz_no s (5 + 2 * (W % 4) + r)) (cz_no s 0) (R r) k = if cz_bar s (cz_wt s) (R r)[k] then 2 else if cz_nb s (cz_wt s) ((R r).take k) < cz_no s 0 then cz_ft s (cz_no s (5 + 2 * (W % 4) + r)) (R r)[k] else 3 := by
        unfold cz_fk
        rw [cz_gD hk]
      have hu6 := u6 _ hi
      rw [z2] at hu6
      rw [z1] at hs6
      generalize hT : cz_fk s (cz_wt s) (cz_no s (5 + 2 * (W % 4) + r)) (cz_no s 0) (R r) k = t at hf hfk hu6 hs6
      have hX5 : f_X5_why M1 (b + 461) (nI (R r)[k]) = some (nI t, M7) := by
        rw [f_X5_why, hL1, Option.bind_some, if_neg (by decide), m_of M1 _ (by omega) (by decide), Option.bind_some, s1, if_pos h0, f5, Option.bind_some, f6, cz_b2_s, m_of M6 _ (by omega) (by decide), Option.bind_some, hs6, f7]
        rcases m_isBarred M6 (b + 461) (show (R r)[k] < 40 by omega) (fun j hj => a6 j (by omega)) with ⟨hb, hbe⟩ | ⟨hb, hbe⟩
        · have hb2 := hbar.mp hb
          rw [if_pos hb2] at hfk
          subst hfk
          rw [hbe]
          rfl
        · rw [if_neg (fun z => hb (hbar.mpr z))] at hfk
          have ht : t = 0 ∨ t = 3 ∨ t = 4 ∨ t = 5 := by
            rw [hfk]
            split
            · have := cz_ft_c s (cz_no s (5 + 2 * (W % 4) + r)) (R r)[k]
              omega
            · omega
          rw [hbe, cz_gdn (show (R r)[k] < 40 by omega) (by decide), cz_cl (by omega), hu6]
          clear hT hfk hs6 hu6 hf
          rcases ht with rfl | rfl | rfl | rfl <;> rfl
      exact ⟨nI t, M1, M7, by rw [f1, Option.bind_some, hf], hX5, iv7⟩
    · rw [if_neg h0]
      exact ⟨nI 1, M, M, rfl, by rw [f_X5_why, hL, Option.bind_some, if_neg (by decide), m_of M _ (by omega) (by decide), Option.bind_some, hv1, if_neg h0], iv⟩
  · exact ⟨_, M, M, by rw [f_X4_why, (c_hasLetter h7).2 hout, Option.bind_some, if_pos rfl], by rw [f_X5_why, hL, Option.bind_some, if_pos rfl], iv⟩
