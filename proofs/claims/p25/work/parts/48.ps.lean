/-! what a week does to one waiting letter -/
theorem cz_wA_l {s : Nat → Int32} {n W r : Nat} {R : Nat → List Nat} (ok : cz_ok s n W R) (hr : r < 2) {k : Nat} (hk : k < (R r).length) :
    (cz_wA s W R).1 (111 + 11 * (R r)[k] + 2) = (if cz_fk s (cz_wt s) (cz_no s (5 + 2 * (W % 4) + r)) (cz_no s 0) (R r) k = 0 then nI 3 else if cz_fk s (cz_wt s) (cz_no s (5 + 2 * (W % 4) + r)) (cz_no s 0) (R r) k = 5 then nI 2 else nI 0) ∧ (cz_wA s W R).2 (R r)[k] = (if cz_fk s (cz_wt s) (cz_no s (5 + 2 * (W % 4) + r)) (cz_no s 0) (R r) k = 2 ∨ cz_fk s (cz_wt s) (cz_no s (5 + 2 * (W % 4) + r)) (cz_no s 0) (R r) k = 3 then nI 0 else nI 1) := by
  obtain ⟨n0, n1, n2, q0, q1, q2⟩ := cz_ok_no ok.1
  obtain ⟨gg1, -⟩ := cz_ok_g ok
  have hdj := fun i => cz_ok_dj ok.1 (i := i)
  obtain ⟨-, -, -, -, hrw, hle, -⟩ := ok.1
  obtain ⟨-, l2, -, l4, l5⟩ := hrw 0 (by decide)
  obtain ⟨-, r2, -, r4, r5⟩ := hrw 1 (by decide)
  obtain ⟨gA, gB⟩ := cz_go_all (w := cz_wt s) (u := fun _ => nI 0) (rdm := cz_no s 0) n0 l4 (fun i hi => (hle i (l5 i hi).1).1)
  have hkp : ∀ j, cz_kp j → (j < 29 ∨ 111 ≤ j) → (cz_gt (cz_wt s) 0 (cz_no s (5 + 2 * (W % 4))) (cz_no s 0) (R 0) (s, fun _ => nI 0)).1 j = s j := fun j h1 h2 => cz_gt_kp n0 l2 h1 (by omega) (by omega)
  have h0l : ∀ j, 111 ≤ j → (cz_gt (cz_wt s) 0 (cz_no s (5 + 2 * (W % 4))) (cz_no s 0) (R 0) (s, fun _ => nI 0)).1 j = (cz_go (cz_wt s) (cz_no s (5 + 2 * (W % 4))) (cz_no s 0) (R 0) (0, s, fun _ => nI 0)).2.1 j := fun j hj => cz_gt_l (by decide) l2 (Or.inr hj)
  have hlw1 : ∀ i ∈ R 1, cz_lw (cz_gt (cz_wt s) 0 (cz_no s (5 + 2 * (W % 4))) (cz_no s 0) (R 0) (s, fun _ => nI 0)).1 i := fun i hi => (gg1.2.2.2.2.2.1 i (r5 i hi).1).1
  obtain ⟨hA, hB⟩ := cz_go_all (w := cz_wt s) (s := (cz_gt (cz_wt s) 0 (cz_no s (5 + 2 * (W % 4))) (cz_no s 0) (R 0) (s, fun _ => nI 0)).1) (u := (cz_gt (cz_wt s) 0 (cz_no s (5 + 2 * (W % 4))) (cz_no s 0) (R 0) (s, fun _ => nI 0)).2) (rdm := cz_no s 0) n1 r4 hlw1
  have hw1 : ∀ j, 111 ≤ j → (cz_wA s W R).1 j = (cz_go (cz_wt s) (cz_no s (5 + 2 * (W % 4) + 1)) (cz_no s 0) (R 1) (0, (cz_gt (cz_wt s) 0 (cz_no s (5 + 2 * (W % 4))) (cz_no s 0) (R 0) (s, fun _ => nI 0)).1, (cz_gt (cz_wt s) 0 (cz_no s (5 + 2 * (W % 4))) (cz_no s 0) (R 0) (s, fun _ => nI 0)).2)).2.1 j := fun j hj => cz_gt_l (by decide) r2 (Or.inr hj)
  have hw2 : (cz_wA s W R).2 = (cz_go (cz_wt s) (cz_no s (5 + 2 * (W % 4) + 1)) (cz_no s 0) (R 1) (0, (cz_gt (cz_wt s) 0 (cz_no s (5 + 2 * (W % 4))) (cz_no s 0) (R 0) (s, fun _ => nI 0)).1, (cz_gt (cz_wt s) 0 (cz_no s (5 + 2 * (W % 4))) (cz_no s 0) (R 0) (s, fun _ => nI 0)).2)).2.2 := rfl
  rcases (show r = 0 ∨ r = 1 by omega) with rfl | rfl
  · have hmem : (R 0)[k] ∈ R 0 := List.getElem_mem hk
    have hno : (R 0)[k] ∉ R 1 := fun z => hdj _ hmem z
    rw [hw1 _ (by omega), hw2, (hA _ hno).1 2 (by decide), (hA _ hno).2, h0l _ (by omega), (gB k hk).1 2 (by decide), cz_gt_2, (gB k hk).2, cz_tl_2 (l5 _ hmem).2.2]
    exact ⟨rfl, rfl⟩
  · have hmem : (R 1)[k] ∈ R 1 := List.getElem_mem hk
    have hno : (R 1)[k] ∉ R 0 := fun z => hdj _ z hmem
    have h5 := r5 _ hmem
    obtain ⟨l, -, hl8, hl⟩ := (hle _ h5.1).1.1
    have hfk : cz_fk (cz_gt (cz_wt s) 0 (cz_no s (5 + 2 * (W % 4))) (cz_no s 0) (R 0) (s, fun _ => nI 0)).1 (cz_wt s) (cz_no s (5 + 2 * (W % 4) + 1)) (cz_no s 0) (R 1) k = cz_fk s (cz_wt s) (cz_no s (5 + 2 * (W % 4) + 1)) (cz_no s 0) (R 1) k := by
      refine cz_fk_e hk (fun j => ?_) ?_ ?_ ?_ ?_
      · exact hkp _ (by unfold cz_kp; omega) (by omega)
      · exact hkp _ (by unfold cz_kp; omega) (by omega)
      · exact hkp _ (by unfold cz_kp; omega) (by omega)
      · exact (h0l _ (by omega)).trans ((gA _ hno).1 6 (by decide))
      · exact cz_ms_e hl hl8 (hkp _ (by unfold cz_kp; omega) (by omega)) (hkp _ (by unfold cz_kp; omega) (by omega)) (hkp _ (by unfold cz_kp; omega) (by omega)) (hkp _ (by unfold cz_kp; omega) (by omega))
    have h20 : (cz_gt (cz_wt s) 0 (cz_no s (5 + 2 * (W % 4))) (cz_no s 0) (R 0) (s, fun _ => nI 0)).1 (111 + 11 * (R 1)[k] + 2) = nI 0 := (h0l _ (by omega)).trans (((gA _ hno).1 2 (by decide)).trans h5.2.2)
    have hu0 : (cz_gt (cz_wt s) 0 (cz_no s (5 + 2 * (W % 4))) (cz_no s 0) (R 0) (s, fun _ => nI 0)).2 (R 1)[k] = nI 0 := (gA _ hno).2
    rw [hw1 _ (by omega), hw2, (hB k hk).1 2 (by decide), (hB k hk).2, cz_tl_2 h20, hfk, hu0]
    exact ⟨rfl, rfl⟩
