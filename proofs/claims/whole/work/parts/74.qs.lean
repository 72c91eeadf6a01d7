/-! THE LAW'S LOOP, with no machine -/
set_option maxHeartbeats 8000000 in
theorem law_step (b L : Nat) (xs : Nat → Int32) (hL : L ≤ 1536) (k : Nat) (hk : 3 * k + 3 ≤ L) (M : cz_M) (iv : cz_iv b M) : ∃ M', cz_iv b M' ∧ ∀ rec, f_law_B L xs b (b + 461) rec (nI (3 * k)) M = rec (nI (3 * k + 3)) M' := by
  have g0 : ∀ K : Option Unit, cz_gd (cz_ib (nI (3 * k)) L) K = K := fun K => cz_gdn (by omega) (by omega)
  have g1 : ∀ K : Option Unit, cz_gd (cz_ib (nI (3 * k + 1)) L) K = K := fun K => cz_gdn (by omega) (by omega)
  have g2 : ∀ K : Option Unit, cz_gd (cz_ib (nI (3 * k + 2)) L) K = K := fun K => cz_gdn (by omega) (by omega)
  have c0 : Int32.toNatClampNeg (nI (3 * k)) = 3 * k := cz_cl (by omega)
  have c1 : Int32.toNatClampNeg (nI (3 * k + 1)) = 3 * k + 1 := cz_cl (by omega)
  have c2 : Int32.toNatClampNeg (nI (3 * k + 2)) = 3 * k + 2 := cz_cl (by omega)
  have hn : ¬ nI L - nI 3 < nI (3 * k) := by rw [cz_subN (by omega)]; exact nI_nlt (by omega) (by omega)
  obtain ⟨j, hj, hv⟩ := pk_andE (xs (3 * k)) (m := nI 31) 5 (by decide)
  have hj : j < 32 := hj
  generalize hX : xs (3 * k + 1) = X
  generalize hY : xs (3 * k + 2) = Y
  have dec : ∀ i, i < 32 → i ≠ j → ¬ nI j = nI i := fun i hi hne z => hne (cz_nI_inj (by omega) (by omega) z).symm
  rcases (show j = 0 ∨ j = 1 ∨ j = 2 ∨ j = 3 ∨ j = 4 ∨ j = 5 ∨ j = 6 ∨ j = 7 ∨ j = 8 ∨ j = 9 ∨ j = 10 ∨ j = 11 ∨ j = 12 ∨ j = 13 ∨ j = 14 ∨ j = 15 ∨ j = 16 ∨ j = 17 ∨ j = 18 ∨ j = 19 ∨ j = 20 ∨ j = 21 ∨ 22 ≤ j by omega) with rfl | rfl | rfl | rfl | rfl | rfl | rfl | rfl | rfl | rfl | rfl | rfl | rfl | rfl | rfl | rfl | rfl | rfl | rfl | rfl | rfl | rfl | hj22
  · obtain ⟨w, M1, M2, f4, f5, iv2⟩ := o_set M b X Y iv
    refine ⟨M2, iv2, fun rec => ?_⟩
    rw [f_law_B, if_neg hn, g0, c0, hv, cz_lt_e, if_pos rfl, nI_add, nI_add, g1, g2, c1, c2, hX, hY, f4, cz_b2_s, g1, g2, f5, cz_b2_s, if_pos rfl, cz_lt_e, nI_add]
  · obtain ⟨w, M1, M2, f4, f5, iv2⟩ := o_strike M b X Y iv
    refine ⟨M2, iv2, fun rec => ?_⟩
    rw [f_law_B, if_neg hn, g0, c0, hv, cz_lt_e, if_neg (show ¬ nI 1 = nI 0 by decide), if_pos rfl, nI_add, nI_add, g1, g2, c1, c2, hX, hY, f4, cz_b2_s, g1, g2, f5, cz_b2_s, if_pos rfl, cz_lt_e, nI_add]
  · obtain ⟨w, M1, M2, f4, f5, iv2⟩ := o_trade M b X Y iv
    refine ⟨M2, iv2, fun rec => ?_⟩
    rw [f_law_B, if_neg hn, g0, c0, hv, cz_lt_e, if_neg (show ¬ nI 2 = nI 0 by decide), if_neg (show ¬ nI 2 = nI 1 by decide), if_pos rfl, nI_add, nI_add, g1, g2, c1, c2, hX, hY, f4, cz_b2_s, g1, g2, f5, cz_b2_s, if_pos rfl, cz_lt_e, nI_add]
  · obtain ⟨w, M1, M2, f4, f5, iv2⟩ := o_read M b iv
    refine ⟨M2, iv2, fun rec => ?_⟩
    rw [f_law_B, if_neg hn, g0, c0, hv, cz_lt_e, if_neg (show ¬ nI 3 = nI 0 by decide), if_neg (show ¬ nI 3 = nI 1 by decide), if_neg (show ¬ nI 3 = nI 2 by decide), if_pos rfl, f4, cz_b2_s, f5, cz_b2_s, if_pos rfl, cz_lt_e, nI_add]
  · obtain ⟨w, M1, M2, f4, f5, iv2⟩ := o_burn M b X iv
    refine ⟨M2, iv2, fun rec => ?_⟩
    rw [f_law_B, if_neg hn, g0, c0, hv, cz_lt_e, if_neg (show ¬ nI 4 = nI 0 by decide), if_neg (show ¬ nI 4 = nI 1 by decide), if_neg (show ¬ nI 4 = nI 2 by decide), if_neg (show ¬ nI 4 = nI 3 by decide), if_pos rfl, nI_add, g1, c1, hX, f4, cz_b2_s, g1, f5, cz_b2_s, if_pos rfl, cz_lt_e, nI_add]
  · obtain ⟨w, M1, M2, f4, f5, iv2⟩ := o_pass M b X iv
    refine ⟨M2, iv2, fun rec => ?_⟩
    rw [f_law_B, if_neg hn, g0, c0, hv, cz_lt_e, if_neg (show ¬ nI 5 = nI 0 by decide), if_neg (show ¬ nI 5 = nI 1 by decide), if_neg (show ¬ nI 5 = nI 2 by decide), if_neg (show ¬ nI 5 = nI 3 by decide), if_neg (show ¬ nI 5 = nI 4 by decide), if_pos rfl, nI_add, g1, c1, hX, f4, cz_b2_s, g1, f5, cz_b2_s, if_pos rfl, cz_lt_e, nI_add]
  · obtain ⟨w, f4, f5⟩ := o_letter M b X Y iv
    refine ⟨M, iv, fun rec => ?_⟩
    rw [f_law_B, if_neg hn, g0, c0, hv, cz_lt_e, if_neg (show ¬ nI 6 = nI 0 by decide), if_neg (show ¬ nI 6 = nI 1 by decide), if_neg (show ¬ nI 6 = nI 2 by decide), if_neg (show ¬ nI 6 = nI 3 by decide), if_neg (show ¬ nI 6 = nI 4 by decide), if_neg (show ¬ nI 6 = nI 5 by decide), if_pos rfl, nI_add, nI_add, g1, g2, c1, c2, hX, hY, f4, Option.bind_some, g1, g2, f5, Option.bind_some, if_pos rfl, cz_lt_e, nI_add]
  · obtain ⟨w, f4, f5⟩ := o_word M b X Y iv
    refine ⟨M, iv, fun rec => ?_⟩
    rw [f_law_B, if_neg hn, g0, c0, hv, cz_lt_e, if_neg (show ¬ nI 7 = nI 0 by decide), if_neg (show ¬ nI 7 = nI 1 by decide), if_neg (show ¬ nI 7 = nI 2 by decide), if_neg (show ¬ nI 7 = nI 3 by decide), if_neg (show ¬ nI 7 = nI 4 by decide), if_neg (show ¬ nI 7 = nI 5 by decide), if_neg (show ¬ nI 7 = nI 6 by decide), if_pos rfl, nI_add, nI_add, g1, g2, c1, c2, hX, hY, f4, Option.bind_some, g1, g2, f5, Option.bind_some, if_pos rfl, cz_lt_e, nI_add]
  · obtain ⟨w, M1, M2, f4, f5, iv2⟩ := o_why M b X iv
    refine ⟨M2, iv2, fun rec => ?_⟩
    rw [f_law_B, if_neg hn, g0, c0, hv, cz_lt_e, if_neg (show ¬ nI 8 = nI 0 by decide), if_neg (show ¬ nI 8 = nI 1 by decide), if_neg (show ¬ nI 8 = nI 2 by decide), if_neg (show ¬ nI 8 = nI 3 by decide), if_neg (show ¬ nI 8 = nI 4 by decide), if_neg (show ¬ nI 8 = nI 5 by decide), if_neg (show ¬ nI 8 = nI 6 by decide), if_neg (show ¬ nI 8 = nI 7 by decide), if_pos rfl, nI_add, g1, c1, hX, f4, cz_b2_s, g1, f5, cz_b2_s, if_pos rfl, cz_lt_e, nI_add]
  · obtain ⟨w, f4, f5⟩ := o_censor M b X Y iv
    refine ⟨M, iv, fun rec => ?_⟩
    rw [f_law_B, if_neg hn, g0, c0, hv, cz_lt_e, if_neg (show ¬ nI 9 = nI 0 by decide), if_neg (show ¬ nI 9 = nI 1 by decide), if_neg (show ¬ nI 9 = nI 2 by decide), if_neg (show ¬ nI 9 = nI 3 by decide), if_neg (show ¬ nI 9 = nI 4 by decide), if_neg (show ¬ nI 9 = nI 5 by decide), if_neg (show ¬ nI 9 = nI 6 by decide), if_neg (show ¬ nI 9 = nI 7 by decide), if_neg (show ¬ nI 9 = nI 8 by decide), if_pos rfl, nI_add, nI_add, g1, g2, c1, c2, hX, hY, f4, Option.bind_some, g1, g2, f5, Option.bind_some, if_pos rfl, cz_lt_e, nI_add]
  · obtain ⟨w, f4, f5⟩ := o_onShift M b X Y iv
    refine ⟨M, iv, fun rec => ?_⟩
    rw [f_law_B, if_neg hn, g0, c0, hv, cz_lt_e, if_neg (show ¬ nI 10 = nI 0 by decide), if_neg (show ¬ nI 10 = nI 1 by decide), if_neg (show ¬ nI 10 = nI 2 by decide), if_neg (show ¬ nI 10 = nI 3 by decide), if_neg (show ¬ nI 10 = nI 4 by decide), if_neg (show ¬ nI 10 = nI 5 by decide), if_neg (show ¬ nI 10 = nI 6 by decide), if_neg (show ¬ nI 10 = nI 7 by decide), if_neg (show ¬ nI 10 = nI 8 by decide), if_neg (show ¬ nI 10 = nI 9 by decide), if_pos rfl, nI_add, nI_add, g1, g2, c1, c2, hX, hY, f4, Option.bind_some, g1, g2, f5, Option.bind_some, if_pos rfl, cz_lt_e, nI_add]
  · obtain ⟨w, M1, f4, f5, iv2⟩ := o_count M b X iv
    refine ⟨M1, iv2, fun rec => ?_⟩
    rw [f_law_B, if_neg hn, g0, c0, hv, cz_lt_e, if_neg (show ¬ nI 11 = nI 0 by decide), if_neg (show ¬ nI 11 = nI 1 by decide), if_neg (show ¬ nI 11 = nI 2 by decide), if_neg (show ¬ nI 11 = nI 3 by decide), if_neg (show ¬ nI 11 = nI 4 by decide), if_neg (show ¬ nI 11 = nI 5 by decide), if_neg (show ¬ nI 11 = nI 6 by decide), if_neg (show ¬ nI 11 = nI 7 by decide), if_neg (show ¬ nI 11 = nI 8 by decide), if_neg (show ¬ nI 11 = nI 9 by decide), if_neg (show ¬ nI 11 = nI 10 by decide), if_pos rfl, nI_add, g1, c1, hX, f4, cz_b2_s, g1, f5, Option.bind_some, if_pos rfl, cz_lt_e, nI_add]
  · obtain ⟨w, M1, M2, f4, f5, iv2⟩ := o_untilCome M b X iv
    refine ⟨M2, iv2, fun rec => ?_⟩
    rw [f_law_B, if_neg hn, g0, c0, hv, cz_lt_e, if_neg (show ¬ nI 12 = nI 0 by decide), if_neg (show ¬ nI 12 = nI 1 by decide), if_neg (show ¬ nI 12 = nI 2 by decide), if_neg (show ¬ nI 12 = nI 3 by decide), if_neg (show ¬ nI 12 = nI 4 by decide), if_neg (show ¬ nI 12 = nI 5 by decide), if_neg (show ¬ nI 12 = nI 6 by decide), if_neg (show ¬ nI 12 = nI 7 by decide), if_neg (show ¬ nI 12 = nI 8 by decide), if_neg (show ¬ nI 12 = nI 9 by decide), if_neg (show ¬ nI 12 = nI 10 by decide), if_neg (show ¬ nI 12 = nI 11 by decide), if_pos rfl, nI_add, g1, c1, hX, f4, cz_b2_s, g1, f5, cz_b2_s, if_pos rfl, cz_lt_e, nI_add]
  · obtain ⟨w, M1, M2, f4, f5, iv2⟩ := o_ifPassed M b X Y iv
    refine ⟨M2, iv2, fun rec => ?_⟩
    rw [f_law_B, if_neg hn, g0, c0, hv, cz_lt_e, if_neg (show ¬ nI 13 = nI 0 by decide), if_neg (show ¬ nI 13 = nI 1 by decide), if_neg (show ¬ nI 13 = nI 2 by decide), if_neg (show ¬ nI 13 = nI 3 by decide), if_neg (show ¬ nI 13 = nI 4 by decide), if_neg (show ¬ nI 13 = nI 5 by decide), if_neg (show ¬ nI 13 = nI 6 by decide), if_neg (show ¬ nI 13 = nI 7 by decide), if_neg (show ¬ nI 13 = nI 8 by decide), if_neg (show ¬ nI 13 = nI 9 by decide), if_neg (show ¬ nI 13 = nI 10 by decide), if_neg (show ¬ nI 13 = nI 11 by decide), if_neg (show ¬ nI 13 = nI 12 by decide), if_pos rfl, nI_add, nI_add, g1, g2, c1, c2, hX, hY, f4, cz_b2_s, g1, g2, f5, cz_b2_s, if_pos rfl, cz_lt_e, nI_add]
  · obtain ⟨w, M1, M2, f4, f5, iv2⟩ := o_bestTrade M b iv
    refine ⟨M2, iv2, fun rec => ?_⟩
    rw [f_law_B, if_neg hn, g0, c0, hv, cz_lt_e, if_neg (show ¬ nI 14 = nI 0 by decide), if_neg (show ¬ nI 14 = nI 1 by decide), if_neg (show ¬ nI 14 = nI 2 by decide), if_neg (show ¬ nI 14 = nI 3 by decide), if_neg (show ¬ nI 14 = nI 4 by decide), if_neg (show ¬ nI 14 = nI 5 by decide), if_neg (show ¬ nI 14 = nI 6 by decide), if_neg (show ¬ nI 14 = nI 7 by decide), if_neg (show ¬ nI 14 = nI 8 by decide), if_neg (show ¬ nI 14 = nI 9 by decide), if_neg (show ¬ nI 14 = nI 10 by decide), if_neg (show ¬ nI 14 = nI 11 by decide), if_neg (show ¬ nI 14 = nI 12 by decide), if_neg (show ¬ nI 14 = nI 13 by decide), if_pos rfl, f4, cz_b2_s, f5, cz_b2_s, if_pos rfl, cz_lt_e, nI_add]
  · obtain ⟨w, M1, M2, f4, f5, iv2⟩ := o_leastLimit M b iv
    refine ⟨M2, iv2, fun rec => ?_⟩
    rw [f_law_B, if_neg hn, g0, c0, hv, cz_lt_e, if_neg (show ¬ nI 15 = nI 0 by decide), if_neg (show ¬ nI 15 = nI 1 by decide), if_neg (show ¬ nI 15 = nI 2 by decide), if_neg (show ¬ nI 15 = nI 3 by decide), if_neg (show ¬ nI 15 = nI 4 by decide), if_neg (show ¬ nI 15 = nI 5 by decide), if_neg (show ¬ nI 15 = nI 6 by decide), if_neg (show ¬ nI 15 = nI 7 by decide), if_neg (show ¬ nI 15 = nI 8 by decide), if_neg (show ¬ nI 15 = nI 9 by decide), if_neg (show ¬ nI 15 = nI 10 by decide), if_neg (show ¬ nI 15 = nI 11 by decide), if_neg (show ¬ nI 15 = nI 12 by decide), if_neg (show ¬ nI 15 = nI 13 by decide), if_neg (show ¬ nI 15 = nI 14 by decide), if_pos rfl, f4, cz_b2_s, f5, cz_b2_s, if_pos rfl, cz_lt_e, nI_add]
  · obtain ⟨w, M1, M2, f4, f5, iv2⟩ := o_put M b ((cz_sl (Int32.toInt64 X) (nI 32)) ||| ((Int32.toInt64 Y) &&& (4294967295 : Int64))) iv
    refine ⟨M2, iv2, fun rec => ?_⟩
    rw [f_law_B, if_neg hn, g0, c0, hv, cz_lt_e, if_neg (show ¬ nI 16 = nI 0 by decide), if_neg (show ¬ nI 16 = nI 1 by decide), if_neg (show ¬ nI 16 = nI 2 by decide), if_neg (show ¬ nI 16 = nI 3 by decide), if_neg (show ¬ nI 16 = nI 4 by decide), if_neg (show ¬ nI 16 = nI 5 by decide), if_neg (show ¬ nI 16 = nI 6 by decide), if_neg (show ¬ nI 16 = nI 7 by decide), if_neg (show ¬ nI 16 = nI 8 by decide), if_neg (show ¬ nI 16 = nI 9 by decide), if_neg (show ¬ nI 16 = nI 10 by decide), if_neg (show ¬ nI 16 = nI 11 by decide), if_neg (show ¬ nI 16 = nI 12 by decide), if_neg (show ¬ nI 16 = nI 13 by decide), if_neg (show ¬ nI 16 = nI 14 by decide), if_neg (show ¬ nI 16 = nI 15 by decide), if_pos rfl, nI_add, nI_add, g1, g2, c1, c2, hX, hY, f4, cz_b2_s, g1, g2, f5, cz_b2_s, if_pos rfl, cz_lt_e, nI_add]
  · obtain ⟨w, M1, M2, f4, f5, iv2⟩ := o_wipe M b iv
    refine ⟨M2, iv2, fun rec => ?_⟩
    rw [f_law_B, if_neg hn, g0, c0, hv, cz_lt_e, if_neg (show ¬ nI 17 = nI 0 by decide), if_neg (show ¬ nI 17 = nI 1 by decide), if_neg (show ¬ nI 17 = nI 2 by decide), if_neg (show ¬ nI 17 = nI 3 by decide), if_neg (show ¬ nI 17 = nI 4 by decide), if_neg (show ¬ nI 17 = nI 5 by decide), if_neg (show ¬ nI 17 = nI 6 by decide), if_neg (show ¬ nI 17 = nI 7 by decide), if_neg (show ¬ nI 17 = nI 8 by decide), if_neg (show ¬ nI 17 = nI 9 by decide), if_neg (show ¬ nI 17 = nI 10 by decide), if_neg (show ¬ nI 17 = nI 11 by decide), if_neg (show ¬ nI 17 = nI 12 by decide), if_neg (show ¬ nI 17 = nI 13 by decide), if_neg (show ¬ nI 17 = nI 14 by decide), if_neg (show ¬ nI 17 = nI 15 by decide), if_neg (show ¬ nI 17 = nI 16 by decide), if_pos rfl, f4, cz_b2_s, f5, cz_b2_s, if_pos rfl, cz_lt_e, nI_add]
  · obtain ⟨w, M2, f4, f5, iv2⟩ := o_fault M b iv
    refine ⟨M2, iv2, fun rec => ?_⟩
    rw [f_law_B, if_neg hn, g0, c0, hv, cz_lt_e, if_neg (show ¬ nI 18 = nI 0 by decide), if_neg (show ¬ nI 18 = nI 1 by decide), if_neg (show ¬ nI 18 = nI 2 by decide), if_neg (show ¬ nI 18 = nI 3 by decide), if_neg (show ¬ nI 18 = nI 4 by decide), if_neg (show ¬ nI 18 = nI 5 by decide), if_neg (show ¬ nI 18 = nI 6 by decide), if_neg (show ¬ nI 18 = nI 7 by decide), if_neg (show ¬ nI 18 = nI 8 by decide), if_neg (show ¬ nI 18 = nI 9 by decide), if_neg (show ¬ nI 18 = nI 10 by decide), if_neg (show ¬ nI 18 = nI 11 by decide), if_neg (show ¬ nI 18 = nI 12 by decide), if_neg (show ¬ nI 18 = nI 13 by decide), if_neg (show ¬ nI 18 = nI 14 by decide), if_neg (show ¬ nI 18 = nI 15 by decide), if_neg (show ¬ nI 18 = nI 16 by decide), if_neg (show ¬ nI 18 = nI 17 by decide), if_pos rfl, f4, Option.bind_some, f5, cz_b2_s, if_pos rfl, cz_lt_e, nI_add]
  · obtain ⟨w, M1, M2, f4, f5, iv2⟩ := o_undo M b iv
    refine ⟨M2, iv2, fun rec => ?_⟩
    rw [f_law_B, if_neg hn, g0, c0, hv, cz_lt_e, if_neg (show ¬ nI 19 = nI 0 by decide), if_neg (show ¬ nI 19 = nI 1 by decide), if_neg (show ¬ nI 19 = nI 2 by decide), if_neg (show ¬ nI 19 = nI 3 by decide), if_neg (show ¬ nI 19 = nI 4 by decide), if_neg (show ¬ nI 19 = nI 5 by decide), if_neg (show ¬ nI 19 = nI 6 by decide), if_neg (show ¬ nI 19 = nI 7 by decide), if_neg (show ¬ nI 19 = nI 8 by decide), if_neg (show ¬ nI 19 = nI 9 by decide), if_neg (show ¬ nI 19 = nI 10 by decide), if_neg (show ¬ nI 19 = nI 11 by decide), if_neg (show ¬ nI 19 = nI 12 by decide), if_neg (show ¬ nI 19 = nI 13 by decide), if_neg (show ¬ nI 19 = nI 14 by decide), if_neg (show ¬ nI 19 = nI 15 by decide), if_neg (show ¬ nI 19 = nI 16 by decide), if_neg (show ¬ nI 19 = nI 17 by decide), if_neg (show ¬ nI 19 = nI 18 by decide), if_pos rfl, f4, cz_b2_s, f5, cz_b2_s, if_pos rfl, cz_lt_e, nI_add]
  · obtain ⟨w, M1, M2, f4, f5, iv2⟩ := o_save M b X iv
    refine ⟨M2, iv2, fun rec => ?_⟩
    rw [f_law_B, if_neg hn, g0, c0, hv, cz_lt_e, if_neg (show ¬ nI 20 = nI 0 by decide), if_neg (show ¬ nI 20 = nI 1 by decide), if_neg (show ¬ nI 20 = nI 2 by decide), if_neg (show ¬ nI 20 = nI 3 by decide), if_neg (show ¬ nI 20 = nI 4 by decide), if_neg (show ¬ nI 20 = nI 5 by decide), if_neg (show ¬ nI 20 = nI 6 by decide), if_neg (show ¬ nI 20 = nI 7 by decide), if_neg (show ¬ nI 20 = nI 8 by decide), if_neg (show ¬ nI 20 = nI 9 by decide), if_neg (show ¬ nI 20 = nI 10 by decide), if_neg (show ¬ nI 20 = nI 11 by decide), if_neg (show ¬ nI 20 = nI 12 by decide), if_neg (show ¬ nI 20 = nI 13 by decide), if_neg (show ¬ nI 20 = nI 14 by decide), if_neg (show ¬ nI 20 = nI 15 by decide), if_neg (show ¬ nI 20 = nI 16 by decide), if_neg (show ¬ nI 20 = nI 17 by decide), if_neg (show ¬ nI 20 = nI 18 by decide), if_neg (show ¬ nI 20 = nI 19 by decide), if_pos rfl, nI_add, g1, c1, hX, f4, cz_b2_s, g1, f5, cz_b2_s, if_pos rfl, cz_lt_e, nI_add]
  · obtain ⟨w, M1, M2, f4, f5, iv2⟩ := o_restore M b X iv
    refine ⟨M2, iv2, fun rec => ?_⟩
    rw [f_law_B, if_neg hn, g0, c0, hv, cz_lt_e, if_neg (show ¬ nI 21 = nI 0 by decide), if_neg (show ¬ nI 21 = nI 1 by decide), if_neg (show ¬ nI 21 = nI 2 by decide), if_neg (show ¬ nI 21 = nI 3 by decide), if_neg (show ¬ nI 21 = nI 4 by decide), if_neg (show ¬ nI 21 = nI 5 by decide), if_neg (show ¬ nI 21 = nI 6 by decide), if_neg (show ¬ nI 21 = nI 7 by decide), if_neg (show ¬ nI 21 = nI 8 by decide), if_neg (show ¬ nI 21 = nI 9 by decide), if_neg (show ¬ nI 21 = nI 10 by decide), if_neg (show ¬ nI 21 = nI 11 by decide), if_neg (show ¬ nI 21 = nI 12 by decide), if_neg (show ¬ nI 21 = nI 13 by decide), if_neg (show ¬ nI 21 = nI 14 by decide), if_neg (show ¬ nI 21 = nI 15 by decide), if_neg (show ¬ nI 21 = nI 16 by decide), if_neg (show ¬ nI 21 = nI 17 by decide), if_neg (show ¬ nI 21 = nI 18 by decide), if_neg (show ¬ nI 21 = nI 19 by decide), if_neg (show ¬ nI 21 = nI 20 by decide), if_pos rfl, nI_add, g1, c1, hX, f4, cz_b2_s, g1, f5, cz_b2_s, if_pos rfl, cz_lt_e, nI_add]
  · refine ⟨M, iv, fun rec => ?_⟩
    rw [f_law_B, if_neg hn, g0, c0, hv, cz_lt_e, if_neg (dec 0 (by decide) (by omega)), if_neg (dec 1 (by decide) (by omega)), if_neg (dec 2 (by decide) (by omega)), if_neg (dec 3 (by decide) (by omega)), if_neg (dec 4 (by decide) (by omega)), if_neg (dec 5 (by decide) (by omega)), if_neg (dec 6 (by decide) (by omega)), if_neg (dec 7 (by decide) (by omega)), if_neg (dec 8 (by decide) (by omega)), if_neg (dec 9 (by decide) (by omega)), if_neg (dec 10 (by decide) (by omega)), if_neg (dec 11 (by decide) (by omega)), if_neg (dec 12 (by decide) (by omega)), if_neg (dec 13 (by decide) (by omega)), if_neg (dec 14 (by decide) (by omega)), if_neg (dec 15 (by decide) (by omega)), if_neg (dec 16 (by decide) (by omega)), if_neg (dec 17 (by decide) (by omega)), if_neg (dec 18 (by decide) (by omega)), if_neg (dec 19 (by decide) (by omega)), if_neg (dec 20 (by decide) (by omega)), if_neg (dec 21 (by decide) (by omega)), cz_lt_e, nI_add]
theorem law_loop (b L : Nat) (xs : Nat → Int32) (hL : L ≤ 1536) : ∀ (d k fuel : Nat) (M : cz_M), L ≤ 3 * (k + d) + 2 → 3 * k ≤ L → d < fuel → cz_iv b M → cz_it2 (f_law_B L xs b (b + 461)) fuel (nI (3 * k)) M = some () := by
  intro d
  have hend : ∀ (k g : Nat) (M : cz_M), L ≤ 3 * k + 2 → 3 * k ≤ L → f_law_B L xs b (b + 461) (cz_it2 (f_law_B L xs b (b + 461)) g) (nI (3 * k)) M = some () := fun k g M h1 h2 => by
    have hlt : nI L - nI 3 < nI (3 * k) := by
      by_cases h3 : 3 ≤ L
      · rw [cz_subN h3]; exact nI_lt (by omega) (by omega)
      · obtain rfl : k = 0 := by omega
        rcases (show L = 0 ∨ L = 1 ∨ L = 2 by omega) with rfl | rfl | rfl <;> decide
    rw [f_law_B, if_pos hlt]
  induction d with
  | zero =>
    intro k fuel M h1 h2 hf iv
    obtain ⟨g, rfl⟩ : ∃ g, fuel = g + 1 := ⟨fuel - 1, by omega⟩
    exact hend k g M (by omega) h2
  | succ d ih =>
    intro k fuel M h1 h2 hf iv
    obtain ⟨g, rfl⟩ : ∃ g, fuel = g + 1 := ⟨fuel - 1, by omega⟩
    by_cases h3 : L ≤ 3 * k + 2
    · exact hend k g M h3 h2
    · obtain ⟨M', iv', h⟩ := law_step b L xs hL k (by omega) M iv
      exact (h _).trans (ih (k + 1) g M' (by omega) (by omega) (by omega) iv')
theorem pure_law (b L : Nat) (xs : Nat → Int32) (hL : L ≤ 1536) : cz_it2 (f_law_B L xs b (b + 461)) 4096 0 (cz_M0 b) = some () := law_loop b L xs hL 512 0 4096 (cz_M0 b) (by omega) (by omega) (by decide) (cz_iv_0 b)
