/-! counts -/
theorem o_count (M : cz_M) (b : Nat) (x : Int32) (iv : cz_iv b M) : ∃ v M1, f_X4_count M b x = some (v, M1) ∧ f_X5_count M1 (b + 461) x = some v ∧ cz_iv b M1 := by
  obtain ⟨now, hist, pc, slot, used, pad, len, wf, cv, rv⟩ := id iv
  obtain ⟨s, n, W, R⟩ := now
  have ok : cz_ok s n W R := wf.1.1
  have hn : n ≤ 40 := ok.1.1.1
  have hs4 : s 4 = nI n := ok.1.1.2.1
  have rp : cz_rp M (b + 1) s n R := cv.1
  have hin : ∀ (A : cz_M) j, 5 ≤ j → j < 16 → f_X5_in (nI j) (nI 0) (nI 4) = some (nI 0) := fun A j h1 h2 => by
    rw [m_inN (by omega) (by decide) (by decide), if_neg (by omega)]
  have hlow : ∀ (A : cz_M), A.1 (b + 461 + 1) = s → ∀ j, j < 5 → f_X5_count A (b + 461) (nI j) = some (s j) := fun A hA j hj => by
    rw [f_X5_count, m_inN (by omega) (by decide) (by decide), if_pos (by omega), Option.bind_some, if_neg (by decide), cz_gdn (by omega) (by decide), cz_cl (by omega), hA]
  have hv1 : M.1 (b + 461 + 1) = s := rv.1
  obtain ⟨M2, f2, g2, e2⟩ := c_threads ok rp
  have iv2 : cz_iv b M2 := by
    refine ⟨(s, n, W, R), hist, pc, slot, used, pad, len, wf, cz_cv_now wf (e2.mono (fun x hx => by omega)) g2 cv, cz_rv_w (D := fun x => x < b + 461) (e2.w (fun x hx => by omega)) (fun x hx => hx) rv⟩
  have hv2 : M2.1 (b + 461 + 1) = s := by rw [(e2.1 _ (by omega)).1]; exact hv1
  have hset : ∀ k, k < 3 → M.1 (b + 1 + 1) k = s k := rp.1
  have hrow : ∀ r, r < 2 → M.1 (b + 1 + 5 + (48 + 2 * r)) 1 = s (29 + r) := fun r hr => ((rp.2.2.2.2.1 r hr).1).trans (ok.1.2.2.2.2.1 r hr).1.symm
  by_cases hx : ∃ j, j < 16 ∧ x = nI j
  · obtain ⟨j, hj, rfl⟩ := hx
    rcases (show j = 0 ∨ j = 1 ∨ j = 2 ∨ j = 3 ∨ j = 4 ∨ j = 5 ∨ j = 6 ∨ j = 7 ∨ j = 8 ∨ j = 9 ∨ j = 10 ∨ j = 11 ∨ j = 12 ∨ j = 13 ∨ j = 14 ∨ j = 15 by omega) with rfl | rfl | rfl | rfl | rfl | rfl | rfl | rfl | rfl | rfl | rfl | rfl | rfl | rfl | rfl | rfl
    · exact ⟨s 0, M, by rw [← hset 0 (by decide)]; rfl, hlow M hv1 0 (by decide), iv⟩
    · exact ⟨s 1, M, by rw [← hset 1 (by decide)]; rfl, hlow M hv1 1 (by decide), iv⟩
    · exact ⟨s 2, M, by rw [← hset 2 (by decide)]; rfl, hlow M hv1 2 (by decide), iv⟩
    · exact ⟨s 3, M, by rw [← rp.2.1.1]; rfl, hlow M hv1 3 (by decide), iv⟩
    · exact ⟨s 4, M, by rw [← rp.2.1.2]; rfl, hlow M hv1 4 (by decide), iv⟩
    · refine ⟨nI (cz_ct s 0 n), M, ?_, ?_, iv⟩
      · rw [f_X4_count, c_are ok rp]; rfl
      · rw [f_X5_count, hin M 5 (by decide) (by decide), Option.bind_some, if_pos rfl, if_pos rfl, cz_subN (by decide), m_many (t := 5 - 5) hv1 hn hs4]; rfl
    · refine ⟨nI (cz_ct s 1 n), M, ?_, ?_, iv⟩
      · rw [f_X4_count, c_are (t := 1) ok rp]; rfl
      · rw [f_X5_count, hin M 6 (by decide) (by decide), Option.bind_some, if_pos rfl, if_neg (by decide), if_pos rfl, cz_subN (by decide), m_many (t := 6 - 5) hv1 hn hs4]; rfl
    · refine ⟨nI (cz_ct s 2 n), M, ?_, ?_, iv⟩
      · rw [f_X4_count, c_are (t := 2) ok rp]; rfl
      · rw [f_X5_count, hin M 7 (by decide) (by decide), Option.bind_some, if_pos rfl, if_neg (by decide), if_neg (by decide), if_pos rfl, cz_subN (by decide), m_many (t := 7 - 5) hv1 hn hs4]; rfl
    · refine ⟨s (29 + 0), M, by rw [← hrow 0 (by decide)]; rfl, ?_, iv⟩
      rw [f_X5_count, hin M 8 (by decide) (by decide), Option.bind_some, if_pos rfl, if_neg (by decide), if_neg (by decide), if_neg (by decide), if_pos rfl, nI_add, cz_subN (by decide), cz_gdn (by decide) (by decide), cz_cl (by decide), hv1]
    · refine ⟨s (29 + 1), M, by rw [← hrow 1 (by decide)]; rfl, ?_, iv⟩
      rw [f_X5_count, hin M 9 (by decide) (by decide), Option.bind_some, if_pos rfl, if_neg (by decide), if_neg (by decide), if_neg (by decide), if_neg (by decide), if_pos rfl, nI_add, cz_subN (by decide), cz_gdn (by decide) (by decide), cz_cl (by decide), hv1]
    · refine ⟨cz_sd s n, M, ?_, ?_, iv⟩
      · rw [f_X4_count, c_delays ok rp]; rfl
      · rw [f_X5_count, hin M 10 (by decide) (by decide), m_delays ok hv1]; rfl
    · refine ⟨cz_sM s n, M, ?_, ?_, iv⟩
      · rw [f_X4_count, c_longest ok rp]; rfl
      · rw [f_X5_count, hin M 11 (by decide) (by decide), m_longest ok hv1]; rfl
    · refine ⟨nI (cz_sw s n), M, ?_, ?_, iv⟩
      · rw [f_X4_count, c_words ok rp]; rfl
      · rw [f_X5_count, hin M 12 (by decide) (by decide), m_words ok hv1]; rfl
    · refine ⟨nI (cz_pc (cz_tw s n)), M2, ?_, ?_, iv2⟩
      · rw [f_X4_count, f2]; rfl
      · rw [f_X5_count, hin M2 13 (by decide) (by decide), m_threads ok hv2]; rfl
    · refine ⟨nI len, M, by rw [← cv.2.2.2.2.2.1]; rfl, ?_, iv⟩
      rw [f_X5_count, hin M 14 (by decide) (by decide), rv.2.2.2.2.1]; rfl
    · refine ⟨nI pc, M, by rw [← cv.2.1]; rfl, ?_, iv⟩
      rw [f_X5_count, hin M 15 (by decide) (by decide), rv.2.1]; rfl
  · have hne : ∀ j, j < 16 → ¬ x = nI j := fun j hj z => hx ⟨j, hj, z⟩
    have hi0 : f_X5_in x (nI 0) (nI 4) = some (nI 0) := by
      rcases cz_rng x 5 (by decide) with ⟨k, hk, rfl⟩ | h | h
      · exact absurd rfl (hne k (by omega))
      · exact m_in_out (by decide) (Or.inl h)
      · exact m_in_out (by decide) (Or.inr h)
    refine ⟨(-2 : Int32), M, ?_, ?_, iv⟩
    · rw [f_X4_count, if_neg (hne 0 (by decide)), if_neg (hne 1 (by decide)), if_neg (hne 2 (by decide)), if_neg (hne 3 (by decide)), if_neg (hne 4 (by decide)), if_neg (hne 5 (by decide)), if_neg (hne 6 (by decide)), if_neg (hne 7 (by decide)), if_neg (hne 8 (by decide)), if_neg (hne 9 (by decide)), if_neg (hne 10 (by decide)), if_neg (hne 11 (by decide)), if_neg (hne 12 (by decide)), if_neg (hne 13 (by decide)), if_neg (hne 14 (by decide)), if_neg (hne 15 (by decide))]
    · rw [f_X5_count, hi0, Option.bind_some, if_pos rfl, if_neg (hne 5 (by decide)), if_neg (hne 6 (by decide)), if_neg (hne 7 (by decide)), if_neg (hne 8 (by decide)), if_neg (hne 9 (by decide)), if_neg (hne 10 (by decide)), if_neg (hne 11 (by decide)), if_neg (hne 12 (by decide)), if_neg (hne 13 (by decide)), if_neg (hne 14 (by decide)), if_neg (hne 15 (by decide))]
