/-! what there is of a letter -/
theorem o_letter (M : cz_M) (b : Nat) (x y : Int32) (iv : cz_iv b M) : ∃ v, f_X4_letter M b x y = some v ∧ f_X5_letter M (b + 461) x y = some v := by
  obtain ⟨now, hist, pc, slot, used, pad, len, wf, cv, rv⟩ := id iv
  obtain ⟨s, n, W, R⟩ := now
  have ok : cz_ok s n W R := wf.1.1
  have hn : n ≤ 40 := ok.1.1.1
  have hs4 : s 4 = nI n := ok.1.1.2.1
  have hv1 : M.1 (b + 461 + 1) = s := rv.1
  have rp : cz_rp M (b + 1) s n R := cv.1
  have h7 : M.1 (b + 1) 7 = nI n := rp.2.1.2.trans hs4
  rcases m_isLetter (M := M) (a := b + 461) (n := n) (by rw [hv1]; exact hs4) hn x with ⟨i, hi, rfl, hL⟩ | ⟨hout, hL⟩
  · have hle := ok.1.2.2.2.2.2.1 i hi
    obtain ⟨e1, e2, ⟨r, hr, hr1, hr2⟩, e4, e5, e6, e7, ⟨m, hm, hme⟩, e9, e10⟩ := hle
    have rl := rp.2.2.2.2.2 i hi
    have k5 := cz_rl5 ok hi rl
    obtain ⟨a0, a1, a3, a4, -, a6, -, a7, a8, a9, -⟩ := rl
    have ro := ok.1.2.2.2.2.1 r hr
    obtain ⟨l1, l2, l3, l4, l5⟩ := ro
    have hLi : ∀ i ∈ R r, i < 40 := fun i hi => by have := (l5 i hi).1; omega
    have hplace : ∃ v, f_X3_placeOf M (b + 1 + 5 + (48 + 2 * r)) (nI i) = some v ∧ f_X5_placeOf M (b + 461) (nI i) = some v := by
      by_cases h0 : s (111 + 11 * i + 2) = nI 0
      · obtain ⟨k, hk, rfl⟩ := List.mem_iff_getElem.mp (hr2 h0)
        exact ⟨nI k, c_placeOf_in (rp.2.2.2.2.1 r hr) l2 hLi l4 hk, m_placeOf_in hv1 hn hr ⟨l1, l2, l3, l4, l5⟩ hk⟩
      · exact ⟨_, c_placeOf_out (rp.2.2.2.2.1 r hr) l2 hLi (by omega) (fun z => h0 (l5 i z).2.2), m_placeOf_out hv1 (by omega) hr hr1 h0⟩
    obtain ⟨pv, hp4, hp5⟩ := hplace
    have hof : ∀ w, w < 11 → f_X5_of M (b + 461) (nI i) (nI w) = some (s (111 + 11 * i + w)) := fun w hw => by rw [m_of M _ (by omega) hw, hv1]
    have hah := c_aheadOf (M := M) (p := b + 1) (s := s) hn hi (fun j hj => (rp.2.2.2.2.2 j hj).1)
    have hX4 : f_X4_letter M b (nI i) y = if y = nI 0 then some (s (111 + 11 * i + 0)) else if y = nI 1 then some (s (111 + 11 * i + 1)) else if y = nI 2 then some (s (111 + 11 * i + 2)) else if y = nI 3 then some pv else if y = nI 4 then some (s (111 + 11 * i + 3)) else if y = nI 5 then some (s (111 + 11 * i + 4)) else if y = nI 6 then some (nI (cz_pc m)) else if y = nI 7 then some (s (111 + 11 * i + 6)) else if y = nI 8 then some (s (111 + 11 * i + 7)) else if y = nI 9 then some (cz_ah s i i) else if y = nI 10 then some (s (111 + 11 * i + 8)) else some (-2 : Int32) := by
      have h5 : (if M.1 (b + 1 + 4 + (9 + i)) 5 = nI 1 then some (M.1 (b + 1 + 4 + (9 + i)) 6) else some (-6 : Int32)) = some (s (111 + 11 * i + 4)) := by
        rw [k5]
        by_cases h1 : s (111 + 11 * i + 2) = nI 1
        · rw [if_pos h1, a6 h1]
        · rw [if_neg h1, e7 h1]
      rw [f_X4_letter, (c_hasLetter h7).1 i hi hn rfl, Option.bind_some, if_neg (by decide), cz_gdn (by omega) (by decide), cz_lt_e, cz_cl (show i < 2 ^ 31 by omega), h5, k5, a0, a1, a3, a4, a7, a9, f_X1_struckCount, a8, hme, c_bits8 m hm, hr1, cz_gdn hr (by decide), cz_cl (show r < 2 ^ 31 by omega), hp4, hah]
      rfl
    have hX5 : f_X5_letter M (b + 461) (nI i) y = if y = nI 0 then (f_X5_of M (b + 461) (nI i) y).bind some else if y = nI 1 then (f_X5_of M (b + 461) (nI i) y).bind some else if y = nI 2 then (f_X5_of M (b + 461) (nI i) y).bind some else if y = nI 3 then some pv else if y = nI 4 then (f_X5_of M (b + 461) (nI i) (y - nI 1)).bind some else if y = nI 5 then (f_X5_of M (b + 461) (nI i) (y - nI 1)).bind some else if y = nI 6 then some (nI (cz_pc m)) else if y = nI 7 then (f_X5_of M (b + 461) (nI i) (y - nI 1)).bind some else if y = nI 8 then (f_X5_of M (b + 461) (nI i) (y - nI 1)).bind some else if y = nI 9 then some (cz_ah s i i) else if y = nI 10 then some (s (111 + 11 * i + 8)) else some (-2 : Int32) := by
      rw [f_X5_letter, hL, Option.bind_some, if_neg (by decide), hp5, hof 5 (by decide), hof 8 (by decide), Option.bind_some, Option.bind_some, hme, m_bits8 m hm, m_aheadOf hv1 (by omega)]
      rfl
    rw [hX4, hX5]
    by_cases hy : ∃ j, j < 11 ∧ y = nI j
    · obtain ⟨j, hj, rfl⟩ := hy
      have hs1 : ∀ w, w < 11 → (f_X5_of M (b + 461) (nI i) (nI (w + 1) - nI 1)).bind some = some (s (111 + 11 * i + w)) := fun w hw => by
        rw [cz_subN (by omega), Nat.add_sub_cancel, hof w hw]
        rfl
      have hs0 : ∀ w, w < 11 → (f_X5_of M (b + 461) (nI i) (nI w)).bind some = some (s (111 + 11 * i + w)) := fun w hw => by
        rw [hof w hw]
        rfl
      rcases (show j = 0 ∨ j = 1 ∨ j = 2 ∨ j = 3 ∨ j = 4 ∨ j = 5 ∨ j = 6 ∨ j = 7 ∨ j = 8 ∨ j = 9 ∨ j = 10 by omega) with rfl | rfl | rfl | rfl | rfl | rfl | rfl | rfl | rfl | rfl | rfl
      · exact ⟨_, rfl, hs0 0 (by decide)⟩
      · exact ⟨_, rfl, hs0 1 (by decide)⟩
      · exact ⟨_, rfl, hs0 2 (by decide)⟩
      · exact ⟨_, rfl, rfl⟩
      · exact ⟨_, rfl, hs1 3 (by decide)⟩
      · exact ⟨_, rfl, hs1 4 (by decide)⟩
      · exact ⟨_, rfl, rfl⟩
      · exact ⟨_, rfl, hs1 6 (by decide)⟩
      · exact ⟨_, rfl, hs1 7 (by decide)⟩
      · exact ⟨_, rfl, rfl⟩
      · exact ⟨_, rfl, rfl⟩
    · have hne : ∀ j, j < 11 → ¬ y = nI j := fun j hj z => hy ⟨j, hj, z⟩
      refine ⟨(-2 : Int32), ?_, ?_⟩
      · rw [if_neg (hne 0 (by decide)), if_neg (hne 1 (by decide)), if_neg (hne 2 (by decide)), if_neg (hne 3 (by decide)), if_neg (hne 4 (by decide)), if_neg (hne 5 (by decide)), if_neg (hne 6 (by decide)), if_neg (hne 7 (by decide)), if_neg (hne 8 (by decide)), if_neg (hne 9 (by decide)), if_neg (hne 10 (by decide))]
      · rw [if_neg (hne 0 (by decide)), if_neg (hne 1 (by decide)), if_neg (hne 2 (by decide)), if_neg (hne 3 (by decide)), if_neg (hne 4 (by decide)), if_neg (hne 5 (by decide)), if_neg (hne 6 (by decide)), if_neg (hne 7 (by decide)), if_neg (hne 8 (by decide)), if_neg (hne 9 (by decide)), if_neg (hne 10 (by decide))]
  · exact ⟨_, by rw [f_X4_letter, (c_hasLetter h7).2 hout, Option.bind_some, if_pos rfl], by rw [f_X5_letter, hL, Option.bind_some, if_pos rfl]⟩
