/-! a word of a letter -/
theorem o_word (M : cz_M) (b : Nat) (x y : Int32) (iv : cz_iv b M) : ∃ v, f_X4_word M b x y = some v ∧ f_X5_word M (b + 461) x y = some v := by
  obtain ⟨now, hist, pc, slot, used, pad, len, wf, cv, rv⟩ := id iv
  obtain ⟨s, n, W, R⟩ := now
  have ok : cz_ok s n W R := wf.1.1
  have hn : n ≤ 40 := ok.1.1.1
  have hs4 : s 4 = nI n := ok.1.1.2.1
  have hv1 : M.1 (b + 461 + 1) = s := rv.1
  have rp : cz_rp M (b + 1) s n R := cv.1
  have h7 : M.1 (b + 1) 7 = nI n := rp.2.1.2.trans hs4
  rcases m_isLetter (M := M) (a := b + 461) (n := n) (by rw [hv1]; exact hs4) hn x with ⟨i, hi, rfl, hL⟩ | ⟨hout, hL⟩
  · have hle := ok.1.2.2.2.2.2.1 i hi
    obtain ⟨⟨l, hl1, hl8, hl⟩, ⟨u, hu2, hu⟩, ⟨v, hv2, hv⟩⟩ := hle.1
    obtain ⟨m, hm, hme⟩ := hle.2.2.2.2.2.2.2.1
    have rl := rp.2.2.2.2.2 i hi
    have e3 : M.1 (b + 1 + 4 + (9 + i)) 3 = nI l := rl.2.2.1.trans hl
    have e8 : M.1 (b + 1 + 4 + (9 + i)) 8 = nI m := rl.2.2.2.2.2.2.2.2.1.trans hme
    have e11 := rl.2.2.2.2.2.2.2.2.2.2
    rw [cz_no_e hl (by omega)] at e11
    have hX4 : f_X4_word M b (nI i) y = if y < nI 0 then some (-1 : Int32) else if y < nI l then ((f_X1_isStruckAt M (b + 1 + 4 + (9 + i)) y).bind fun v11 => if v11 = nI 0 then ((f_X1_codeAt M (b + 1 + 4 + (9 + i)) y).bind fun v13 => some v13) else (some (nI 42))) else some (-1 : Int32) := by
      rw [f_X4_word, (c_hasLetter h7).1 i hi hn rfl, Option.bind_some, if_neg (by decide), cz_gdn (by omega) (by decide), cz_lt_e, cz_cl (by omega), e3]
    have hX5 : f_X5_word M (b + 461) (nI i) y = ((f_X5_in y (nI 0) (nI (l - 1))).bind fun v4 => if v4 = nI 0 then (some (-1 : Int32)) else (if ((nI m >>> (y &&& nI 31)) &&& (nI 1)) = (nI 1) then (some (nI 42)) else ((f_X5_wordOf M (b + 461) (nI i) y).bind fun v8 => some ((nI 97) + v8)))) := by
      rw [f_X5_word, hL, Option.bind_some, if_neg (by decide), m_of M _ (by omega) (by decide), Option.bind_some, hv1, hl, cz_subN hl1, m_of M _ (by omega) (by decide), hv1, hme]
      rfl
    rw [hX4, hX5]
    rcases cz_rng y l (by omega) with ⟨j, hj, rfl⟩ | h | h
    · rw [if_neg (nI_nlt (Nat.zero_le _) (by omega)), if_pos (nI_lt hj (by omega)), m_inN (by omega) (by decide) (by omega), if_pos (show 0 ≤ j ∧ j ≤ l - 1 by omega), Option.bind_some, if_neg (show nI 1 ≠ nI 0 by decide), cz_bit (by omega) (by omega), f_X1_isStruckAt, e8, cz_usN (by omega) (by omega), cz_and1 (Nat.lt_of_le_of_lt (Nat.div_le_self _ _) (by omega))]
      rcases Nat.mod_two_eq_zero_or_one (m / 2 ^ j) with h0 | h0
      · rw [h0, if_pos rfl, Option.bind_some, if_pos rfl, if_neg (by decide)]
        have hb : ∀ k, k < l → (fun k => 97 + cz_dig s i k) k < 256 := fun k _ => by have := cz_dig_26 s i k; dsimp only; omega
        have hN : cz_wN (fun k => 97 + cz_dig s i k) l < 2 ^ 64 := Nat.lt_of_lt_of_le (cz_wN_lt hb) (Nat.pow_le_pow_right (by decide) (by omega : 8 * l ≤ 64))
        have hby : cz_wN (fun k => 97 + cz_dig s i k) l / 2 ^ (8 * j) % 256 = 97 + cz_dig s i j := cz_wN_by hb j hj
        have hwo : f_X5_wordOf M (b + 461) (nI i) (nI j) = some (nI (cz_dig s i j)) := by
          have := hv1
          by_cases h4 : j < 4
          · rw [m_wordOf M (b + 461) (show i < 40 by omega) (by omega) (u := u) (by rw [hv1, Nat.div_eq_of_lt h4]; exact hu) hu2, hv1]
          · rw [m_wordOf M (b + 461) (show i < 40 by omega) (by omega) (u := v) (by rw [hv1, show j / 4 = 1 by omega]; exact hv) hv2, hv1]
        exact ⟨nI (97 + cz_dig s i j), by rw [f_X1_codeAt, e11, cz_code hN (by omega), hby]; rfl, by rw [hwo, Option.bind_some, nI_add]⟩
      · rw [h0, if_neg (by decide), Option.bind_some, if_neg (by decide), if_pos rfl]
        exact ⟨_, rfl, rfl⟩
    · have h' : y < nI 0 := by rw [cz_l0] at h; exact h
      exact ⟨(-1 : Int32), by rw [if_pos h'], by rw [m_in, if_pos h', Option.bind_some, if_pos rfl]⟩
    · have h2 := cz_lt_of_ge (by omega) h
      refine ⟨(-1 : Int32), by rw [if_neg h2.1, if_neg h2.2], ?_⟩
      rw [m_in, if_neg h2.1, if_pos, Option.bind_some, if_pos rfl]
      rw [Int32.le_iff_toInt_le, nI_toInt (by omega)] at h
      rw [Int32.lt_iff_toInt_lt, nI_toInt (by omega)]
      omega
  · exact ⟨_, by rw [f_X4_word, (c_hasLetter h7).2 hout, Option.bind_some, if_pos rfl], by rw [f_X5_word, hL, Option.bind_some, if_pos rfl]⟩
