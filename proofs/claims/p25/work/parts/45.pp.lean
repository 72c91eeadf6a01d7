/-! counting -/
def cz_ct (s : Nat → Int32) (t : Nat) : Nat → Nat
  | 0 => 0
  | k + 1 => cz_ct s t k + (if s (111 + 11 * k + 2) = nI t then 1 else 0)
def cz_sw (s : Nat → Int32) : Nat → Nat
  | 0 => 0
  | k + 1 => cz_sw s k + (if s (111 + 11 * k + 2) = nI 1 then cz_pc (cz_no s (111 + 11 * k + 5)) else 0)
def cz_sd (s : Nat → Int32) : Nat → Int32
  | 0 => nI 0
  | k + 1 => cz_sd s k + (if s (111 + 11 * k + 2) = nI 1 then s (111 + 11 * k + 4) else nI 0)
def cz_sM (s : Nat → Int32) : Nat → Int32
  | 0 => nI 0
  | k + 1 => if s (111 + 11 * k + 2) = nI 1 then (if cz_sM s k < s (111 + 11 * k + 4) then s (111 + 11 * k + 4) else cz_sM s k) else cz_sM s k
theorem cz_rl5 {M : cz_M} {q i n W : Nat} {s : Nat → Int32} {R : Nat → List Nat} (ok : cz_ok s n W R) (hi : i < n) (rl : cz_rl M q s i) : M.1 q 5 = s (111 + 11 * i + 2) := by
  rw [rl.2.2.2.2.1, if_neg (ok.2 i hi)]
theorem c_are {M : cz_M} {p n W t : Nat} {s : Nat → Int32} {R : Nat → List Nat} (ok : cz_ok s n W R) (rp : cz_rp M p s n R) : f_X2_lettersThatAre M p (nI t) = some (nI (cz_ct s t n)) := by
  have hn : n ≤ 40 := ok.1.1.1
  have h7 : M.1 p 7 = nI n := rp.2.1.2.trans ok.1.1.2.1
  rw [f_X2_lettersThatAre]
  obtain ⟨x, hI, h⟩ := cz_for2b (F := f_X2_lettersThatAre_L4 p (nI t) M (fun x11 x12 => some x11)) (fun k (x : Int32) => x = nI (cz_ct s t k)) (fun x => some x) n
    (fun k x hk hI => by
      subst hI
      refine ⟨nI (cz_ct s t (k + 1)), fun rec => ?_, rfl⟩
      rw [f_X2_lettersThatAre_L4, h7, if_neg (nI_ge hk (by omega)), cz_gdn (by omega) (by decide), cz_cl (by omega), cz_rl5 ok hk (rp.2.2.2.2.2 k hk), cz_ct]
      simp only [cz_lt_e, nI_add]
      split
      · rfl
      · rfl)
    (fun x hI rec => by rw [f_X2_lettersThatAre_L4, h7, if_pos (nI_le (Nat.le_refl _) (by omega))]) n 0 (nI 0) 4096 (by omega) (by omega) rfl
  rw [h, hI]
theorem c_words {M : cz_M} {p n W : Nat} {s : Nat → Int32} {R : Nat → List Nat} (ok : cz_ok s n W R) (rp : cz_rp M p s n R) : f_X2_wordsStruckInLetters M p = some (nI (cz_sw s n)) := by
  have hn : n ≤ 40 := ok.1.1.1
  have h7 : M.1 p 7 = nI n := rp.2.1.2.trans ok.1.1.2.1
  rw [f_X2_wordsStruckInLetters]
  obtain ⟨x, hI, h⟩ := cz_for2b (F := f_X2_wordsStruckInLetters_L4 p M (fun x13 x14 => some x13)) (fun k (x : Int32) => x = nI (cz_sw s k)) (fun x => some x) n
    (fun k x hk hI => by
      subst hI
      refine ⟨nI (cz_sw s (k + 1)), fun rec => ?_, rfl⟩
      have rl := rp.2.2.2.2.2 k hk
      obtain ⟨m, hm, hme⟩ := (ok.1.2.2.2.2.2.1 k hk).2.2.2.2.2.2.2.1
      rw [f_X2_wordsStruckInLetters_L4, h7, if_neg (nI_ge hk (by omega)), cz_gdn (by omega) (by decide), cz_cl (by omega), cz_rl5 ok hk rl, cz_gdn (by omega) (by decide), f_X1_struckCount, rl.2.2.2.2.2.2.2.2.1, hme, c_bits8 m hm, cz_sw, cz_no_e hme (by omega)]
      simp only [Option.bind_some, cz_lt_e, nI_add]
      split
      · rfl
      · rfl)
    (fun x hI rec => by rw [f_X2_wordsStruckInLetters_L4, h7, if_pos (nI_le (Nat.le_refl _) (by omega))]) n 0 (nI 0) 4096 (by omega) (by omega) rfl
  rw [h, hI]
theorem c_delays {M : cz_M} {p n W : Nat} {s : Nat → Int32} {R : Nat → List Nat} (ok : cz_ok s n W R) (rp : cz_rp M p s n R) : f_X2_allDelays M p = some (cz_sd s n) := by
  have hn : n ≤ 40 := ok.1.1.1
  have h7 : M.1 p 7 = nI n := rp.2.1.2.trans ok.1.1.2.1
  rw [f_X2_allDelays]
  obtain ⟨x, hI, h⟩ := cz_for2b (F := f_X2_allDelays_L4 p M (fun x12 x13 => some x12)) (fun k (x : Int32) => x = cz_sd s k) (fun x => some x) n
    (fun k x hk hI => by
      subst hI
      refine ⟨cz_sd s (k + 1), fun rec => ?_, rfl⟩
      have rl := rp.2.2.2.2.2 k hk
      rw [f_X2_allDelays_L4, h7, if_neg (nI_ge hk (by omega)), cz_gdn (by omega) (by decide), cz_cl (by omega), cz_rl5 ok hk rl, cz_gdn (by omega) (by decide), cz_sd]
      simp only [cz_lt_e, nI_add]
      by_cases h1 : s (111 + 11 * k + 2) = nI 1
      · rw [if_pos h1, if_pos h1, rl.2.2.2.2.2.1 h1]
      · rw [if_neg h1, if_neg h1]
        rw [show cz_sd s k + nI 0 = cz_sd s k from Int32.add_zero _])
    (fun x hI rec => by rw [f_X2_allDelays_L4, h7, if_pos (nI_le (Nat.le_refl _) (by omega))]) n 0 (nI 0) 4096 (by omega) (by omega) rfl
  rw [h, hI]
theorem c_longest {M : cz_M} {p n W : Nat} {s : Nat → Int32} {R : Nat → List Nat} (ok : cz_ok s n W R) (rp : cz_rp M p s n R) : f_X2_longestDelay M p = some (cz_sM s n) := by
  have hn : n ≤ 40 := ok.1.1.1
  have h7 : M.1 p 7 = nI n := rp.2.1.2.trans ok.1.1.2.1
  rw [f_X2_longestDelay]
  obtain ⟨x, hI, h⟩ := cz_for2b (F := f_X2_longestDelay_L4 p M (fun x12 x13 => some x12)) (fun k (x : Int32) => x = cz_sM s k) (fun x => some x) n
    (fun k x hk hI => by
      subst hI
      refine ⟨cz_sM s (k + 1), fun rec => ?_, rfl⟩
      have rl := rp.2.2.2.2.2 k hk
      rw [f_X2_longestDelay_L4, h7, if_neg (nI_ge hk (by omega)), cz_gdn (by omega) (by decide), cz_cl (by omega), cz_rl5 ok hk rl, cz_gdn (by omega) (by decide), cz_sM]
      simp only [cz_lt_e, nI_add]
      by_cases h1 : s (111 + 11 * k + 2) = nI 1
      · rw [if_pos h1, if_pos h1, rl.2.2.2.2.2.1 h1]
      · rw [if_neg h1, if_neg h1])
    (fun x hI rec => by rw [f_X2_longestDelay_L4, h7, if_pos (nI_le (Nat.le_refl _) (by omega))]) n 0 (nI 0) 4096 (by omega) (by omega) rfl
  rw [h, hI]
theorem cz_sM_0 {s : Nat → Int32} {n W : Nat} {R : Nat → List Nat} (ok : cz_ok s n W R) : ∀ k, k ≤ n → ∃ v, v < 2 ^ 31 ∧ cz_sM s k = nI v
  | 0, _ => ⟨0, by decide, rfl⟩
  | k + 1, h => by
    obtain ⟨v, hv, he⟩ := cz_sM_0 ok k (by omega)
    rw [cz_sM]
    by_cases h1 : s (111 + 11 * k + 2) = nI 1
    · rw [if_pos h1]
      obtain ⟨d, hd, hde⟩ := (ok.1.2.2.2.2.2.1 k (by omega)).2.2.2.2.2.1 h1
      have hW := ok.1.1.2.2.1
      split
      · exact ⟨d, by omega, hde⟩
      · exact ⟨v, hv, he⟩
    · rw [if_neg h1]; exact ⟨v, hv, he⟩
