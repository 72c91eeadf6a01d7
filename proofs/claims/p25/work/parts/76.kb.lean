/-! the class alone: what there is, what if, undo -/
section KB
variable {b : Nat} {M : cz_M} {s : Nat → Int32} {n W : Nat} {R : Nat → List Nat} {hist : Nat → cz_S} {pc : Nat} {slot : Nat → cz_S} {used pad : Nat → Nat} {len : Nat}
theorem k_count3 (J : cz_J b M (s, n, W, R) hist pc slot used pad len) : f_X4_count M b (nI 3) = some (nI W, M) := by
  have h : M.1 (b + 1) 8 = nI W := (k_rp J).2.1.1.trans (k_ok J).1.1.2.2.2
  rw [← h]; rfl
theorem k_count4 (J : cz_J b M (s, n, W, R) hist pc slot used pad len) : f_X4_count M b (nI 4) = some (nI n, M) := by
  rw [← k_7 J]; rfl
theorem k_count1 (J : cz_J b M (s, n, W, R) hist pc slot used pad len) : f_X4_count M b (nI 1) = some (s 1, M) := by
  rw [← (k_rp J).1 1 (by decide)]; rfl
theorem k_count5 (J : cz_J b M (s, n, W, R) hist pc slot used pad len) : f_X4_count M b (nI 5) = some (nI (cz_ct s 0 n), M) := by
  rw [f_X4_count, c_are (k_ok J) (k_rp J)]; rfl
theorem k_count6 (J : cz_J b M (s, n, W, R) hist pc slot used pad len) : f_X4_count M b (nI 6) = some (nI (cz_ct s 1 n), M) := by
  rw [f_X4_count, c_are (t := 1) (k_ok J) (k_rp J)]; rfl
theorem k_count7 (J : cz_J b M (s, n, W, R) hist pc slot used pad len) : f_X4_count M b (nI 7) = some (nI (cz_ct s 2 n), M) := by
  rw [f_X4_count, c_are (t := 2) (k_ok J) (k_rp J)]; rfl
theorem k_row (J : cz_J b M (s, n, W, R) hist pc slot used pad len) : ∀ r, r < 2 → M.1 (b + 1 + 5 + (48 + 2 * r)) 1 = nI (R r).length := fun r hr => (k_rp J).2.2.2.2.1 r hr |>.1
theorem k_count8 (J : cz_J b M (s, n, W, R) hist pc slot used pad len) : f_X4_count M b (nI 8) = some (nI (R 0).length, M) := by
  rw [← k_row J 0 (by decide)]; rfl
theorem k_count9 (J : cz_J b M (s, n, W, R) hist pc slot used pad len) : f_X4_count M b (nI 9) = some (nI (R 1).length, M) := by
  rw [← k_row J 1 (by decide)]; rfl
theorem k_count10 (J : cz_J b M (s, n, W, R) hist pc slot used pad len) : f_X4_count M b (nI 10) = some (cz_sd s n, M) := by
  rw [f_X4_count, c_delays (k_ok J) (k_rp J)]; rfl
theorem k_count11 (J : cz_J b M (s, n, W, R) hist pc slot used pad len) : f_X4_count M b (nI 11) = some (cz_sM s n, M) := by
  rw [f_X4_count, c_longest (k_ok J) (k_rp J)]; rfl
theorem k_count12 (J : cz_J b M (s, n, W, R) hist pc slot used pad len) : f_X4_count M b (nI 12) = some (nI (cz_sw s n), M) := by
  rw [f_X4_count, c_words (k_ok J) (k_rp J)]; rfl
theorem k_count13 (J : cz_J b M (s, n, W, R) hist pc slot used pad len) : ∃ M2, f_X4_count M b (nI 13) = some (nI (cz_pc (cz_tw s n)), M2) ∧ cz_J b M2 (s, n, W, R) hist pc slot used pad len := by
  obtain ⟨M2, f2, g2, e2⟩ := c_threads (k_ok J) (k_rp J)
  refine ⟨M2, by rw [f_X4_count, f2]; rfl, J.1, cz_cv_now J.1 (e2.mono (fun x hx => by omega)) g2 J.2⟩
theorem k_count15 {A : cz_S} (J : cz_J b M A hist pc slot used pad len) : f_X4_count M b (nI 15) = some (nI pc, M) := by
  rw [← J.2.2.1]; rfl
/-! a letter -/
theorem k_letter {i : Nat} (J : cz_J b M (s, n, W, R) hist pc slot used pad len) (hi : i < n) :
    (f_X4_letter M b (nI i) (nI 0) = some (s (111 + 11 * i)) ∧ f_X4_letter M b (nI i) (nI 1) = some (s (111 + 11 * i + 1)) ∧ f_X4_letter M b (nI i) (nI 2) = some (s (111 + 11 * i + 2))) ∧ (f_X4_letter M b (nI i) (nI 4) = some (s (111 + 11 * i + 3)) ∧ f_X4_letter M b (nI i) (nI 5) = some (s (111 + 11 * i + 4)) ∧ f_X4_letter M b (nI i) (nI 6) = some (nI (cz_pc (cz_no s (111 + 11 * i + 5)))) ∧ f_X4_letter M b (nI i) (nI 8) = some (s (111 + 11 * i + 7)) ∧ f_X4_letter M b (nI i) (nI 9) = some (cz_ah s i i) ∧ f_X4_letter M b (nI i) (nI 10) = some (s (111 + 11 * i + 8))) ∧ (∀ r, r < 2 → ∀ k (hk : k < (R r).length), (R r)[k] = i → f_X4_letter M b (nI i) (nI 3) = some (nI k)) ∧ (s (111 + 11 * i + 2) ≠ nI 0 → f_X4_letter M b (nI i) (nI 3) = some (-6 : Int32)) := by
  have ok := k_ok J
  have hn : n ≤ 40 := ok.1.1.1
  have rp := k_rp J
  have h7 := k_7 J
  obtain ⟨e1, e2, ⟨r, hr, hr1, hr2⟩, e4, e5, e6, e7, ⟨m, hm, hme⟩, e9, e10⟩ := ok.1.2.2.2.2.2.1 i hi
  have rl := rp.2.2.2.2.2 i hi
  have k5 := cz_rl5 ok hi rl
  obtain ⟨a0, a1, a3, a4, -, a6, -, a7, a8, a9, -⟩ := rl
  obtain ⟨l1, l2, l3, l4, l5⟩ := ok.1.2.2.2.2.1 r hr
  have hLi : ∀ i ∈ R r, i < 40 := fun i hi => by have := (l5 i hi).1; omega
  have hah := c_aheadOf (M := M) (p := b + 1) (s := s) hn hi (fun j hj => (rp.2.2.2.2.2 j hj).1)
  have h5 : (if M.1 (b + 1 + 4 + (9 + i)) 5 = nI 1 then some (M.1 (b + 1 + 4 + (9 + i)) 6) else some (-6 : Int32)) = some (s (111 + 11 * i + 4)) := by
    rw [k5]
    by_cases h1 : s (111 + 11 * i + 2) = nI 1
    · rw [if_pos h1, a6 h1]
    · rw [if_neg h1, e7 h1]
  have hX4 : ∀ y, f_X4_letter M b (nI i) y = if y = nI 0 then some (s (111 + 11 * i)) else if y = nI 1 then some (s (111 + 11 * i + 1)) else if y = nI 2 then some (s (111 + 11 * i + 2)) else if y = nI 3 then (f_X3_placeOf M (b + 1 + 5 + (48 + 2 * r)) (nI i)).bind some else if y = nI 4 then some (s (111 + 11 * i + 3)) else if y = nI 5 then some (s (111 + 11 * i + 4)) else if y = nI 6 then some (nI (cz_pc m)) else if y = nI 7 then some (s (111 + 11 * i + 6)) else if y = nI 8 then some (s (111 + 11 * i + 7)) else if y = nI 9 then some (cz_ah s i i) else if y = nI 10 then some (s (111 + 11 * i + 8)) else some (-2 : Int32) := fun y => by
    rw [f_X4_letter, (c_hasLetter h7).1 i hi hn rfl, Option.bind_some, if_neg (by decide), cz_gdn (by omega) (by decide), cz_lt_e, cz_cl (show i < 2 ^ 31 by omega), h5, k5, a0, a1, a3, a4, a7, a9, f_X1_struckCount, a8, hme, c_bits8 m hm, hr1, cz_gdn hr (by decide), cz_cl (show r < 2 ^ 31 by omega), hah]
    rfl
  have hno : cz_no s (111 + 11 * i + 5) = m := cz_no_e hme (by omega)
  rw [hno]
  refine ⟨⟨by rw [hX4]; rfl, by rw [hX4]; rfl, by rw [hX4]; rfl⟩, ⟨by rw [hX4]; rfl, by rw [hX4]; rfl, by rw [hX4]; rfl, by rw [hX4]; rfl, by rw [hX4]; rfl, by rw [hX4]; rfl⟩, fun r' hr' k hk hki => ?_, fun h0 => ?_⟩
  · have h1' : s (111 + 11 * i + 1) = nI r' := by
      have := ((ok.1.2.2.2.2.1 r' hr').2.2.2.2 i (hki ▸ List.getElem_mem hk)).2.1
      exact this
    obtain rfl : r = r' := cz_nI_inj (by omega) (by omega) (hr1.symm.trans h1')
    rw [hX4]
    show (f_X3_placeOf M (b + 1 + 5 + (48 + 2 * r)) (nI i)).bind some = some (nI k)
    rw [← hki, c_placeOf_in (rp.2.2.2.2.1 r hr) l2 hLi l4 hk]
    rfl
  · rw [hX4]
    show (f_X3_placeOf M (b + 1 + 5 + (48 + 2 * r)) (nI i)).bind some = some (-6 : Int32)
    rw [c_placeOf_out (rp.2.2.2.2.1 r hr) l2 hLi (by omega) (fun z => h0 (l5 i z).2.2)]
    rfl
theorem k_letter_n (J : cz_J b M (s, n, W, R) hist pc slot used pad len) (y : Int32) : f_X4_letter M b (nI n) y = some (-1 : Int32) := by
  have hn := (k_ok J).1.1.1
  rw [f_X4_letter, (c_hasLetter (k_7 J)).2 (Or.inr (Int32.le_refl _)), Option.bind_some, if_pos rfl]
theorem k_word {i j l : Nat} (J : cz_J b M (s, n, W, R) hist pc slot used pad len) (hi : i < n) (hl : s (111 + 11 * i + 8) = nI l) (hl8 : l ≤ 8) (hj : j < l) : f_X4_word M b (nI i) (nI j) = some (if cz_no s (111 + 11 * i + 5) / 2 ^ j % 2 = 0 then nI (97 + cz_dig s i j) else nI 42) := by
  have ok := k_ok J
  have hn : n ≤ 40 := ok.1.1.1
  have rp := k_rp J
  have hle := ok.1.2.2.2.2.2.1 i hi
  obtain ⟨m, hm, hme⟩ := hle.2.2.2.2.2.2.2.1
  have rl := rp.2.2.2.2.2 i hi
  have e3 : M.1 (b + 1 + 4 + (9 + i)) 3 = nI l := rl.2.2.1.trans hl
  have e8 : M.1 (b + 1 + 4 + (9 + i)) 8 = nI m := rl.2.2.2.2.2.2.2.2.1.trans hme
  have e11 := rl.2.2.2.2.2.2.2.2.2.2
  rw [cz_no_e hl (by omega)] at e11
  rw [f_X4_word, (c_hasLetter (k_7 J)).1 i hi hn rfl, Option.bind_some, if_neg (by decide), cz_gdn (by omega) (by decide), cz_lt_e, cz_cl (by omega), e3, if_neg (nI_nlt (Nat.zero_le _) (by omega)), if_pos (nI_lt hj (by omega)), f_X1_isStruckAt, e8, cz_usN (by omega) (by omega), cz_and1 (Nat.lt_of_le_of_lt (Nat.div_le_self _ _) (by omega)), cz_no_e hme (by omega)]
  rcases Nat.mod_two_eq_zero_or_one (m / 2 ^ j) with h0 | h0
  · rw [h0, if_pos rfl, Option.bind_some, if_pos rfl, if_pos rfl]
    have hb : ∀ k, k < l → (fun k => 97 + cz_dig s i k) k < 256 := fun k _ => by have := cz_dig_26 s i k; dsimp only; omega
    have hN : cz_wN (fun k => 97 + cz_dig s i k) l < 2 ^ 64 := Nat.lt_of_lt_of_le (cz_wN_lt hb) (Nat.pow_le_pow_right (by decide) (by omega : 8 * l ≤ 64))
    have hby : cz_wN (fun k => 97 + cz_dig s i k) l / 2 ^ (8 * j) % 256 = 97 + cz_dig s i j := cz_wN_by hb j hj
    rw [f_X1_codeAt, e11, cz_code hN (by omega), hby]; rfl
  · rw [h0, if_neg (by decide), Option.bind_some, if_neg (by decide), if_neg (by decide)]
theorem k_word_l {i l : Nat} (J : cz_J b M (s, n, W, R) hist pc slot used pad len) (hi : i < n) (hl : s (111 + 11 * i + 8) = nI l) (hl8 : l ≤ 8) : f_X4_word M b (nI i) (nI l) = some (-1 : Int32) := by
  have hn : n ≤ 40 := (k_ok J).1.1.1
  have rl := (k_rp J).2.2.2.2.2 i hi
  have e3 : M.1 (b + 1 + 4 + (9 + i)) 3 = nI l := rl.2.2.1.trans hl
  rw [f_X4_word, (c_hasLetter (k_7 J)).1 i hi hn rfl, Option.bind_some, if_neg (by decide), cz_gdn (by omega) (by decide), cz_lt_e, cz_cl (by omega), e3, if_neg (nI_nlt (Nat.zero_le _) (by omega)), if_neg (nI_nlt (Nat.le_refl _) (by omega))]
/-- the fate of a waiting letter in this week -/
theorem k_why {r k : Nat} (J : cz_J b M (s, n, W, R) hist pc slot used pad len) (hr : r < 2) (hk : k < (R r).length) : ∃ M1, f_X4_why M b (nI (R r)[k]) = some (nI (cz_fk s (cz_wt s) (cz_no s (5 + 2 * (W % 4) + r)) (cz_no s 0) (R r) k), M1) ∧ cz_J b M1 (s, n, W, R) hist pc slot used pad len := by
  have ok := k_ok J
  have hn : n ≤ 40 := ok.1.1.1
  have rp := k_rp J
  have h5 := (ok.1.2.2.2.2.1 r hr).2.2.2.2 (R r)[k] (List.getElem_mem hk)
  have hi := h5.1
  obtain ⟨M1, f1, t1, p1, e1⟩ := c_judgeWeek M (b + 1) ok.1 rp
  refine ⟨M1, ?_, J.1, cz_cv_now (now' := (s, n, W, R)) J.1 (e1.mono (fun x hx => hx)) p1 J.2⟩
  rw [f_X4_why, (c_hasLetter (k_7 J)).1 _ hi hn rfl, Option.bind_some, if_neg (by decide), cz_gdn (by omega) (by decide), cz_lt_e, cz_cl (by omega), cz_rl5 ok hi (rp.2.2.2.2.2 _ hi), if_pos h5.2.2, f1, Option.bind_some, t1 r hr k hk]
theorem k_why1 {i : Nat} (J : cz_J b M (s, n, W, R) hist pc slot used pad len) (hi : i < n) (h0 : s (111 + 11 * i + 2) ≠ nI 0) : f_X4_why M b (nI i) = some (nI 1, M) := by
  have ok := k_ok J
  have hn : n ≤ 40 := ok.1.1.1
  rw [f_X4_why, (c_hasLetter (k_7 J)).1 i hi hn rfl, Option.bind_some, if_neg (by decide), cz_gdn (by omega) (by decide), cz_lt_e, cz_cl (by omega), cz_rl5 ok hi ((k_rp J).2.2.2.2.2 i hi), if_neg h0]
/-! censors, the roster -/
theorem k_censor {c : Nat} (J : cz_J b M (s, n, W, R) hist pc slot used pad len) (hc : c < 4) : f_X4_censor M b (nI c) (nI 0) = some (s (13 + 4 * c)) ∧ f_X4_censor M b (nI c) (nI 1) = some (nI (cz_sf s c 8)) ∧ f_X4_censor M b (nI c) (nI 2) = some (s (13 + 4 * c + 1)) ∧ f_X4_censor M b (nI c) (nI 4) = some (s (13 + 4 * c + 3)) := by
  have hcen : ∀ c, c < 4 → ∀ f, f < 4 → M.1 (b + 1 + 2 + (7 + c)) f = s (13 + 4 * c + f) := (k_rp J).2.2.2.1
  have hx4 : ∀ y, f_X4_censor M b (nI c) y = if y = nI 0 then some (s (13 + 4 * c + 0)) else if y = nI 1 then some (nI (cz_sf s c 8)) else if y = nI 2 then some (s (13 + 4 * c + 1)) else if y = nI 3 then some (s (13 + 4 * c + 2)) else if y = nI 4 then some (s (13 + 4 * c + 3)) else some (-2 : Int32) := fun y => by
    rw [f_X4_censor, if_neg (nI_nlt (Nat.zero_le _) (by omega)), if_pos (nI_lt hc (by decide)), cz_gdn hc (by decide), cz_cl (by omega), cz_lt_e, hcen c hc 0 (by decide), hcen c hc 1 (by decide), hcen c hc 2 (by decide), hcen c hc 3 (by decide), c_shiftsOf (k_rp J).2.2.1]
    rfl
  exact ⟨by rw [hx4]; rfl, by rw [hx4]; rfl, by rw [hx4]; rfl, by rw [hx4]; rfl⟩
theorem k_censor4 (y : Int32) : f_X4_censor M b (nI 4) y = some (-1 : Int32) := by
  rw [f_X4_censor, if_neg (nI_nlt (Nat.zero_le _) (by decide)), if_neg (nI_nlt (Nat.le_refl _) (by decide))]
theorem k_onShift {w r : Nat} (J : cz_J b M (s, n, W, R) hist pc slot used pad len) (hw : w ≤ 9999) (hr : r < 2) : f_X4_onShift M b (nI w) (nI r) = some (s (5 + (2 * (w % 4) + r))) := by
  have h4 : w % 4 < 4 := Nat.mod_lt _ (by decide)
  obtain ⟨c, hc, hce⟩ := (k_ok J).1.2.2.1 (2 * (w % 4) + r) (by omega)
  rw [f_X4_onShift, if_neg (nI_nlt (Nat.zero_le _) (by omega)), if_pos (nI_lt hr (by decide)), if_neg (nI_nlt (Nat.zero_le _) (by omega)), if_pos (nI_le hw (by decide)), c_censorNumber M (b + 1) hr (by omega) (((k_rp J).2.2.1 _ (by omega)).trans hce), hce]
  rfl
/-! what if -/
/-- when a letter is settled: how many weeks it waits, 100 at most -/
def cz_uK (s : Nat → Int32) (n W : Nat) (R : Nat → List Nat) (i : Nat) : Nat := cz_un (fun k => decide ((cz_sk s n W R k).1 (111 + 11 * i + 2) = nI 0)) 100 0
def cz_uv (s : Nat → Int32) (n W : Nat) (R : Nat → List Nat) (i : Nat) : Int32 := if (cz_sk s n W R (cz_uK s n W R i)).1 (111 + 11 * i + 2) = nI 1 then nI (cz_uK s n W R i) else (-6 : Int32)
theorem k_until {i : Nat} (J : cz_J b M (s, n, W, R) hist pc slot used pad len) (hi : i < n) : ∃ M7, f_X4_untilCome M b (nI i) = some (cz_uv s n W R i, M7) ∧ cz_J b M7 (s, n, W, R) hist pc slot used pad len := by
  have ok := k_ok J
  have hW9 := k_W J
  have hn : n ≤ 40 := ok.1.1.1
  have h7 := k_7 J
  obtain ⟨M6, f6, g6, e6⟩ := cz_sA (M := M) (a := b + 58) (a1 := b + 1) (by omega) J.1.1 J.2.1
  have g6 : cz_rp M6 (b + 58) s n R := g6
  obtain ⟨M7, ⟨g7, e7⟩, h7'⟩ := cz_wh (F := f_X4_untilCome_L36 b (b + 58 + 4 + (9 + i)) (fun x19 M20 => if (M20.1 (b + 58 + 4 + (9 + i)) 5) = (nI 1) then (some (x19, M20)) else (some ((-6 : Int32), M20)))) (fun k m => cz_rp m (b + 58) (cz_sk s n W R k).1 n (cz_sk s n W R k).2 ∧ cz_fr (fun x => b + 58 ≤ x ∧ x < b + 58 + 57) M m) (fun x m => if (m.1 (b + 58 + 4 + (9 + i)) 5) = (nI 1) then (some (x, m)) else (some ((-6 : Int32), m))) (fun k => decide ((cz_sk s n W R k).1 (111 + 11 * i + 2) = nI 0)) 100
    (fun k m hk ⟨i1, i2⟩ hf => by
      have okk := cz_ok_sk ok k (by omega)
      have hf := of_decide_eq_true hf
      obtain ⟨m2, a1, a2, a3⟩ := c_passWeek m (b + 58) okk i1
      refine ⟨m2, fun rec => ?_, a2, i2.tr a3⟩
      rw [f_X4_untilCome_L36, if_neg (nI_ge hk (by decide)), cz_rl5 okk hi (i1.2.2.2.2.2 i hi), if_pos hf, a1, cz_b2_s, cz_lt_e, nI_add])
    (fun k m hk ⟨i1, i2⟩ hf rec => by
      have okk := cz_ok_sk ok k (by omega)
      rw [f_X4_untilCome_L36, if_neg (nI_ge hk (by decide)), cz_rl5 okk hi (i1.2.2.2.2.2 i hi), if_neg (fun z => hf (decide_eq_true z))])
    (fun m hI rec => by rw [f_X4_untilCome_L36, if_pos (nI_le (Nat.le_refl _) (by decide))]) 100 0 M6 4096 (by omega) (by omega) ⟨g6, e6⟩
  have hK100 : cz_uK s n W R i ≤ 100 := cz_un_le _ 100 0
  have okK := cz_ok_sk ok (cz_uK s n W R i) (by omega)
  have g7 : cz_rp M7 (b + 58) (cz_sk s n W R (cz_uK s n W R i)).1 n (cz_sk s n W R (cz_uK s n W R i)).2 := g7
  rw [cz_rl5 okK hi (g7.2.2.2.2.2 i hi)] at h7'
  refine ⟨M7, ?_, k_trial J e7⟩
  rw [f_X4_untilCome, (c_hasLetter h7).1 i hi hn rfl, Option.bind_some, if_neg (by decide), f6, Option.bind_some, cz_gdn (by omega) (by decide), cz_lt_e, cz_cl (by omega)]
  refine Eq.trans h7' ?_
  unfold cz_uv
  by_cases h : (cz_sk s n W R (cz_uK s n W R i)).1 (111 + 11 * i + 2) = nI 1
  · rw [if_pos h, if_pos h]; rfl
  · rw [if_neg h, if_neg h]
theorem k_if {k : Nat} (J : cz_J b M (s, n, W, R) hist pc slot used pad len) (h1 : 1 ≤ k) (h2 : k ≤ 100) : ∃ M7, (f_X4_ifPassed M b (nI k) (nI 0) = some (nI (cz_ck s n W R k), M7) ∧ f_X4_ifPassed M b (nI k) (nI 1) = some (nI (cz_ct (cz_sk s n W R k).1 2 n) - nI (cz_ct s 2 n), M7) ∧ f_X4_ifPassed M b (nI k) (nI 2) = some (nI (cz_sw (cz_sk s n W R k).1 n) - nI (cz_sw s n), M7)) ∧ cz_J b M7 (s, n, W, R) hist pc slot used pad len := by
  have ok := k_ok J
  have hW9 := k_W J
  have hn : n ≤ 40 := ok.1.1.1
  obtain ⟨M6, f6, g6, e6⟩ := cz_sA (M := M) (a := b + 58) (a1 := b + 1) (by omega) J.1.1 J.2.1
  have g6 : cz_rp M6 (b + 58) s n R := g6
  obtain ⟨M7, f7, g7, e7⟩ := c_passWeeks M6 (b + 58) ok g6 (K := k) (by omega) (by omega)
  have okK := cz_ok_sk ok k (by omega)
  have e67 := e6.tr e7
  have rp1 : cz_rp M7 (b + 1) s n R := cz_rp_out e67 (fun x hx => by omega) hn J.2.1
  have c4 : ∀ w, w ≤ 2 → f_X4_ifPassed M b (nI k) (nI w) = if nI w = nI 0 then some (nI (cz_ck s n W R k), M7) else if nI w = nI 1 then some (nI (cz_ct (cz_sk s n W R k).1 2 n) - nI (cz_ct s 2 n), M7) else some (nI (cz_sw (cz_sk s n W R k).1 n) - nI (cz_sw s n), M7) := fun w hw => by
    rw [f_X4_ifPassed, if_neg (nI_nlt h1 (by omega)), if_neg (nI_nlt h2 (by decide)), if_neg (nI_nlt (Nat.zero_le _) (by omega)), if_pos (nI_le hw (by decide)), f6, Option.bind_some, f7, cz_b2_s, c_are okK g7, c_are ok rp1, c_words okK g7, c_words ok rp1]
    rfl
  refine ⟨M7, ⟨?_, ?_, ?_⟩, k_trial J e67⟩
  · rw [c4 0 (by decide), if_pos rfl]
  · rw [c4 1 (by decide), if_neg (by decide), if_pos rfl]
  · rw [c4 2 (by decide), if_neg (by decide), if_neg (by decide)]
theorem k_best (J : cz_J b M (s, n, W, R) hist pc slot used pad len) : ∃ M7, f_X4_bestTrade M b = some ((cz_bo (cz_cT s n W R) 8 (cz_ck s n W R 4, (-6 : Int32))).2, M7) ∧ cz_J b M7 (s, n, W, R) hist pc slot used pad len := by
  obtain ⟨M7, f7, e7⟩ := c_best J.1.1 (k_rp J)
  exact ⟨M7, f7, k_trial J (e7.mono (fun x hx => by omega))⟩
theorem k_least (J : cz_J b M (s, n, W, R) hist pc slot used pad len) : ∃ M7, f_X4_leastLimit M b = some (nI (cz_un (cz_lf s n W R) 8 0), M7) ∧ cz_J b M7 (s, n, W, R) hist pc slot used pad len := by
  obtain ⟨M7, f7, e7⟩ := c_least J.1.1 (k_rp J)
  exact ⟨M7, f7, k_trial J (e7.mono (fun x hx => by omega))⟩
/-! undo -/
theorem k_undo0 {A : cz_S} (J : cz_J b M A hist 0 slot used pad len) : f_X4_undo M b = some ((-5 : Int32), M) := by
  rw [f_X4_undo, J.2.2.1, if_pos rfl]
theorem k_undo {A : cz_S} (J : cz_J b M A hist (pc + 1) slot used pad len) : ∃ M2, f_X4_undo M b = some (nI pc, M2) ∧ cz_J b M2 (hist pc) hist pc slot used pad len := by
  obtain ⟨wf, c1, c2, ⟨π, hp1, hp2⟩, c4, c5, c6, c7⟩ := J
  have hpc : pc + 1 ≤ 4 := wf.2.1.1
  have hne : ¬ nI (pc + 1) = nI 0 := fun z => absurd (cz_nI_inj (by omega) (by omega) z) (by omega)
  have hpi := hp1 pc (by omega)
  have hb6 : (cz_mI M b 6 (nI pc)).1 b 6 = nI pc := by rw [cz_mI_s, pk_us]
  have hsok := wf.2.1.2 pc (by omega)
  obtain ⟨M2, f2, g2, e2⟩ := cz_sA (M := cz_mI M b 6 (nI pc)) (a := b + 1) (a1 := M.2.2 pc) (by rw [hpi.2]; omega) hsok (cz_srp_w (fun x h1 h2 => ⟨cz_mI_o (by rw [hpi.2] at h1; omega), rfl⟩) hsok.1.1.1.1 (c4 pc (by omega)))
  have hx : ∀ x, x ≠ b → x < b + 1 ∨ b + 58 ≤ x → M2.1 x = M.1 x ∧ M2.2.1 x = M.2.1 x := fun x h1 h2 => ⟨((e2.1 x (by omega)).1).trans (cz_mI_o h1), (e2.1 x (by omega)).2⟩
  have hb : M2.1 b = upd (M.1 b) 6 (nI pc) := by rw [(e2.1 b (by omega)).1, cz_mI_s]
  have h22 : M2.2.2 = M.2.2 := e2.2
  refine ⟨M2, ?_, ⟨hsok, ⟨by omega, fun i hi => wf.2.1.2 i (by omega)⟩, wf.2.2⟩, g2, ?_, ⟨π, by rw [h22]; exact hp1, hp2⟩, fun i hi => ?_, fun i hi => ?_, ?_, fun k hk => ?_⟩
  · rw [f_X4_undo, c2, if_neg hne, cz_subN (by omega), Nat.add_sub_cancel, cz_lt_e, hb6, cz_gdn (by omega) (by decide), cz_cl (by omega)]
    have : (cz_mI M b 6 (nI pc)).2.2 = M.2.2 := rfl
    rw [this, f2, Option.bind_some, hb, pk_us]
  · rw [hb, pk_us]
  · rw [h22]
    have hpi2 := hp1 i (by omega)
    exact cz_srp_w (fun x h1 h2 => hx x (by rw [hpi2.2] at h1; omega) (by rw [hpi2.2] at h1; omega)) (wf.2.1.2 i (by omega)).1.1.1.1 (c4 i (by omega))
  · rw [(hx _ (by omega) (by omega)).1]
    exact ⟨(c5 i hi).1, fun hu => cz_srp_w (fun x h1 h2 => hx x (by omega) (by omega)) ((wf.2.2.1 i hi).2 hu).1.1.1.1 ((c5 i hi).2 hu)⟩
  · rw [hb, pk_un (by decide), c6]
  · rw [(hx _ (by omega) (by omega)).1]
    exact c7 k hk
end KB
