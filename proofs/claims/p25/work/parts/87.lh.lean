/-! the law tries -/
section LH
variable {b : Nat} {M : cz_M} {s : Nat → Int32} {n W : Nat} {R : Nat → List Nat} {l : List cz_S} {slot : Nat → cz_S} {used pad : Nat → Nat} {len : Nat}
theorem j_best (J : cz_JL b M (s, n, W, R) l slot used pad len) : ∃ M7, f_X4_bestTrade M b = some ((cz_bo (cz_cT s n W R) 8 (cz_ck s n W R 4, (-6 : Int32))).2, M7) ∧ cz_JL b M7 (s, n, W, R) l slot used pad len := by
  obtain ⟨hist, J, h⟩ := J
  obtain ⟨M7, f7, J7⟩ := k_best J
  exact ⟨M7, f7, hist, J7, h⟩
/-- a trade is tried, and undone -/
theorem j_tryT (J : cz_JL b M (s, n, W, R) l slot used pad len) (hW : W + 100 ≤ 9999) {i j : Nat} (hi : i < 8) (hj : j < 8) : (∃ c M1 M2 u M3, c < 4 ∧ cz_cT s n W R i j ≤ 40 ∧ u ≤ 4 ∧ ¬ s (5 + i) = s (5 + j) ∧ f_X4_trade M b (nI i) (nI j) = some (nI c, M1) ∧ f_X4_ifPassed M1 b (nI 4) (nI 0) = some (nI (cz_cT s n W R i j), M2) ∧ f_X4_undo M2 b = some (nI u, M3) ∧ cz_JL b M3 (s, n, W, R) (l.take 3) slot used pad len) ∨ (s (5 + i) = s (5 + j) ∧ f_X4_trade M b (nI i) (nI j) = some ((-5 : Int32), M)) := by
  have ok := j_ok J
  rcases j_trade J hi hj with ⟨h1, M1, f1, J1⟩ | h1
  · obtain ⟨c, hc, hce⟩ := ok.1.2.2.1 j hj
    obtain ⟨M2, f2, J2⟩ := j_if J1
    have t : (((s, n, W, R) : cz_S) :: l).take 4 = (s, n, W, R) :: l.take 3 := rfl
    rw [t] at J2
    obtain ⟨u, M3, hu, f3, J3⟩ := j_undo J2
    rw [hce] at f1
    exact Or.inl ⟨c, M1, M2, u, M3, hc, cz_ck_le (cz_ok_tr hi hj ok) (by omega), hu, h1, f1, f2, f3, J3⟩
  · exact Or.inr h1
set_option maxHeartbeats 2000000 in
theorem l_tries (J : cz_JL b M (s, n, W, R) l slot used pad len) (hW : W + 100 ≤ 9999) (x : Int32) : ∃ M' l', f_L_tries M b x = some (nI 1, M') ∧ cz_JL b M' (s, n, W, R) l' slot used pad len := by
  have ok := j_ok J
  have hm40 := cz_ck_le ok (k := 4) (by omega)
  obtain ⟨M1, f1, J1⟩ := j_if J
  obtain ⟨M2, f2, J2⟩ := j_best J1
  obtain ⟨one, h1, e1⟩ := l_low x (m := 7) (by decide) (by decide)
  obtain ⟨ex, h2, e2⟩ := l_low (x >>> ((nI 3) &&& nI 31)) (m := 7 - one) (by omega) (by omega)
  have hs7 : nI 7 - nI one = nI (7 - one) := cz_subN (by omega)
  have ho8 : one + 1 + ex < 8 := by omega
  rcases cz_bI_8 (cz_cT s n W R) (cz_ck s n W R 4) with ⟨hb, hall⟩ | ⟨i, j, hij, hj8, hb, hmo, hall⟩
  · rw [hb] at f2
    have hpre : f_L_tries M b x = cz_b2 (f_X4_trade M2 b (nI one) (nI (one + 1 + ex))) fun v11 M10 => if v11 < nI 0 then cz_p2 b (nI (cz_ck s n W R 4)) M10 else (cz_b2 (f_X4_ifPassed M10 b (nI 4) (nI 0)) fun v55 M54 => if v55 < nI (cz_ck s n W R 4) then (cz_b2 (f_X4_undo M54 b) fun v58 M57 => if v58 < nI 0 then (none) else cz_p2 b (nI (cz_ck s n W R 4)) M57) else (if v55 = nI (cz_ck s n W R 4) then (cz_b2 (f_X4_undo M54 b) fun v104 M103 => if v104 < nI 0 then (none) else cz_p2 b (nI (cz_ck s n W R 4)) M103) else (none))) := by
      rw [f_L_tries, f1, cz_b2_s, f2, cz_b2_s, if_pos rfl, e1, Option.bind_some, hs7, e2, Option.bind_some, cz_lt_e, nI_add, nI_add]
      rfl
    rw [hpre]
    rcases j_tryT J2 hW (i := one) (j := one + 1 + ex) (by omega) ho8 with ⟨c, M3, M4, u, M5, hc, hc40, hu, hne, f3, f4, f5, J5⟩ | ⟨-, f3⟩
    · obtain ⟨M', l', e, J'⟩ := l_p2 J5 hW
      refine ⟨M', l', ?_, J'⟩
      have hle := hall one (one + 1 + ex) (by omega) ho8
      rw [f3, cz_b2_s, if_neg (nI_nlt (Nat.zero_le _) (by omega)), f4, cz_b2_s]
      by_cases hlt : cz_cT s n W R one (one + 1 + ex) < cz_ck s n W R 4
      · rw [if_pos (nI_lt hlt (by omega)), f5, cz_b2_s, if_neg (nI_nlt (Nat.zero_le _) (by omega))]
        exact e
      · have heq : cz_cT s n W R one (one + 1 + ex) = cz_ck s n W R 4 := by omega
        rw [if_neg (nI_nlt (by omega) (by omega)), if_pos (by rw [heq]), f5, cz_b2_s, if_neg (nI_nlt (Nat.zero_le _) (by omega))]
        exact e
    · obtain ⟨M', l', e, J'⟩ := l_p2 J2 hW
      refine ⟨M', l', ?_, J'⟩
      rw [f3, cz_b2_s, if_pos (by decide)]
      exact e
  · rw [hb] at f2
    have hd : nI (8 * i + j) / nI 8 = nI i := by rw [pk_div (by omega) (by decide) (by decide), show (8 * i + j) / 8 = i by omega]
    have hr : nI (8 * i + j) - nI (8 * i + j) / nI 8 * nI 8 = nI j := by rw [pk_rem (by omega) (by decide) (by decide), show (8 * i + j) % 8 = j by omega]
    rcases j_tryT J2 hW (i := i) (j := j) (by omega) hj8 with ⟨c, M3, M4, u, M5, hc, hc40, hu, hne, f3, f4, f5, J5⟩ | ⟨heq, -⟩
    · have hpre : f_L_tries M b x = cz_b2 (f_X4_trade M5 b (nI one) (nI (one + 1 + ex))) fun v163 M162 => if v163 < nI 0 then cz_p2 b (nI (cz_ck s n W R 4)) M162 else (cz_b2 (f_X4_ifPassed M162 b (nI 4) (nI 0)) fun v207 M206 => if v207 < nI (cz_cT s n W R i j) then (cz_b2 (f_X4_undo M206 b) fun v210 M209 => if v210 < nI 0 then (none) else cz_p2 b (nI (cz_ck s n W R 4)) M209) else (if v207 = nI (cz_cT s n W R i j) then (if (((nI 8) * nI one) + nI (one + 1 + ex)) < nI (8 * i + j) then (none) else (cz_b2 (f_X4_undo M206 b) fun v257 M256 => if v257 < nI 0 then (none) else cz_p2 b (nI (cz_ck s n W R 4)) M256)) else (none))) := by
        rw [f_L_tries, f1, cz_b2_s, f2, cz_b2_s, if_neg (cz_nIm (by omega)), hr, hd, if_neg (nI_ge hij (by omega)), f3, cz_b2_s, if_neg (nI_nlt (Nat.zero_le _) (by omega)), f4, cz_b2_s, if_neg (nI_ge hmo (by omega)), f5, cz_b2_s, if_neg (nI_nlt (Nat.zero_le _) (by omega)), e1, Option.bind_some, hs7, e2, Option.bind_some, cz_lt_e, nI_add, nI_add]
        rfl
      rw [hpre]
      rcases j_tryT J5 hW (i := one) (j := one + 1 + ex) (by omega) ho8 with ⟨c', M6, M7, u', M8, hc', hc40', hu', hne', f6, f7, f8, J8⟩ | ⟨-, f6⟩
      · obtain ⟨M', l', e, J'⟩ := l_p2 J8 hW
        refine ⟨M', l', ?_, J'⟩
        obtain ⟨hle, hcode⟩ := hall one (one + 1 + ex) (by omega) ho8
        rw [f6, cz_b2_s, if_neg (nI_nlt (Nat.zero_le _) (by omega)), f7, cz_b2_s]
        by_cases hlt : cz_cT s n W R one (one + 1 + ex) < cz_cT s n W R i j
        · rw [if_pos (nI_lt hlt (by omega)), f8, cz_b2_s, if_neg (nI_nlt (Nat.zero_le _) (by omega))]
          exact e
        · have heq : cz_cT s n W R one (one + 1 + ex) = cz_cT s n W R i j := by omega
          rw [if_neg (nI_nlt (by omega) (by omega)), if_pos (by rw [heq]), pk_mul, nI_add, if_neg (nI_nlt (hcode heq) (by omega)), f8, cz_b2_s, if_neg (nI_nlt (Nat.zero_le _) (by omega))]
          exact e
      · obtain ⟨M', l', e, J'⟩ := l_p2 J5 hW
        refine ⟨M', l', ?_, J'⟩
        rw [f6, cz_b2_s, if_pos (by decide)]
        exact e
    · exfalso
      have : cz_cT s n W R i j = cz_ck s n W R 4 := by
        unfold cz_cT
        rw [cz_tr_id heq]
      omega
end LH
