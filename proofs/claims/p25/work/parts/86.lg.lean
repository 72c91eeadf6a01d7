/-! the law tries the best trade and the least limit -/
def cz_p2 (b : Nat) (v2 : Int32) (M10 : cz_M) : Option (Int32 × cz_M) :=
  cz_b2 (f_X4_count M10 b (nI 1)) fun v14 M13 => cz_b2 (f_X4_leastLimit M13 b) fun v16 M15 => cz_b2 (f_X4_set M15 b (nI 1) v16) fun v19 M18 => if v19 = v14 then (cz_b2 (f_L_isCalm M18 b) fun v22 M21 => if v22 = nI 0 then (none) else (if v16 = nI 0 then (cz_b2 (f_X4_undo M21 b) fun v26 M25 => if v26 < nI 0 then (none) else (cz_b2 (f_X4_ifPassed M25 b (nI 4) (nI 0)) fun v30 M29 => if v30 = v2 then (cz_b2 (f_X4_count M29 b (nI 1)) fun v33 M32 => if v33 = v14 then (some ((nI 1), M32)) else (none)) else (none))) else (cz_b2 (f_X4_set M21 b (nI 1) (v16 - (nI 1))) fun v36 M35 => if v36 = v16 then (cz_b2 (f_L_isCalm M35 b) fun v39 M38 => if v39 = nI 0 then (cz_b2 (f_X4_undo M38 b) fun v42 M41 => if v42 < nI 0 then (none) else (cz_b2 (f_X4_undo M41 b) fun v45 M44 => if v45 < nI 0 then (none) else (cz_b2 (f_X4_ifPassed M44 b (nI 4) (nI 0)) fun v49 M48 => if v49 = v2 then (cz_b2 (f_X4_count M48 b (nI 1)) fun v52 M51 => if v52 = v14 then (some ((nI 1), M51)) else (none)) else (none)))) else (none)) else (none)))) else (none)
section LG
variable {b : Nat} {M : cz_M} {s : Nat → Int32} {n W : Nat} {R : Nat → List Nat} {l : List cz_S} {slot : Nat → cz_S} {used pad : Nat → Nat} {len : Nat}
theorem j_ok (J : cz_JL b M (s, n, W, R) l slot used pad len) : cz_ok s n W R := by
  obtain ⟨hist, J, h⟩ := J
  exact k_ok J
theorem j_if (J : cz_JL b M (s, n, W, R) l slot used pad len) : ∃ M7, f_X4_ifPassed M b (nI 4) (nI 0) = some (nI (cz_ck s n W R 4), M7) ∧ cz_JL b M7 (s, n, W, R) l slot used pad len := by
  obtain ⟨hist, J, h⟩ := J
  obtain ⟨M7, ⟨f7, -, -⟩, J7⟩ := k_if J (k := 4) (by decide) (by decide)
  exact ⟨M7, f7, hist, J7, h⟩
theorem j_count1 (J : cz_JL b M (s, n, W, R) l slot used pad len) : f_X4_count M b (nI 1) = some (s 1, M) := by
  obtain ⟨hist, J, h⟩ := J
  exact k_count1 J
theorem j_lim (J : cz_JL b M (s, n, W, R) l slot used pad len) {v : Nat} (hv : v ≤ 8) : ∃ M1, f_X4_set M b (nI 1) (nI v) = some (s 1, M1) ∧ cz_JL b M1 (upd s 1 (nI v), n, W, R) (((s, n, W, R) :: l).take 4) slot used pad len := by
  have h4 := j_le J
  obtain ⟨hist, J, h⟩ := J
  rcases k_set J (k := 1) (v := v) (by decide) (by omega) with ⟨-, -, -, M1, f1, J1⟩ | ⟨hn, -⟩
  · exact ⟨M1, f1, j_push h4 h J1⟩
  · exact absurd ⟨by decide, Nat.zero_le _, hv⟩ hn
theorem j_trade (J : cz_JL b M (s, n, W, R) l slot used pad len) {i j : Nat} (hi : i < 8) (hj : j < 8) : (¬ s (5 + i) = s (5 + j) ∧ ∃ M1, f_X4_trade M b (nI i) (nI j) = some (s (5 + j), M1) ∧ cz_JL b M1 (cz_tr s i j, n, W, R) (((s, n, W, R) :: l).take 4) slot used pad len) ∨ (s (5 + i) = s (5 + j) ∧ f_X4_trade M b (nI i) (nI j) = some ((-5 : Int32), M)) := by
  have h4 := j_le J
  obtain ⟨hist, J, h⟩ := J
  rcases k_trade J hi hj with ⟨h1, M1, f1, J1⟩ | h1
  · exact Or.inl ⟨h1, M1, f1, j_push h4 h J1⟩
  · exact Or.inr h1
theorem cz_upd2 (s : Nat → Int32) (k : Nat) (u v : Int32) : upd (upd s k u) k v = upd s k v := by
  funext j
  by_cases h : j = k
  · subst h; rw [pk_us, pk_us]
  · rw [pk_un h, pk_un h, pk_un h]
theorem l_p2 (J : cz_JL b M (s, n, W, R) l slot used pad len) (hW : W + 100 ≤ 9999) : ∃ M' l', cz_p2 b (nI (cz_ck s n W R 4)) M = some (nI 1, M') ∧ cz_JL b M' (s, n, W, R) l' slot used pad len := by
  have ok := j_ok J
  obtain ⟨hL8, hLe, hLl⟩ := cz_lm (R := R) ok (by omega)
  have hll : ∃ M1, f_X4_leastLimit M b = some (nI (cz_un (cz_lf s n W R) 8 0), M1) ∧ cz_JL b M1 (s, n, W, R) l slot used pad len := by
    obtain ⟨hist, J, h⟩ := J
    obtain ⟨M1, f1, J1⟩ := k_least J
    exact ⟨M1, f1, hist, J1, h⟩
  obtain ⟨M1, f1, J1⟩ := hll
  generalize cz_un (cz_lf s n W R) 8 0 = L at f1 hL8 hLe hLl
  obtain ⟨M2, f2, J2⟩ := j_lim J1 hL8
  have t2 : (((s, n, W, R) : cz_S) :: l).take 4 = (s, n, W, R) :: l.take 3 := rfl
  rw [t2] at J2
  obtain ⟨M3, f3, J3⟩ := l_calm J2 hW
  rw [if_pos (by rw [hLe, cz_tt_li])] at f3
  have t3 : (((s, n, W, R) : cz_S) :: l.take 3).take 2 = (s, n, W, R) :: l.take 1 := by simp [List.take_take]
  rw [t3] at J3
  by_cases h0 : L = 0
  · obtain ⟨u1, M4, hu1, f4, J4⟩ := j_undo J3
    obtain ⟨M5, f5, J5⟩ := j_if J4
    refine ⟨M5, l.take 1, ?_, J5⟩
    rw [cz_p2, j_count1 J, cz_b2_s, f1, cz_b2_s, f2, cz_b2_s, if_pos rfl, f3, cz_b2_s, if_neg (by decide), if_pos (by rw [h0]), f4, cz_b2_s, if_neg (nI_nlt (Nat.zero_le _) (by omega)), f5, cz_b2_s, if_pos rfl, j_count1 J5, cz_b2_s, if_pos rfl]
  · obtain ⟨M4, f4, J4⟩ := j_lim J3 (v := L - 1) (by omega)
    rw [cz_upd2] at J4
    have t4 : ((((upd s 1 (nI L)), n, W, R) : cz_S) :: (s, n, W, R) :: l.take 1).take 4 = (upd s 1 (nI L), n, W, R) :: (s, n, W, R) :: l.take 1 := by simp [List.take_take]
    rw [t4] at J4
    obtain ⟨M5, f5, J5⟩ := l_calm J4 hW
    rw [if_neg (by rw [cz_tt_li]; exact hLl (L - 1) (by omega))] at f5
    have t5 : ((((upd s 1 (nI L)), n, W, R) : cz_S) :: (s, n, W, R) :: l.take 1).take 2 = (upd s 1 (nI L), n, W, R) :: (s, n, W, R) :: [] := rfl
    rw [t5] at J5
    obtain ⟨u1, M6, hu1, f6, J6⟩ := j_undo J5
    obtain ⟨u2, M7, hu2, f7, J7⟩ := j_undo J6
    obtain ⟨M8, f8, J8⟩ := j_if J7
    have e1 : upd s 1 (nI L) 1 = nI L := pk_us
    refine ⟨M8, [], ?_, J8⟩
    rw [cz_p2, j_count1 J, cz_b2_s, f1, cz_b2_s, f2, cz_b2_s, if_pos rfl, f3, cz_b2_s, if_neg (by decide), if_neg (fun z => h0 (cz_nI_inj (by omega) (by omega) z)), cz_subN (by omega), f4, cz_b2_s, if_pos e1, f5, cz_b2_s, if_pos rfl, f6, cz_b2_s, if_neg (nI_nlt (Nat.zero_le _) (by omega)), f7, cz_b2_s, if_neg (nI_nlt (Nat.zero_le _) (by omega)), f8, cz_b2_s, if_pos rfl, j_count1 J8, cz_b2_s, if_pos rfl]
end LG
