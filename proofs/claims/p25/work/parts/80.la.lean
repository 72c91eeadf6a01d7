/-! THE LAW'S METHODS, with no machine: a letter -/
theorem cz_bs_pc : ∀ l, l ≤ 8 → ∀ m, m < 2 ^ l → cz_bs m l = cz_pc m := by decide +kernel
section LA
variable {b : Nat} {M : cz_M} {s : Nat → Int32} {n W : Nat} {R : Nat → List Nat} {hist : Nat → cz_S} {pc : Nat} {slot : Nat → cz_S} {used pad : Nat → Nat} {len : Nat}
theorem l_stars {i l m : Nat} (J : cz_J b M (s, n, W, R) hist pc slot used pad len) (hi : i < n) (hl : s (111 + 11 * i + 8) = nI l) (hl8 : l ≤ 8) (hm : s (111 + 11 * i + 5) = nI m) (hml : m < 2 ^ l) (x2 x3 : Int32) (K : Int32 → Int32 → Option (Int32 × cz_M)) :
    cz_it2 (f_L_isLetter_L20 b (nI i) x2 x3 M K) 4096 (nI 0) (nI 0) = K (nI (cz_pc m)) (nI l) := by
  have hm256 : m < 2 ^ 31 := Nat.lt_of_lt_of_le hml (Nat.pow_le_pow_right (by decide) (by omega))
  have g10 := (k_letter J hi).2.1.2.2.2.2.2
  rw [hl] at g10
  have hno : cz_no s (111 + 11 * i + 5) = m := cz_no_e hm hm256
  obtain ⟨s', hI, h⟩ := cz_for2b (F := f_L_isLetter_L20 b (nI i) x2 x3 M K) (fun j (s : Int32) => s = nI (cz_bs m j)) (fun s => K s (nI l)) l
    (fun j t hj hI => by
      subst hI
      refine ⟨nI (cz_bs m (j + 1)), fun rec => ?_, rfl⟩
      have hw := k_word J hi hl hl8 hj
      rw [hno] at hw
      have hst : cz_bs m (j + 1) = cz_bs m j + m / 2 ^ j % 2 := rfl
      have hd := cz_dig_26 s i j
      rw [f_L_isLetter_L20, g10, Option.bind_some, if_neg (nI_ge hj (by omega)), hw, Option.bind_some, hst]
      rcases Nat.mod_two_eq_zero_or_one (m / 2 ^ j) with h0 | h0
      · rw [h0, if_pos rfl, if_neg (fun z => absurd (cz_nI_inj (by omega) (by omega) z) (by omega)), cz_lt_e, if_neg (nI_nlt (by omega) (by omega)), if_pos (nI_le (by omega) (by decide)), cz_lt_e, nI_add, nI_add]
      · rw [h0, if_neg (show ¬ (1 : Nat) = 0 by decide), if_pos rfl, cz_lt_e, cz_lt_e, nI_add, nI_add])
    (fun t hI rec => by rw [f_L_isLetter_L20, g10, Option.bind_some, if_pos (nI_le (Nat.le_refl _) (by omega))]) l 0 (nI 0) 4096 (by omega) (by omega) rfl
  rw [h, hI, cz_bs_pc l hl8 m hml]
/-- a letter of the thread ahead of a place waits -/
def cz_br (s : Nat → Int32) (i j : Nat) : Prop := ∃ k, k < j ∧ s (111 + 11 * k) = s (111 + 11 * i) ∧ s (111 + 11 * k + 2) = nI 0
theorem cz_br_bar {s : Nat → Int32} {i : Nat} : cz_br s i i ↔ cz_bar s (cz_wt s) i := by
  have e : ∀ j, cz_wt s j = nI 1 ↔ s (111 + 11 * j + 2) = nI 0 := fun j => by
    unfold cz_wt
    by_cases h : s (111 + 11 * j + 2) = nI 0
    · rw [if_pos h]; exact ⟨fun _ => h, fun _ => rfl⟩
    · rw [if_neg h]; exact ⟨fun z => absurd z (by decide), fun z => absurd z h⟩
  unfold cz_br cz_bar
  simp only [e]
theorem l_ahead {i : Nat} (J : cz_J b M (s, n, W, R) hist pc slot used pad len) (hi : i < n) (x2 x3 x4 : Int32) (K : Int32 → Int32 → Int32 → Option (Int32 × cz_M)) :
    ∃ x, ((x = nI 1 ∧ cz_br s i i) ∨ (x = nI 0 ∧ ¬ cz_br s i i)) ∧ cz_it3 (f_L_isLetter_L97 b (nI i) x2 x3 x4 M K) 4096 (-6 : Int32) (nI 0) (nI 0) = K (cz_ah s i i) x (nI i) := by
  have hn := (k_ok J).1.1.1
  have gi := (k_letter J hi).1.1
  have h10 : nI 1 ≠ nI 0 := by decide
  obtain ⟨s', t', ⟨hI1, hI2⟩, h⟩ := cz_for3c (F := f_L_isLetter_L97 b (nI i) x2 x3 x4 M K) (fun j (s1 : Int32) (t : Int32) => s1 = cz_ah s i j ∧ ((t = nI 1 ∧ cz_br s i j) ∨ (t = nI 0 ∧ ¬ cz_br s i j))) (fun s1 t => K s1 t (nI i)) i
    (fun j s1 t hj ⟨hI1, hI2⟩ => by
      subst hI1
      have gj := k_letter J (show j < n by omega)
      have gj0 := gj.1.1
      have gj2 := gj.1.2.2
      have hah : cz_ah s i (j + 1) = if s (111 + 11 * j) = s (111 + 11 * i) then nI j else cz_ah s i j := rfl
      have hbr : cz_br s i (j + 1) ↔ cz_br s i j ∨ (s (111 + 11 * j) = s (111 + 11 * i) ∧ s (111 + 11 * j + 2) = nI 0) := by
        constructor
        · rintro ⟨k, hk, h1, h2⟩
          by_cases hkj : k = j
          · subst hkj; exact Or.inr ⟨h1, h2⟩
          · exact Or.inl ⟨k, by omega, h1, h2⟩
        · rintro (⟨k, hk, h1, h2⟩ | ⟨h1, h2⟩)
          · exact ⟨k, by omega, h1, h2⟩
          · exact ⟨j, by omega, h1, h2⟩
      have hst : ∀ rec, f_L_isLetter_L97 b (nI i) x2 x3 x4 M K rec (cz_ah s i j) t (nI j) = if s (111 + 11 * j) = s (111 + 11 * i) then (if t = nI 0 then (if s (111 + 11 * j + 2) = nI 0 then rec (nI j) (nI 1) (nI (j + 1)) else rec (nI j) (nI 0) (nI (j + 1))) else rec (nI j) (nI 1) (nI (j + 1))) else (if t = nI 0 then rec (cz_ah s i j) (nI 0) (nI (j + 1)) else rec (cz_ah s i j) (nI 1) (nI (j + 1))) := fun rec => by
        rw [f_L_isLetter_L97, if_neg (nI_ge hj (by omega)), gj0, Option.bind_some, gi, Option.bind_some, gj2, Option.bind_some, nI_add]
        rfl
      rw [hah]
      by_cases ht : s (111 + 11 * j) = s (111 + 11 * i)
      · rw [if_pos ht]
        rcases hI2 with ⟨rfl, hb⟩ | ⟨rfl, hb⟩
        · exact ⟨nI j, nI 1, fun rec => by rw [hst, if_pos ht, if_neg h10], rfl, Or.inl ⟨rfl, hbr.mpr (Or.inl hb)⟩⟩
        · by_cases h2 : s (111 + 11 * j + 2) = nI 0
          · exact ⟨nI j, nI 1, fun rec => by rw [hst, if_pos ht, if_pos rfl, if_pos h2], rfl, Or.inl ⟨rfl, hbr.mpr (Or.inr ⟨ht, h2⟩)⟩⟩
          · exact ⟨nI j, nI 0, fun rec => by rw [hst, if_pos ht, if_pos rfl, if_neg h2], rfl, Or.inr ⟨rfl, fun z => (hbr.mp z).elim hb (fun q => h2 q.2)⟩⟩
      · rw [if_neg ht]
        rcases hI2 with ⟨rfl, hb⟩ | ⟨rfl, hb⟩
        · exact ⟨cz_ah s i j, nI 1, fun rec => by rw [hst, if_neg ht, if_neg h10], rfl, Or.inl ⟨rfl, hbr.mpr (Or.inl hb)⟩⟩
        · exact ⟨cz_ah s i j, nI 0, fun rec => by rw [hst, if_neg ht, if_pos rfl], rfl, Or.inr ⟨rfl, fun z => (hbr.mp z).elim hb (fun q => ht q.1)⟩⟩)
    (fun s1 t hI rec => by rw [f_L_isLetter_L97, if_pos (nI_le (Nat.le_refl _) (by omega))]) i 0 (-6 : Int32) (nI 0) 4096 (by omega) (by omega) ⟨rfl, Or.inr ⟨rfl, fun ⟨k, hk, _⟩ => by omega⟩⟩
  rw [hI1] at h
  exact ⟨t', hI2, h⟩
/-- when a letter comes, if it is settled at once, and if not -/
theorem cz_uv_n {i : Nat} (h : s (111 + 11 * i + 2) ≠ nI 0) : cz_uv s n W R i = if s (111 + 11 * i + 2) = nI 1 then nI 0 else (-6 : Int32) := by
  have e : cz_uK s n W R i = 0 := by
    unfold cz_uK
    show cz_un _ (99 + 1) 0 = 0
    rw [cz_un, if_neg (show ¬ decide ((cz_sk s n W R 0).1 (111 + 11 * i + 2) = nI 0) = true from fun z => h (of_decide_eq_true z))]
  unfold cz_uv
  rw [e]
  rfl
theorem cz_uv_w {i : Nat} (h : s (111 + 11 * i + 2) = nI 0) : cz_uv s n W R i ≠ nI 0 := by
  have e : 1 ≤ cz_uK s n W R i ∧ cz_uK s n W R i ≤ 100 := by
    refine ⟨?_, cz_un_le _ 100 0⟩
    unfold cz_uK
    show 1 ≤ cz_un _ (99 + 1) 0
    rw [cz_un, if_pos (show decide ((cz_sk s n W R 0).1 (111 + 11 * i + 2) = nI 0) = true from decide_eq_true h)]
    exact (cz_un_sp _ 99 1).1
  unfold cz_uv
  split
  · exact fun z => absurd (cz_nI_inj (by omega) (by omega) z) (by omega)
  · decide
set_option maxHeartbeats 2000000 in
theorem l_isLetter {i : Nat} (J : cz_J b M (s, n, W, R) hist pc slot used pad len) (hg : cz_gx (s, n, W, R)) (hi : i < n) : ∃ M', f_L_isLetter M b (nI i) = some (nI 1, M') ∧ cz_J b M' (s, n, W, R) hist pc slot used pad len := by
  have ok := k_ok J
  have hW9 := k_W J
  have hn := ok.1.1.1
  have hgi : cz_gl s W i := hg.1 i hi
  obtain ⟨l, m, hl1, hl8, hl, hml, hm, hg1, hg2⟩ := hgi
  have hm256 : m < 2 ^ 31 := Nat.lt_of_lt_of_le hml (Nat.pow_le_pow_right (by decide) (by omega))
  have hno : cz_no s (111 + 11 * i + 5) = m := cz_no_e hm hm256
  have hpc : cz_pc m ≤ 8 := cz_pc_le m
  obtain ⟨⟨g0, g1, g2⟩, ⟨g4, g5, g6, g8, g9, g10⟩, g3, g3n⟩ := k_letter J hi
  have hle := ok.1.2.2.2.2.2.1 i hi
  have hst := ok.2 i hi
  rcases hle.2.2.2.1 with h0 | h1 | h2 | h3
  · -- it waits
    obtain ⟨rfl, h7⟩ := hg2 (by rw [show s (111 + 11 * i + 2) = nI 0 from h0]; decide)
    have h4 : s (111 + 11 * i + 4) = (-6 : Int32) := hle.2.2.2.2.2.2.1 (by rw [h0]; decide)
    obtain ⟨r, hr, hr1, hr2⟩ := hle.2.2.1
    obtain ⟨k, hk, hke⟩ := List.mem_iff_getElem.mp (hr2 h0)
    have hk40 := (ok.1.2.2.2.2.1 r hr).2.1
    obtain ⟨M1, f1, J1⟩ := k_why J hr hk
    rw [hke] at f1
    obtain ⟨⟨q0, q1, q2⟩, ⟨q4, q5, q6, q8, q9, q10⟩, q3, q3n⟩ := k_letter J1 hi
    obtain ⟨M2, f2, J2⟩ := k_until J1 hi
    have hu := cz_uv_w (n := n) (W := W) (R := R) h0
    have hwl := k_word_l J1 hi hl hl8
    have hfc := cz_fa_c s W R r k
    have hb2 : cz_fa s W R r k = 2 ↔ cz_br s i i := by
      rw [cz_br_bar, ← hke]
      unfold cz_fa cz_fk
      rw [cz_gD hk]
      by_cases hb : cz_bar s (cz_wt s) (R r)[k]
      · rw [if_pos hb]; exact ⟨fun _ => hb, fun _ => rfl⟩
      · rw [if_neg hb]
        refine ⟨fun z => ?_, fun z => absurd z hb⟩
        split at z
        · have := cz_ft_c s (cz_no s (5 + 2 * (W % 4) + r)) (R r)[k]; omega
        · omega
    have f1 : f_X4_why M b (nI i) = some (nI (cz_fa s W R r k), M1) := f1
    have e6 : f_X4_letter M1 b (nI i) (nI 6) = some (nI 0) := by rw [q6, hno]; rfl
    rw [f_L_isLetter, g2, show s (111 + 11 * i + 2) = nI 0 from h0, Option.bind_some, if_pos rfl, g3 r hr k hk hke, Option.bind_some, l_stars J hi hl hl8 hm hml]
    obtain ⟨x, hx, hloop⟩ := l_ahead J hi (nI 0) (nI k) (nI (cz_pc 0)) (fun y42 y43 y44 => cz_b2 (f_X4_why M b (nI i)) fun v46 M45 => if (nI k) < nI 0 then (none) else ((f_X4_letter M45 b (nI i) (nI 5)).bind fun v52 => if v52 = (-6 : Int32) then ((f_X4_letter M45 b (nI i) (nI 8)).bind fun v56 => if v56 = (-6 : Int32) then ((f_X4_letter M45 b (nI i) (nI 6)).bind fun v59 => if (nI (cz_pc 0)) = v59 then (if (nI (cz_pc 0)) = nI 0 then ((f_X4_letter M45 b (nI i) (nI 9)).bind fun v63 => if v63 = y42 then ((f_X4_letter M45 b (nI i) (nI 10)).bind fun v65 => (f_X4_word M45 b (nI i) v65).bind fun v66 => if v66 = (-1 : Int32) then (if v46 = (nI 1) then (none) else (if v46 = (nI 2) then (if (nI 1) = y43 then (if ((nI i) - (nI i) / (nI 4) * (nI 4)) = nI 0 then (cz_b2 (f_X4_untilCome M45 b (nI i)) fun v90 M89 => if v90 = nI 0 then (none) else (some ((nI 1), M89))) else (some ((nI 1), M45))) else (none)) else (if (nI 0) = y43 then (if ((nI i) - (nI i) / (nI 4) * (nI 4)) = nI 0 then (cz_b2 (f_X4_untilCome M45 b (nI i)) fun v80 M79 => if v80 = nI 0 then (none) else (some ((nI 1), M79))) else (some ((nI 1), M45))) else (none)))) else (none)) else (none)) else (none)) else (none)) else (none)) else (none)))
    have hz : ∀ (X : Option (Int32 × cz_M)), (X = some (nI 1, M1) ∨ X = some (nI 1, M2)) → ∃ M', X = some (nI 1, M') ∧ cz_J b M' (s, n, W, R) hist pc slot used pad len := fun X hX => by
      rcases hX with hX | hX
      · exact ⟨M1, hX, J1⟩
      · exact ⟨M2, hX, J2⟩
    refine hz _ ?_
    rw [hloop, f1, cz_b2_s, if_neg (nI_nlt (Nat.zero_le _) (by omega)), q5, h4, Option.bind_some, if_pos rfl, q8, h7, Option.bind_some, if_pos rfl, e6, Option.bind_some, if_pos (show nI (cz_pc 0) = nI 0 from rfl), if_pos (show nI (cz_pc 0) = nI 0 from rfl), q9, Option.bind_some, if_pos rfl, q10, hl, Option.bind_some, hwl, Option.bind_some, if_pos rfl, if_neg (fun z => absurd (cz_nI_inj (by omega) (by omega) z) (by omega))]
    by_cases hb : cz_br s i i
    · have hx1 : x = nI 1 := by
        rcases hx with h | h
        · exact h.1
        · exact absurd hb h.2
      rw [hb2.mpr hb, if_pos rfl, hx1, if_pos rfl]
      by_cases h4i : ((nI i) - (nI i) / (nI 4) * (nI 4)) = nI 0
      · rw [if_pos h4i, f2, cz_b2_s, if_neg hu]; exact Or.inr rfl
      · rw [if_neg h4i]; exact Or.inl rfl
    · have hx1 : x = nI 0 := by
        rcases hx with h | h
        · exact absurd h.2 hb
        · exact h.1
      have hne2 : cz_fa s W R r k ≠ 2 := fun z => hb (hb2.mp z)
      rw [if_neg (fun z => hne2 (cz_nI_inj (by omega) (by omega) z)), hx1, if_pos rfl]
      by_cases h4i : ((nI i) - (nI i) / (nI 4) * (nI 4)) = nI 0
      · rw [if_pos h4i, f2, cz_b2_s, if_neg hu]; exact Or.inr rfl
      · rw [if_neg h4i]; exact Or.inl rfl
  · -- it has come
    obtain ⟨⟨v, d, hd1, hd2, hv, hd⟩, c, hc, h7⟩ := hg1 h1
    have hd2 : v + d ≤ W := hd2
    have hv : s (111 + 11 * i + 3) = nI v := hv
    have hd : s (111 + 11 * i + 4) = nI d := hd
    have h7 : s (111 + 11 * i + 7) = nI c := h7
    have hn0 : s (111 + 11 * i + 2) ≠ nI 0 := by rw [h1]; decide
    have f1 := k_why1 J hi hn0
    obtain ⟨M2, f2, J2⟩ := k_until J hi
    have hu : cz_uv s n W R i = nI 0 := by rw [cz_uv_n hn0, if_pos h1]
    have hwl := k_word_l J hi hl hl8
    rw [hno] at g6
    rw [f_L_isLetter, g2, h1, Option.bind_some, if_neg (by decide), if_pos rfl, g3n hn0, Option.bind_some, l_stars J hi hl hl8 hm hml]
    obtain ⟨x, hx, hloop⟩ := l_ahead J hi (nI 1) (-6 : Int32) (nI (cz_pc m)) (fun y102 y103 y104 => cz_b2 (f_X4_why M b (nI i)) fun v106 M105 => if (-6 : Int32) < nI 0 then ((f_X4_letter M105 b (nI i) (nI 5)).bind fun v111 => if v111 = (-6 : Int32) then (none) else ((f_X4_letter M105 b (nI i) (nI 8)).bind fun v116 => if v116 = (-6 : Int32) then (none) else ((f_X4_letter M105 b (nI i) (nI 6)).bind fun v120 => if (nI (cz_pc m)) = v120 then ((f_X4_letter M105 b (nI i) (nI 9)).bind fun v123 => if v123 = y102 then ((f_X4_letter M105 b (nI i) (nI 10)).bind fun v125 => (f_X4_word M105 b (nI i) v125).bind fun v126 => if v126 = (-1 : Int32) then (if v106 = (nI 1) then ((f_X4_letter M105 b (nI i) (nI 5)).bind fun v136 => if v136 < (nI 1) then (none) else ((f_X4_letter M105 b (nI i) (nI 5)).bind fun v138 => cz_b2 (f_X4_count M105 b (nI 3)) fun v140 M139 => (f_X4_letter M139 b (nI i) (nI 4)).bind fun v141 => if (v140 - v141) < v138 then (none) else (if ((nI i) - (nI i) / (nI 4) * (nI 4)) = nI 0 then (cz_b2 (f_X4_untilCome M139 b (nI i)) fun v147 M146 => if v147 = nI 0 then (some ((nI 1), M146)) else (none)) else (some ((nI 1), M139))))) else (none)) else (none)) else (none)) else (none)))) else (none))
    have hz : ∀ (X : Option (Int32 × cz_M)), (X = some (nI 1, M) ∨ X = some (nI 1, M2)) → ∃ M', X = some (nI 1, M') ∧ cz_J b M' (s, n, W, R) hist pc slot used pad len := fun X hX => by
      rcases hX with hX | hX
      · exact ⟨M, hX, J⟩
      · exact ⟨M2, hX, J2⟩
    refine hz _ ?_
    rw [hloop, f1, cz_b2_s, if_pos (by decide), g5, hd, Option.bind_some, if_neg (cz_nIm (by omega)), g8, h7, Option.bind_some, if_neg (cz_nIm (by omega)), g6, Option.bind_some, if_pos rfl, g9, Option.bind_some, if_pos rfl, g10, hl, Option.bind_some, hwl, Option.bind_some, if_pos rfl, if_pos rfl, Option.bind_some, if_neg (nI_nlt hd1 (by omega)), Option.bind_some, k_count3 J, cz_b2_s, g4, hv, Option.bind_some, cz_subN (by omega), if_neg (nI_nlt (by omega) (by omega))]
    by_cases h4i : ((nI i) - (nI i) / (nI 4) * (nI 4)) = nI 0
    · rw [if_pos h4i, f2, cz_b2_s, if_pos hu]; exact Or.inr rfl
    · rw [if_neg h4i]; exact Or.inl rfl
  · -- it is burnt
    obtain ⟨rfl, h7⟩ := hg2 (by rw [show s (111 + 11 * i + 2) = nI 2 from h2]; decide)
    have h4 : s (111 + 11 * i + 4) = (-6 : Int32) := hle.2.2.2.2.2.2.1 (by rw [h2]; decide)
    have hn0 : s (111 + 11 * i + 2) ≠ nI 0 := by rw [h2]; decide
    have f1 := k_why1 J hi hn0
    obtain ⟨M2, f2, J2⟩ := k_until J hi
    have hu : cz_uv s n W R i ≠ nI 0 := by rw [cz_uv_n hn0, if_neg (by rw [h2]; decide)]; decide
    have hwl := k_word_l J hi hl hl8
    have e6 : f_X4_letter M b (nI i) (nI 6) = some (nI 0) := by rw [g6, hno]; rfl
    rw [f_L_isLetter, g2, h2, Option.bind_some, if_neg (by decide), if_neg (by decide), if_pos rfl, g3n hn0, Option.bind_some, l_stars J hi hl hl8 hm hml]
    obtain ⟨x, hx, hloop⟩ := l_ahead J hi (nI 2) (-6 : Int32) (nI (cz_pc 0)) (fun y156 y157 y158 => cz_b2 (f_X4_why M b (nI i)) fun v160 M159 => if (-6 : Int32) < nI 0 then ((f_X4_letter M159 b (nI i) (nI 5)).bind fun v165 => if v165 = (-6 : Int32) then ((f_X4_letter M159 b (nI i) (nI 8)).bind fun v169 => if v169 = (-6 : Int32) then ((f_X4_letter M159 b (nI i) (nI 6)).bind fun v172 => if (nI (cz_pc 0)) = v172 then (if (nI (cz_pc 0)) = nI 0 then ((f_X4_letter M159 b (nI i) (nI 9)).bind fun v176 => if v176 = y156 then ((f_X4_letter M159 b (nI i) (nI 10)).bind fun v178 => (f_X4_word M159 b (nI i) v178).bind fun v179 => if v179 = (-1 : Int32) then (if v160 = (nI 1) then (if ((nI i) - (nI i) / (nI 4) * (nI 4)) = nI 0 then (cz_b2 (f_X4_untilCome M159 b (nI i)) fun v193 M192 => if v193 = nI 0 then (none) else (some ((nI 1), M192))) else (some ((nI 1), M159))) else (none)) else (none)) else (none)) else (none)) else (none)) else (none)) else (none)) else (none))
    have hz : ∀ (X : Option (Int32 × cz_M)), (X = some (nI 1, M) ∨ X = some (nI 1, M2)) → ∃ M', X = some (nI 1, M') ∧ cz_J b M' (s, n, W, R) hist pc slot used pad len := fun X hX => by
      rcases hX with hX | hX
      · exact ⟨M, hX, J⟩
      · exact ⟨M2, hX, J2⟩
    refine hz _ ?_
    rw [hloop, f1, cz_b2_s, if_pos (by decide), g5, h4, Option.bind_some, if_pos rfl, g8, h7, Option.bind_some, if_pos rfl, e6, Option.bind_some, if_pos (show nI (cz_pc 0) = nI 0 from rfl), if_pos (show nI (cz_pc 0) = nI 0 from rfl), g9, Option.bind_some, if_pos rfl, g10, hl, Option.bind_some, hwl, Option.bind_some, if_pos rfl, if_pos rfl]
    by_cases h4i : ((nI i) - (nI i) / (nI 4) * (nI 4)) = nI 0
    · rw [if_pos h4i, f2, cz_b2_s, if_neg hu]; exact Or.inr rfl
    · rw [if_neg h4i]; exact Or.inl rfl
  · exact absurd h3 hst
end LA
