/-! new object; the law's loop -/
theorem cz_j1 : ∀ k, k < 8 → cz_ini 4 k = nI ((k / 2 + k % 2) % 4) := by decide +kernel
theorem cz_j2 : ∀ c, c < 4 → ∀ f, f < 4 → cz_ini (10 + c) f = nI 0 := by decide +kernel
theorem cz_j3 : ∀ r, r < 2 → cz_ini (54 + 2 * r) 1 = nI 0 ∧ cz_ini 117 r = nI 0 := by decide +kernel
theorem cz_j4 : cz_ini 2 0 = nI 3 ∧ cz_ini 2 1 = nI 2 ∧ cz_ini 2 2 = nI 2 := by decide +kernel
theorem cz_j5 : cz_ini 0 6 = nI 0 ∧ cz_ini 0 7 = nI 0 ∧ cz_ini 1 7 = nI 0 ∧ cz_ini 1 8 = nI 0 := by decide +kernel
/-- the state of a new object -/
def cz_a0 (k : Nat) : Int32 := if k < 3 then cz_ini 2 k else if 5 ≤ k ∧ k < 13 then cz_ini 4 (k - 5) else nI 0
theorem cz_a0_5 {k : Nat} (hk : k < 8) : cz_a0 (5 + k) = nI ((k / 2 + k % 2) % 4) := by
  unfold cz_a0
  rw [if_neg (by omega), if_pos (by omega), Nat.add_sub_cancel_left, cz_j1 k hk]
theorem cz_a0_n {k : Nat} (h3 : 3 ≤ k) (h : k < 5 ∨ 13 ≤ k) : cz_a0 k = nI 0 := by
  unfold cz_a0
  rw [if_neg (by omega), if_neg (by omega)]
theorem cz_ok_0 : cz_ok cz_a0 0 0 (fun _ => []) := by
  refine ⟨⟨⟨by omega, cz_a0_n (by decide) (by decide), by decide, cz_a0_n (by decide) (by decide)⟩, ⟨⟨3, by decide, cz_j4.1⟩, ⟨2, by decide, cz_j4.2.1⟩, ⟨2, by decide, cz_j4.2.2⟩⟩, fun k hk => ⟨(k / 2 + k % 2) % 4, Nat.mod_lt _ (by decide), cz_a0_5 hk⟩, fun c hc => ⟨0, by decide, cz_a0_n (by omega) (by omega)⟩, fun r hr => ⟨cz_a0_n (by omega) (by omega), Nat.zero_le _, fun k h => by simp at h, List.nodup_nil, fun i hi => by simp at hi⟩, fun i hi => by omega, fun c hc => ⟨0, Nat.zero_le _, cz_a0_n (by omega) (by omega)⟩⟩, fun i hi => by omega⟩
theorem cz_gx_0 : cz_gx (cz_a0, 0, 0, fun _ => []) := ⟨fun i hi => absurd hi (Nat.not_lt_zero _), fun c hc => ⟨0, 0, Nat.le_refl _, Nat.zero_le _, show cz_a0 (13 + 4 * c + 3) = nI 0 from cz_a0_n (by omega) (by omega), show cz_a0 (13 + 4 * c + 1) = nI 0 from cz_a0_n (by omega) (by omega)⟩⟩
theorem cz_nI_m100 {v : Nat} (hv : v < 2 ^ 31) : ¬ nI v = (-100 : Int32) := fun z => by
  have h := congrArg Int32.toInt z
  rw [nI_toInt hv] at h
  have e : (-100 : Int32).toInt = -100 := by decide
  omega
theorem cz_J_0 (b : Nat) : cz_J b (cz_M0 b) (cz_a0, 0, 0, fun _ => []) (fun _ => (cz_a0, 0, 0, fun _ => [])) 0 (fun _ => (cz_a0, 0, 0, fun _ => [])) (fun _ => 0) (fun _ => 0) 0 := by
  have hM : ∀ o k, (cz_M0 b).1 (b + o) k = cz_ini o k := fun o k => by show cz_ini (b + o - b) k = _; rw [Nat.add_sub_cancel_left]
  have hb : ∀ k, (cz_M0 b).1 b k = cz_ini 0 k := fun k => by show cz_ini (b - b) k = _; rw [Nat.sub_self]
  refine ⟨⟨⟨cz_ok_0, Nat.zero_le _⟩, ⟨Nat.zero_le _, fun i hi => absurd hi (Nat.not_lt_zero _)⟩, fun i hi => ⟨(show (0 : Nat) < 2 by decide), fun z => absurd z (show ¬ (0 : Nat) = 1 by decide)⟩, Nat.zero_le _, fun k hk => absurd hk (Nat.not_lt_zero _)⟩, ?_, ?_, ⟨fun i => i, fun i hi => ⟨hi, ?_⟩, fun i j _ _ h => h⟩, fun i hi => absurd hi (Nat.not_lt_zero _), fun i hi => ⟨?_, fun z => absurd z (show ¬ (0 : Nat) = 1 by decide)⟩, ?_, fun k hk => absurd hk (Nat.not_lt_zero _)⟩
  · show cz_rp (cz_M0 b) (b + 1) cz_a0 0 (fun _ => [])
    refine ⟨fun k hk => ?_, ⟨?_, ?_⟩, fun k hk => ?_, fun c hc f hf => ?_, fun r hr => ⟨?_, fun k h => by simp at h⟩, fun i hi => absurd hi (Nat.not_lt_zero _)⟩
    · rw [show b + 1 + 1 = b + 2 by omega, hM]
      unfold cz_a0
      rw [if_pos hk]
    · rw [hM, cz_j5.2.2.2, cz_a0_n (by decide) (by decide)]
    · rw [hM, cz_j5.2.2.1, cz_a0_n (by decide) (by decide)]
    · rw [show b + 1 + 3 = b + 4 by omega, hM, cz_a0_5 hk, cz_j1 k hk]
    · rw [show b + 1 + 2 + (7 + c) = b + (10 + c) by omega, hM, cz_j2 c hc f hf, cz_a0_n (by omega) (by omega)]
    · rw [show b + 1 + 5 + (48 + 2 * r) = b + (54 + 2 * r) by omega, hM, (cz_j3 r hr).1]
      rfl
  · rw [hb, cz_j5.1]
  · show b + (119 + 57 * i) = b + 119 + 57 * i
    omega
  · rw [hM, (cz_j3 i hi).2]
  · rw [hb, cz_j5.2.1]
theorem l_cell {L : Nat} {xs : Nat → Int32} {k : Nat} (hk : k < 2 ^ 31) (hL : L ≤ 260) : ∃ v, f_L_cell L xs (nI k) = some v := by
  unfold f_L_cell
  by_cases h : L ≤ k
  · rw [if_pos (nI_le h hk)]
    exact ⟨_, rfl⟩
  · rw [if_neg (nI_ge (by omega) (by omega)), cz_gdn (by omega) (by omega)]
    exact ⟨_, rfl⟩
/-- what holds between two turns -/
def cz_LI (b : Nat) (M : cz_M) (k : Nat) : Prop := ∃ A hist pc slot used pad, cz_J b M A hist pc slot used pad 0 ∧ cz_gx A ∧ A.2.1 ≤ k ∧ A.2.2.1 ≤ 3 * k
set_option maxHeartbeats 2000000 in
theorem law_turn {b L : Nat} {xs : Nat → Int32} (hL : L ≤ 260) {T k : Nat} (hT : T ≤ 34) (hk : k < T) (M : cz_M) (iv : cz_LI b M k) : ∃ M', cz_LI b M' (k + 1) ∧ ∀ rec, f_L_law_L71 L xs b (nI T) rec (nI k) M = rec (nI (k + 1)) M' := by
  obtain ⟨⟨s, n, W, R⟩, hist, pc, slot, used, pad, J, hg, hn, hW⟩ := iv
  have hn : n ≤ k := hn
  have hW : W ≤ 3 * k := hW
  have hpc := J.1.2.1.1
  obtain ⟨y0, c0⟩ := l_cell (L := L) (xs := xs) (k := 3 * k) (by omega) hL
  obtain ⟨y1, c1⟩ := l_cell (L := L) (xs := xs) (k := 3 * k + 1) (by omega) hL
  obtain ⟨y2, c2⟩ := l_cell (L := L) (xs := xs) (k := 3 * k + 2) (by omega) hL
  obtain ⟨q, hq, hqe⟩ := l_low y0 (m := 13) (by decide) (by decide)
  obtain ⟨told, M1, f1, hres⟩ := l_change J hg (by omega) (by omega) hq y1 y2
  -- behind the change: the count of changes, and the look
  have hafter : ∀ (M1 : cz_M) (A' : cz_S) (hist' : Nat → cz_S) (pc' : Nat) (pad' : Nat → Nat), cz_J b M1 A' hist' pc' slot used pad' 0 → cz_gx A' → A'.2.1 ≤ k + 1 → A'.2.2.1 ≤ 3 * (k + 1) → ∃ M', cz_LI b M' (k + 1) ∧ ∀ rec : Int32 → cz_M → Option Unit, (cz_b2 (f_L_holds M1 b) fun v30 M29 => if v30 = nI 0 then (none) else (if (nI k - nI k / (nI 5) * (nI 5)) = (nI 4) then ((f_L_cell L xs (((nI 3) * nI k) + (nI 2))).bind fun v35 => cz_b2 (f_L_tries M29 b v35) fun v37 M36 => if v37 = nI 0 then (none) else (cz_b2 (f_L_holds M36 b) fun v40 M39 => if v40 = nI 0 then (none) else (cz_lt (nI k + nI 1) fun v42 => rec v42 M39))) else (cz_lt (nI k + nI 1) fun v33 => rec v33 M29))) = rec (nI (k + 1)) M' := by
    intro M1 A' hist' pc' pad' J1 hg1 hn1 hW1
    obtain ⟨s1, n1, W1, R1⟩ := A'
    have hW1' : W1 ≤ 3 * (k + 1) := hW1
    obtain ⟨M2, f2, J2⟩ := l_told J1 hg1
    by_cases h5 : (nI k - nI k / (nI 5) * (nI 5)) = (nI 4)
    · obtain ⟨l, hl1, hl2⟩ := cz_H_of hist' pc'
      have JL : cz_JL b M2 (s1, n1, W1, R1) l slot used pad' 0 := ⟨hist', by rw [hl1]; exact J2, hl2⟩
      obtain ⟨M3, l', f3, ⟨hist3, J3, -⟩⟩ := l_tries JL (by omega) y2
      obtain ⟨M4, f4, J4⟩ := l_told J3 hg1
      refine ⟨M4, ⟨_, _, _, _, _, _, J4, hg1, hn1, hW1⟩, fun rec => ?_⟩
      rw [f2, cz_b2_s, if_neg (by decide), if_pos h5, pk_mul, nI_add, c2, Option.bind_some, f3, cz_b2_s, if_neg (by decide), f4, cz_b2_s, if_neg (by decide), cz_lt_e, nI_add]
    · refine ⟨M2, ⟨_, _, _, _, _, _, J2, hg1, hn1, hW1⟩, fun rec => ?_⟩
      rw [f2, cz_b2_s, if_neg (by decide), if_neg h5, cz_lt_e, nI_add]
  rcases hres with ⟨hneg, h100, pad', J1⟩ | ⟨v, A', pad', hv, htold, hg1, hn1, hW1, J1⟩
  · obtain ⟨M', iv', e⟩ := hafter M1 (s, n, W, R) hist pc pad' J1 hg (by show n ≤ k + 1; omega) (by show W ≤ 3 * (k + 1); omega)
    refine ⟨M', iv', fun rec => ?_⟩
    have hge : ¬ nI 0 ≤ told := cz_lt_not hneg
    rw [f_L_law_L71, if_neg (nI_ge hk (by omega)), k_count15 J, cz_b2_s, pk_mul, c0, Option.bind_some, hqe, Option.bind_some, nI_add, c1, Option.bind_some, nI_add, c2, Option.bind_some, f1, cz_b2_s, if_neg h100, k_count15 J1, cz_b2_s, if_neg hge, if_pos rfl]
    have e := e rec
    rw [pk_mul, nI_add, c2] at e
    exact e
  · have hn1 : A'.2.1 ≤ n + 1 := hn1
    have hW1 : A'.2.2.1 ≤ W + 3 := hW1
    obtain ⟨M', iv', e⟩ := hafter M1 A' _ _ pad' J1 hg1 (by omega) (by omega)
    refine ⟨M', iv', fun rec => ?_⟩
    have e := e rec
    rw [pk_mul, nI_add, c2] at e
    rw [f_L_law_L71, if_neg (nI_ge hk (by omega)), k_count15 J, cz_b2_s, pk_mul, c0, Option.bind_some, hqe, Option.bind_some, nI_add, c1, Option.bind_some, nI_add, c2, Option.bind_some, f1, cz_b2_s, htold, if_neg (cz_nI_m100 hv), k_count15 J1, cz_b2_s, if_pos (nI_le (Nat.zero_le _) hv)]
    unfold cz_hc
    by_cases h4 : pc = 4
    · rw [if_pos (by rw [h4]), if_pos (by rw [if_pos h4])]
      exact e
    · rw [if_neg (fun z => h4 (cz_nI_inj (by omega) (by omega) z)), if_pos (by rw [if_neg h4, nI_add])]
      exact e
theorem law_all {b L : Nat} {xs : Nat → Int32} (hL : L ≤ 260) {T : Nat} (hT : T ≤ 34) : ∀ (d k fuel : Nat) (M : cz_M), k + d = T → d < fuel → cz_LI b M k → cz_it2 (f_L_law_L71 L xs b (nI T)) fuel (nI k) M = some () := by
  intro d
  induction d with
  | zero =>
    intro k fuel M hk hf iv
    obtain rfl : k = T := by omega
    obtain ⟨g, rfl⟩ : ∃ g, fuel = g + 1 := ⟨fuel - 1, by omega⟩
    show f_L_law_L71 L xs b (nI k) (cz_it2 (f_L_law_L71 L xs b (nI k)) g) (nI k) M = _
    rw [f_L_law_L71, if_pos (nI_le (Nat.le_refl _) (by omega))]
  | succ d ih =>
    intro k fuel M hk hf iv
    obtain ⟨g, rfl⟩ : ∃ g, fuel = g + 1 := ⟨fuel - 1, by omega⟩
    obtain ⟨M', iv', e⟩ := law_turn (xs := xs) hL hT (show k < T by omega) M iv
    exact (e _).trans (ih (k + 1) g M' (by omega) (by omega) iv')
/-- THE LAW, with no machine -/
theorem pure_law (b L : Nat) (xs : Nat → Int32) (hL : L ≤ 260) : f_L_law_L8 L xs b (cz_M0 b) = some () := by
  have J := cz_J_0 b
  obtain ⟨M1, f1, J1⟩ := l_told J cz_gx_0
  have o0 := k_onShift J1 (w := 3) (r := 0) (by decide) (by decide)
  have o1 := k_onShift J1 (w := 3) (r := 1) (by decide) (by decide)
  have e0 : cz_a0 (5 + (2 * (3 % 4) + 0)) = nI 3 := cz_a0_5 (k := 6) (by decide)
  have e1 : cz_a0 (5 + (2 * (3 % 4) + 1)) = nI 0 := cz_a0_5 (k := 7) (by decide)
  rw [e0] at o0
  rw [e1] at o1
  have iv : cz_LI b M1 0 := ⟨_, _, _, _, _, _, J1, cz_gx_0, Nat.le_refl _, Nat.le_refl _⟩
  have hd : nI L / nI 3 = nI (L / 3) := pk_div (by omega) (by decide) (by decide)
  rw [f_L_law_L8, f1, cz_b2_s, if_neg (by decide), k_undo0 J1, cz_b2_s, if_pos rfl, o0, Option.bind_some, if_pos rfl, o1, Option.bind_some, if_pos rfl, hd]
  by_cases h : L / 3 ≤ 34
  · rw [if_pos (nI_le h (by decide)), cz_lt_e]
    exact law_all hL h (L / 3) 0 4096 M1 (by omega) (by omega) iv
  · rw [if_neg (nI_ge (by omega) (by omega))]
    exact law_all hL (Nat.le_refl _) 34 0 4096 M1 (by omega) (by omega) iv
