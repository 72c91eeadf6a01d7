/-! the law's changes -/
def cz_wL (b : Nat) (x2 x3 : Int32) (M1 : cz_M) : Option (Int32 × cz_M) :=
  (f_L_low x2 (nI 5)).bind fun v4 => cz_b2 (f_X4_put M1 b (Int32.toInt64 ((nI 48) + v4))) fun v6 M5 => if ((x2 >>> ((nI 3) &&& nI 31)) &&& (nI 1)) = nI 0 then (cz_b2 (f_X4_put M5 b (62 : Int64)) fun v24 M23 => cz_it2 (f_L_change_L103 b x2 x3 (fun y25 M26 => cz_b2 (f_X4_read M26 b) fun v28 M27 => cz_b2 (f_X4_wipe M27 b) fun v30 M29 => some (v28, M29))) 4096 (nI 0) M23) else (cz_b2 (f_X4_put M5 b (60 : Int64)) fun v9 M8 => cz_it2 (f_L_change_L103 b x2 x3 (fun y17 M18 => cz_b2 (f_X4_read M18 b) fun v20 M19 => cz_b2 (f_X4_wipe M19 b) fun v22 M21 => some (v20, M21))) 4096 (nI 0) M8)
/-- a pad with one letter: thread, way, 1 to 8 words -/
theorem cz_one {pad : Nat → Nat} {m : Nat} (hm : 1 ≤ m) (hm8 : m ≤ 8) (h0 : 48 ≤ pad 0 ∧ pad 0 ≤ 52) (h1 : pad 1 = 62 ∨ pad 1 = 60) (hw : ∀ k, 2 ≤ k → k < 2 + m → 97 ≤ pad k ∧ pad k ≤ 122) : cz_rt pad (2 + m) 0 = 2 + m ∧ cz_fp pad (2 + m) (2 + m) 0 0 = (-6 : Int32) ∧ cz_vl pad (2 + m) 1 0 := by
  have e0 : cz_nx pad (2 + m) 0 = pad 0 := if_pos (by omega)
  have e1 : cz_nx pad (2 + m) (0 + 1) = pad 1 := if_pos (by omega)
  have hrt : cz_rt pad (2 + m) 0 = 2 + m := by
    unfold cz_rt
    rw [e0, e1, if_pos h0, if_pos h1]
    obtain ⟨k1, k2, k3, k4⟩ := cz_un_sp (cz_wd pad (2 + m) 0) 8 2
    generalize cz_un (cz_wd pad (2 + m) 0) 8 2 = K at k1 k2 k3 k4
    rcases Nat.lt_trichotomy K (2 + m) with h | h | h
    · have h5 := k4 (by omega)
      exfalso
      apply h5
      unfold cz_wd
      apply decide_eq_true
      have e : cz_nx pad (2 + m) (0 + K) = pad K := by
        unfold cz_nx
        rw [if_pos (by omega), Nat.zero_add]
      rw [e]
      exact hw K k1 h
    · exact h
    · have h5 := k3 (2 + m) (by omega) h
      unfold cz_wd at h5
      have h6 := of_decide_eq_true h5
      have e : cz_nx pad (2 + m) (0 + (2 + m)) = 0 := by
        unfold cz_nx
        rw [if_neg (by omega)]
      rw [e] at h6
      omega
  refine ⟨hrt, ?_, by rw [hrt]; omega, Or.inl ⟨by rw [hrt]; omega, rfl⟩⟩
  have h := cz_fp_l (pad := pad) (len := 2 + m) (p := 0) (Nat.zero_le _)
  rw [hrt, if_neg (by omega), if_neg (by omega), Nat.sub_zero] at h
  exact h
section LI
variable {b : Nat} {M : cz_M} {s : Nat → Int32} {n W : Nat} {R : Nat → List Nat} {hist : Nat → cz_S} {pc : Nat} {slot : Nat → cz_S} {used pad : Nat → Nat} {len : Nat}
theorem l_words {A : cz_S} {x2 x3 : Int32} {e : Nat} (he : e < 8) (hx : f_L_low (x2 >>> ((nI 4) &&& nI 31)) (nI 8) = some (nI e)) : ∀ (d j fuel : Nat) (M : cz_M) (pad : Nat → Nat), j + d = 1 + e → d < fuel → cz_J b M A hist pc slot used pad (2 + j) → (∀ k, 2 ≤ k → k < 2 + j → 97 ≤ pad k ∧ pad k ≤ 122) →
    ∃ M' pad', cz_J b M' A hist pc slot used pad' (2 + (1 + e)) ∧ pad' 0 = pad 0 ∧ pad' 1 = pad 1 ∧ (∀ k, 2 ≤ k → k < 2 + (1 + e) → 97 ≤ pad' k ∧ pad' k ≤ 122) ∧ ∀ K, cz_it2 (f_L_change_L103 b x2 x3 K) fuel (nI j) M = K (nI (1 + e)) M' := by
  intro d
  induction d with
  | zero =>
    intro j fuel M pad hj hf J h
    obtain rfl : j = 1 + e := by omega
    obtain ⟨g, rfl⟩ : ∃ g, fuel = g + 1 := ⟨fuel - 1, by omega⟩
    refine ⟨M, pad, J, rfl, rfl, h, fun K => ?_⟩
    show f_L_change_L103 b x2 x3 K (cz_it2 (f_L_change_L103 b x2 x3 K) g) (nI (1 + e)) M = _
    rw [f_L_change_L103, hx, Option.bind_some, nI_add, if_pos (nI_le (Nat.le_refl _) (by omega))]
  | succ d ih =>
    intro j fuel M pad hj hf J h
    obtain ⟨g, rfl⟩ : ∃ g, fuel = g + 1 := ⟨fuel - 1, by omega⟩
    obtain ⟨w, hw, hwe⟩ := l_low (x3 >>> (((nI 3) * nI j) &&& nI 31)) (m := 8) (by decide) (by decide)
    obtain ⟨M1, f1, J1⟩ := k_put J (c := 97 + w) (by omega) (by omega) (by omega)
    have J1 : cz_J b M1 A hist pc slot used (fun k => if k = 2 + j then 97 + w else pad k) (2 + (j + 1)) := J1
    obtain ⟨M', pad', a1, a2, a3, a4, a5⟩ := ih (j + 1) g M1 _ (by omega) (by omega) J1 (fun k hk1 hk2 => by
      by_cases hk : k = 2 + j
      · simp only [if_pos hk]; omega
      · simp only [if_neg hk]; exact h k hk1 (by omega))
    refine ⟨M', pad', a1, ?_, ?_, a4, fun K => Eq.trans ?_ (a5 K)⟩
    · rw [a2]; exact if_neg (by omega)
    · rw [a3]; exact if_neg (by omega)
    · show f_L_change_L103 b x2 x3 K (cz_it2 (f_L_change_L103 b x2 x3 K) g) (nI j) M = _
      rw [f_L_change_L103, hx, Option.bind_some, nI_add, if_neg (nI_ge (by omega) (by omega)), hwe, Option.bind_some, nI_add, cz_L64 _ (by omega), f1, cz_b2_s, cz_lt_e, nI_add]
theorem l_letter (J : cz_J b M (s, n, W, R) hist pc slot used pad 0) (hg : cz_gx (s, n, W, R)) (hn : n < 40) (x2 x3 : Int32) :
    ∃ M' A' pad', cz_wL b x2 x3 M = some (nI (n + 1), M') ∧ cz_gx A' ∧ A'.2.1 = n + 1 ∧ A'.2.2.1 = W ∧ cz_J b M' A' (cz_hp hist pc (s, n, W, R)) (cz_hc pc) slot used pad' 0 := by
  have ok := k_ok J
  obtain ⟨t, ht, hte⟩ := l_low x2 (m := 5) (by decide) (by decide)
  obtain ⟨e, he, hee⟩ := l_low (x2 >>> ((nI 4) &&& nI 31)) (m := 8) (by decide) (by decide)
  obtain ⟨M1, f1, J1⟩ := k_put J (c := 48 + t) (by omega) (by omega) (by omega)
  have key : ∀ c, (c = 62 ∨ c = 60) → ∃ M' A' pad', (cz_b2 (f_X4_put M1 b (cz_L c)) fun v24 M23 => cz_it2 (f_L_change_L103 b x2 x3 (fun y25 M26 => cz_b2 (f_X4_read M26 b) fun v28 M27 => cz_b2 (f_X4_wipe M27 b) fun v30 M29 => some (v28, M29))) 4096 (nI 0) M23) = some (nI (n + 1), M') ∧ cz_gx A' ∧ A'.2.1 = n + 1 ∧ A'.2.2.1 = W ∧ cz_J b M' A' (cz_hp hist pc (s, n, W, R)) (cz_hc pc) slot used pad' 0 := by
    intro c hc
    obtain ⟨M2, f2, J2⟩ := k_put J1 (c := c) (by omega) (by omega) (by omega)
    have J2 : cz_J b M2 (s, n, W, R) hist pc slot used _ (2 + 0) := J2
    obtain ⟨M3, pad3, J3, p0, p1, pw, e3⟩ := l_words (b := b) (x3 := x3) he hee (1 + e) 0 4096 M2 _ (by omega) (by omega) J2 (fun k h1 h2 => by omega)
    have p0 : pad3 0 = 48 + t := p0
    have p1 : pad3 1 = c := p1
    obtain ⟨hrt, hfp, hvl⟩ := cz_one (pad := pad3) (m := 1 + e) (by omega) (by omega) (by omega) (by omega) pw
    obtain ⟨M4, f4, J4⟩ := k_read J3 hfp hvl (by omega)
    obtain ⟨f5, J5⟩ := k_wipe J4
    refine ⟨cz_mI M4 b 7 (nI 0), cz_ls pad3 (2 + (1 + e)) 0 (s, n, W, R), pad3, by rw [f2, cz_b2_s, e3, f4, cz_b2_s, f5, cz_b2_s], ?_, rfl, rfl, J5⟩
    have hr2 := cz_pr_2 pad3 0
    obtain ⟨hm1, hm8⟩ := cz_pm_8 hvl.1
    have hrow := ok.1.2.2.2.2.1 (cz_pr pad3 0) hr2
    exact cz_gx_wr hr2 (Nat.lt_of_le_of_lt (cz_nodup_le n _ hrow.2.2.2.1 (fun i hi => (hrow.2.2.2.2 i hi).1)) hn) hm1 hm8 hg
  have hL62 : (62 : Int64) = cz_L 62 := by decide
  have hL60 : (60 : Int64) = cz_L 60 := by decide
  by_cases hb : ((x2 >>> ((nI 3) &&& nI 31)) &&& (nI 1)) = nI 0
  · obtain ⟨M', A', pad', h1, h2⟩ := key 62 (Or.inl rfl)
    refine ⟨M', A', pad', ?_, h2⟩
    rw [cz_wL, hte, Option.bind_some, nI_add, cz_L64 _ (by omega), f1, cz_b2_s, if_pos hb, hL62]
    exact h1
  · obtain ⟨M', A', pad', h1, h2⟩ := key 60 (Or.inr rfl)
    refine ⟨M', A', pad', ?_, h2⟩
    rw [cz_wL, hte, Option.bind_some, nI_add, cz_L64 _ (by omega), f1, cz_b2_s, if_neg hb, hL60]
    exact h1
/-- what a change may have done -/
def cz_res (b : Nat) (M' : cz_M) (told : Int32) (A : cz_S) (hist : Nat → cz_S) (pc : Nat) (slot : Nat → cz_S) (used : Nat → Nat) : Prop :=
  (told < nI 0 ∧ told ≠ (-100 : Int32) ∧ ∃ pad', cz_J b M' A hist pc slot used pad' 0) ∨ ∃ v A' pad', v < 2 ^ 31 ∧ told = nI v ∧ cz_gx A' ∧ A'.2.1 ≤ A.2.1 + 1 ∧ A'.2.2.1 ≤ A.2.2.1 + 3 ∧ cz_J b M' A' (cz_hp hist pc A) (cz_hc pc) slot used pad' 0
set_option maxHeartbeats 2000000 in
theorem l_change (J : cz_J b M (s, n, W, R) hist pc slot used pad 0) (hg : cz_gx (s, n, W, R)) (hn : n < 40) (hW : W + 3 ≤ 9999) {q : Nat} (hq : q < 13) (x2 x3 : Int32) : ∃ told M', f_L_change M b (nI q) x2 x3 = some (told, M') ∧ cz_res b M' told (s, n, W, R) hist pc slot used := by
  have ok := k_ok J
  have hc4 := k_count4 J
  have hne : ∀ a c, a < 13 → c < 13 → a ≠ c → ¬ nI a = nI c := fun a c h1 h2 h z => h (cz_nI_inj (by omega) (by omega) z)
  have hread : ∃ told M', cz_wL b x2 x3 M = some (told, M') ∧ cz_res b M' told (s, n, W, R) hist pc slot used := by
    obtain ⟨M', A', pad', h1, h2, h3, h4, h5⟩ := l_letter J hg hn x2 x3
    exact ⟨nI (n + 1), M', h1, Or.inr ⟨n + 1, A', pad', by omega, rfl, h2, by rw [h3]; exact Nat.le_refl _, by rw [h4]; exact Nat.le_add_right _ _, h5⟩⟩
  have hstr : ∃ told M', ((f_L_low x2 (nI 5)).bind fun v116 => (f_L_low x3 (nI 8)).bind fun v117 => cz_b2 (f_X4_strike M b v116 v117) fun v119 M118 => some (v119, M118)) = some (told, M') ∧ cz_res b M' told (s, n, W, R) hist pc slot used := by
    obtain ⟨c, hc, hce⟩ := l_low x2 (m := 5) (by decide) (by decide)
    obtain ⟨w, hw, hwe⟩ := l_low x3 (m := 8) (by decide) (by decide)
    by_cases h : c < 4
    · obtain ⟨S, T, M1, hS, hT, f1, J1⟩ := k_strike J h (show w < 26 by omega)
      refine ⟨_, M1, by rw [hce, Option.bind_some, hwe, Option.bind_some, f1, cz_b2_s], Or.inr ⟨cz_bs T 26, (upd s (13 + 4 * c) (nI T), n, W, R), pad, by have := cz_bs_32 hT; omega, rfl, ?_, Nat.le_succ _, Nat.le_add_right _ _, J1⟩⟩
      exact cz_gx_gs (fun j hj => pk_un (by omega)) hg
    · obtain rfl : c = 4 := by omega
      exact ⟨(-1 : Int32), M, by rw [hce, Option.bind_some, hwe, Option.bind_some, k_strike4, cz_b2_s], Or.inl ⟨by decide, by decide, pad, J⟩⟩
  have htr : ∃ told M', ((f_L_low x2 (nI 8)).bind fun v126 => (f_L_low x3 (nI 9)).bind fun v127 => cz_b2 (f_X4_trade M b v126 v127) fun v129 M128 => some (v129, M128)) = some (told, M') ∧ cz_res b M' told (s, n, W, R) hist pc slot used := by
    obtain ⟨i, hi, hie⟩ := l_low x2 (m := 8) (by decide) (by decide)
    obtain ⟨j, hj, hje⟩ := l_low x3 (m := 9) (by decide) (by decide)
    by_cases h : j < 8
    · rcases k_trade J hi h with ⟨-, M1, f1, J1⟩ | ⟨-, f1⟩
      · obtain ⟨c, hc, hce⟩ := ok.1.2.2.1 j h
        refine ⟨_, M1, by rw [hie, Option.bind_some, hje, Option.bind_some, f1, cz_b2_s], Or.inr ⟨c, (cz_tr s i j, n, W, R), pad, by omega, hce, ?_, Nat.le_succ _, Nat.le_add_right _ _, J1⟩⟩
        exact cz_gx_gs (fun k hk => cz_tr_o hi h (by omega)) hg
      · exact ⟨(-5 : Int32), M, by rw [hie, Option.bind_some, hje, Option.bind_some, f1, cz_b2_s], Or.inl ⟨by decide, by decide, pad, J⟩⟩
    · obtain rfl : j = 8 := by omega
      exact ⟨(-1 : Int32), M, by rw [hie, Option.bind_some, hje, Option.bind_some, k_trade8 hi, cz_b2_s], Or.inl ⟨by decide, by decide, pad, J⟩⟩
  have hset : ∃ told M', ((f_L_low x2 (nI 4)).bind fun v131 => (f_L_low x3 (nI 10)).bind fun v132 => cz_b2 (f_X4_set M b v131 v132) fun v134 M133 => some (v134, M133)) = some (told, M') ∧ cz_res b M' told (s, n, W, R) hist pc slot used := by
    obtain ⟨k, hk, hke⟩ := l_low x2 (m := 4) (by decide) (by decide)
    obtain ⟨v, hv, hve⟩ := l_low x3 (m := 10) (by decide) (by decide)
    rcases k_set J hk hv with ⟨hk3, -, -, M1, f1, J1⟩ | ⟨-, f1⟩
    · have hold : ∃ o, o < 2 ^ 31 ∧ s k = nI o := by
        obtain ⟨⟨o0, h0, e0⟩, ⟨o1, h1, e1⟩, ⟨o2, h2, e2⟩⟩ := ok.1.2.1
        rcases (show k = 0 ∨ k = 1 ∨ k = 2 by omega) with rfl | rfl | rfl
        · exact ⟨o0, by omega, e0⟩
        · exact ⟨o1, by omega, e1⟩
        · exact ⟨o2, by omega, e2⟩
      obtain ⟨o, ho, hoe⟩ := hold
      refine ⟨_, M1, by rw [hke, Option.bind_some, hve, Option.bind_some, f1, cz_b2_s], Or.inr ⟨o, (upd s k (nI v), n, W, R), pad, ho, hoe, ?_, Nat.le_succ _, Nat.le_add_right _ _, J1⟩⟩
      exact cz_gx_gs (fun j hj => pk_un (by omega)) hg
    · exact ⟨(-2 : Int32), M, by rw [hke, Option.bind_some, hve, Option.bind_some, f1, cz_b2_s], Or.inl ⟨by decide, by decide, pad, J⟩⟩
  have hbu : ∃ told M', (if (x3 &&& (nI 3)) = nI 0 then ((f_L_low x2 (nI n + (nI 1))).bind fun v137 => cz_b2 (f_X4_burn M b v137) fun v139 M138 => some (v139, M138)) else (some ((-1 : Int32), M))) = some (told, M') ∧ cz_res b M' told (s, n, W, R) hist pc slot used := by
    by_cases h3 : (x3 &&& (nI 3)) = nI 0
    · rw [if_pos h3, nI_add]
      obtain ⟨i, hi, hie⟩ := l_low x2 (m := n + 1) (by omega) (by omega)
      rw [hie, Option.bind_some]
      by_cases hin : i < n
      · by_cases h0 : s (111 + 11 * i + 2) = nI 0
        · obtain ⟨r, hr, hr1, hr2⟩ := (ok.1.2.2.2.2.2.1 i hin).2.2.1
          obtain ⟨p, hp, hpe⟩ := List.mem_iff_getElem.mp (hr2 h0)
          obtain ⟨v, M1, hv, f1, J1⟩ := k_burn J hr hp
          have hW20 := ok.1.1.2.2.1
          have f1' := f1
          rw [hpe] at f1'
          exact ⟨nI v, M1, by rw [f1', cz_b2_s], Or.inr ⟨v, _, pad, by omega, rfl, cz_gx_bn ok hr hp hg, Nat.le_succ _, Nat.le_add_right _ _, J1⟩⟩
        · exact ⟨(-5 : Int32), M, by rw [k_burn5 J hin h0, cz_b2_s], Or.inl ⟨by decide, by decide, pad, J⟩⟩
      · obtain rfl : i = n := by omega
        exact ⟨(-1 : Int32), M, by rw [k_burn1 J, cz_b2_s], Or.inl ⟨by decide, by decide, pad, J⟩⟩
    · rw [if_neg h3]
      exact ⟨(-1 : Int32), M, rfl, Or.inl ⟨by decide, by decide, pad, J⟩⟩
  have hpa : ∃ told M', ((f_L_low x2 (nI 3)).bind fun v140 => cz_b2 (f_L_passes M b ((nI 1) + v140)) fun v142 M141 => some (v142, M141)) = some (told, M') ∧ cz_res b M' told (s, n, W, R) hist pc slot used := by
    obtain ⟨e, he, hee⟩ := l_low x2 (m := 3) (by decide) (by decide)
    obtain ⟨M1, f1, J1⟩ := l_passes J (k := 1 + e) (by omega) (by omega) (by omega)
    have hck := cz_ck_le ok (k := 1 + e) (by omega)
    refine ⟨_, M1, by rw [hee, Option.bind_some, nI_add, f1, cz_b2_s], Or.inr ⟨_, _, pad, by omega, rfl, cz_gx_sk ok hg (1 + e) (by omega), Nat.le_succ _, ?_, J1⟩⟩
    show W + (1 + e) ≤ W + 3
    omega
  have hcase : f_L_change M b (nI q) x2 x3 = if q ≤ 4 then cz_wL b x2 x3 M else if q ≤ 6 then ((f_L_low x2 (nI 5)).bind fun v116 => (f_L_low x3 (nI 8)).bind fun v117 => cz_b2 (f_X4_strike M b v116 v117) fun v119 M118 => some (v119, M118)) else if q = 7 then ((f_L_low x2 (nI 8)).bind fun v126 => (f_L_low x3 (nI 9)).bind fun v127 => cz_b2 (f_X4_trade M b v126 v127) fun v129 M128 => some (v129, M128)) else if q = 8 then ((f_L_low x2 (nI 4)).bind fun v131 => (f_L_low x3 (nI 10)).bind fun v132 => cz_b2 (f_X4_set M b v131 v132) fun v134 M133 => some (v134, M133)) else if q = 9 then (if (x3 &&& (nI 3)) = nI 0 then ((f_L_low x2 (nI n + (nI 1))).bind fun v137 => cz_b2 (f_X4_burn M b v137) fun v139 M138 => some (v139, M138)) else (some ((-1 : Int32), M))) else ((f_L_low x2 (nI 3)).bind fun v140 => cz_b2 (f_L_passes M b ((nI 1) + v140)) fun v142 M141 => some (v142, M141)) := by
    rw [f_L_change, hc4, cz_b2_s]
    rcases (show q = 0 ∨ q = 1 ∨ q = 2 ∨ q = 3 ∨ q = 4 ∨ q = 5 ∨ q = 6 ∨ q = 7 ∨ q = 8 ∨ q = 9 ∨ q = 10 ∨ q = 11 ∨ q = 12 by omega) with rfl | rfl | rfl | rfl | rfl | rfl | rfl | rfl | rfl | rfl | rfl | rfl | rfl
    all_goals rfl
  rw [hcase]
  by_cases h4 : q ≤ 4
  · rw [if_pos h4]; exact hread
  rw [if_neg h4]
  by_cases h6 : q ≤ 6
  · rw [if_pos h6]; exact hstr
  rw [if_neg h6]
  by_cases h7 : q = 7
  · rw [if_pos h7]; exact htr
  rw [if_neg h7]
  by_cases h8 : q = 8
  · rw [if_pos h8]; exact hset
  rw [if_neg h8]
  by_cases h9 : q = 9
  · rw [if_pos h9]; exact hbu
  rw [if_neg h9]; exact hpa
end LI
