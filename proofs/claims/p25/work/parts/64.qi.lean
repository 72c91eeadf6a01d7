/-! the least LIMIT, on both sides -/
/-- whether a letter is turned back in 100 weeks, with a LIMIT -/
def cz_lf (s : Nat → Int32) (n W : Nat) (R : Nat → List Nat) (l : Nat) : Bool := decide (cz_tt (cz_sk (upd s 1 (nI l)) n W R 100).1 ≠ cz_tt s)
theorem c_turns {M : cz_M} {b n W l : Nat} {s : Nat → Int32} {R : Nat → List Nat} (h : cz_sok (s, n, W, R)) (rp : cz_rp M (b + 1) s n R) (hl : l ≤ 8) :
    ∃ M', f_X4_turnsBackWith M b (nI l) = some (if cz_lf s n W R l = true then nI 1 else nI 0, M') ∧ cz_fr (fun x => b + 58 ≤ x ∧ x < b + 115) M M' := by
  obtain ⟨ok, hW9⟩ := id h
  have ok : cz_ok s n W R := ok
  have hW9 : W ≤ 9999 := hW9
  obtain ⟨m1, f1, g1, e1⟩ := cz_sA (M := M) (a := b + 58) (a1 := b + 1) (by omega) h rp
  have g1 : cz_rp m1 (b + 58) s n R := g1
  have okl : cz_ok (upd s 1 (nI l)) n W R := cz_ok_li hl ok
  have g2 := cz_rp_li (l := l) ok g1
  have e2 : cz_fr (fun x => b + 58 ≤ x ∧ x < b + 115) M (cz_mI m1 (b + 58 + 1) 1 (nI l)) := (e1.mono (fun x hx => by omega)).tr (cz_fr.mI ⟨by omega, by omega⟩)
  have key : ∀ (d k : Nat) (m : cz_M) (fuel : Nat), k + d = 100 → d < fuel → cz_rp m (b + 58) (cz_sk (upd s 1 (nI l)) n W R k).1 n (cz_sk (upd s 1 (nI l)) n W R k).2 → cz_tt (cz_sk (upd s 1 (nI l)) n W R k).1 = cz_tt s → cz_fr (fun x => b + 58 ≤ x ∧ x < b + 115) M m → ∃ M', cz_it2 (f_X4_turnsBackWith_L31 b (nI (cz_tt s)) (fun x18 M19 => some ((nI 0), M19))) fuel (nI k) m = some (if cz_lf s n W R l = true then nI 1 else nI 0, M') ∧ cz_fr (fun x => b + 58 ≤ x ∧ x < b + 115) M M' := by
    intro d
    induction d with
    | zero =>
      intro k m fuel hk hf hrp ht hfr
      obtain rfl : k = 100 := by omega
      obtain ⟨g, rfl⟩ : ∃ g, fuel = g + 1 := ⟨fuel - 1, by omega⟩
      refine ⟨m, ?_, hfr⟩
      have hno : ¬ cz_lf s n W R l = true := fun z => (of_decide_eq_true z) ht
      show f_X4_turnsBackWith_L31 b (nI (cz_tt s)) (fun x18 M19 => some ((nI 0), M19)) (cz_it2 (f_X4_turnsBackWith_L31 b (nI (cz_tt s)) (fun x18 M19 => some ((nI 0), M19))) g) (nI 100) m = _
      rw [f_X4_turnsBackWith_L31, if_pos (nI_le (Nat.le_refl _) (by decide)), if_neg hno]
    | succ d ih =>
      intro k m fuel hk hf hrp ht hfr
      obtain ⟨g, rfl⟩ : ∃ g, fuel = g + 1 := ⟨fuel - 1, by omega⟩
      have okk := cz_ok_sk okl k (by omega)
      have okk1 := cz_ok_sk okl (k + 1) (by omega)
      obtain ⟨m2, a1, a2, a3⟩ := c_passWeek m (b + 58) okk hrp
      have a2 : cz_rp m2 (b + 58) (cz_sk (upd s 1 (nI l)) n W R (k + 1)).1 n (cz_sk (upd s 1 (nI l)) n W R (k + 1)).2 := a2
      have ct := c_turned okk1 a2
      have b1 := cz_tt_le okk1
      have b2 := cz_tt_le ok
      have hfr2 := hfr.tr (a3.mono (D' := fun x => b + 58 ≤ x ∧ x < b + 115) (fun x hx => by omega))
      have hst : f_X4_turnsBackWith_L31 b (nI (cz_tt s)) (fun x18 M19 => some ((nI 0), M19)) (cz_it2 (f_X4_turnsBackWith_L31 b (nI (cz_tt s)) (fun x18 M19 => some ((nI 0), M19))) g) (nI k) m = if cz_tt (cz_sk (upd s 1 (nI l)) n W R (k + 1)).1 ≤ cz_tt s then cz_it2 (f_X4_turnsBackWith_L31 b (nI (cz_tt s)) (fun x18 M19 => some ((nI 0), M19))) g (nI (k + 1)) m2 else some (nI 1, m2) := by
        rw [f_X4_turnsBackWith_L31, if_neg (nI_ge (by omega) (by decide)), a1, cz_b2_s, ct, Option.bind_some, cz_lt_e, nI_add]
        by_cases hle : cz_tt (cz_sk (upd s 1 (nI l)) n W R (k + 1)).1 ≤ cz_tt s
        · rw [if_pos (nI_le hle (by omega)), if_pos hle]
        · rw [if_neg (nI_ge (by omega) (by omega)), if_neg hle]
      have m1 := cz_tt_mono okl 1 k (by omega)
      have m2' := cz_tt_mono okl (100 - (k + 1)) (k + 1) (by omega)
      rw [show k + 1 + (100 - (k + 1)) = 100 by omega] at m2'
      show ∃ M', f_X4_turnsBackWith_L31 b (nI (cz_tt s)) (fun x18 M19 => some ((nI 0), M19)) (cz_it2 (f_X4_turnsBackWith_L31 b (nI (cz_tt s)) (fun x18 M19 => some ((nI 0), M19))) g) (nI k) m = _ ∧ _
      rw [hst]
      by_cases hle : cz_tt (cz_sk (upd s 1 (nI l)) n W R (k + 1)).1 ≤ cz_tt s
      · rw [if_pos hle]
        exact ih (k + 1) m2 g (by omega) (by omega) a2 (by omega) hfr2
      · rw [if_neg hle]
        have hy : cz_lf s n W R l = true := decide_eq_true (by omega)
        exact ⟨m2, by rw [if_pos hy], hfr2⟩
  obtain ⟨M', f', e'⟩ := key 100 0 (cz_mI m1 (b + 58 + 1) 1 (nI l)) 4096 rfl (by decide) g2 (cz_tt_li s l) e2
  refine ⟨M', ?_, e'⟩
  rw [f_X4_turnsBackWith, f1, Option.bind_some, cz_gdn (by decide) (by decide), cz_lt_e, cz_cl (show 1 < 2 ^ 31 by decide), c_turned okl g2, Option.bind_some, cz_tt_li]
  exact f'
theorem c_least {M : cz_M} {b n W : Nat} {s : Nat → Int32} {R : Nat → List Nat} (h : cz_sok (s, n, W, R)) (rp : cz_rp M (b + 1) s n R) :
    ∃ M', f_X4_leastLimit M b = some (nI (cz_un (cz_lf s n W R) 8 0), M') ∧ cz_fr (fun x => b + 58 ≤ x ∧ x < b + 115) M M' := by
  have hn : n ≤ 40 := h.1.1.1.1
  have key : ∀ (d k : Nat) (m : cz_M) (fuel : Nat), k + d = 8 → d < fuel → cz_fr (fun x => b + 58 ≤ x ∧ x < b + 115) M m → ∃ M', cz_it2 (f_X4_leastLimit_L2 b (fun x7 M8 => some (x7, M8))) fuel (nI k) m = some (nI (cz_un (cz_lf s n W R) d k), M') ∧ cz_fr (fun x => b + 58 ≤ x ∧ x < b + 115) M M' := by
    intro d
    induction d with
    | zero =>
      intro k m fuel hk hf hfr
      obtain rfl : k = 8 := by omega
      obtain ⟨g, rfl⟩ : ∃ g, fuel = g + 1 := ⟨fuel - 1, by omega⟩
      refine ⟨m, ?_, hfr⟩
      show f_X4_leastLimit_L2 b (fun x7 M8 => some (x7, M8)) (cz_it2 (f_X4_leastLimit_L2 b (fun x7 M8 => some (x7, M8))) g) (nI 8) m = _
      rw [f_X4_leastLimit_L2, if_pos (nI_le (Nat.le_refl _) (by decide)), cz_un]
    | succ d ih =>
      intro k m fuel hk hf hfr
      obtain ⟨g, rfl⟩ : ∃ g, fuel = g + 1 := ⟨fuel - 1, by omega⟩
      obtain ⟨m2, a1, a2⟩ := c_turns (M := m) (b := b) (l := k) h (cz_rp_out hfr (fun x hx => by omega) hn rp) (by omega)
      have hfr2 := hfr.tr a2
      show ∃ M', f_X4_leastLimit_L2 b (fun x7 M8 => some (x7, M8)) (cz_it2 (f_X4_leastLimit_L2 b (fun x7 M8 => some (x7, M8))) g) (nI k) m = _ ∧ _
      rw [f_X4_leastLimit_L2, if_neg (nI_ge (by omega) (by decide)), a1, cz_b2_s, cz_lt_e, nI_add, cz_un]
      by_cases hf : cz_lf s n W R k = true
      · rw [if_pos hf, if_pos hf, if_neg (by decide)]
        exact ih (k + 1) m2 g (by omega) (by omega) hfr2
      · rw [if_neg hf, if_neg hf, if_pos rfl]
        exact ⟨m2, rfl, hfr2⟩
  exact key 8 0 M 4096 rfl (by decide) cz_fr.rf
def cz_lg (f : Nat → Bool) (j : Nat) : Nat := cz_un f (8 - j) (min j 8)
theorem cz_lg_s {f : Nat → Bool} {j : Nat} (hj : j ≤ 8) : cz_lg f j = if f j = true then cz_lg f (j + 1) else j := by
  unfold cz_lg
  by_cases h8 : j = 8
  · subst h8
    show cz_un f 0 8 = if f 8 = true then cz_un f 0 8 else 8
    rw [cz_un]
    split <;> rfl
  · rw [show 8 - j = (8 - (j + 1)) + 1 by omega, cz_un, Nat.min_eq_left (by omega), Nat.min_eq_left (by omega)]
theorem m_least {M0 Mx : cz_M} {a px n W : Nat} {s : Nat → Int32} {R : Nat → List Nat} (h : cz_sok (s, n, W, R)) (rpx : cz_rp Mx px s n R) (hs : M0.1 (a + 1) = s) (hf : cz_fg M0 a) :
    ∃ M', f_X5_leastLimit M0 a = some (nI (cz_un (cz_lf s n W R) 8 0), M') ∧ cz_bJ s a M0 M' := by
  obtain ⟨ok, hW9⟩ := id h
  have ok : cz_ok s n W R := ok
  have hW9 : W ≤ 9999 := hW9
  obtain ⟨m1, f1, g1, e1⟩ := m_putAside M0 a
  have s1 : m1.1 (a + 1) = s := by rw [(e1.1 _ (by omega)).1]; exact hs
  have J1 : cz_bJ s a M0 m1 := ⟨fun k hk => by rw [s1], fun k hk => by rw [g1 k hk, hs], cz_fg_fr e1 (by omega) (by omega) hf, e1.mono (fun x hx => by omega)⟩
  have key : ∀ (j : Nat) (m : cz_M) (fuel : Nat), j ≤ 9 → j < fuel → cz_bJ s a M0 m → ∃ M', cz_it3 (f_X5_leastLimit_L10 a (fun x16 x17 M18 => some (x16, M18))) fuel (nI (cz_lg (cz_lf s n W R) j)) (nI j - nI 1) m = some (nI (cz_lg (cz_lf s n W R) 0), M') ∧ cz_bJ s a M0 M' := by
    intro j
    induction j with
    | zero =>
      intro m fuel _ hf J
      obtain ⟨g, rfl⟩ : ∃ g, fuel = g + 1 := ⟨fuel - 1, by omega⟩
      refine ⟨m, ?_, J⟩
      show f_X5_leastLimit_L10 a (fun x16 x17 M18 => some (x16, M18)) (cz_it3 (f_X5_leastLimit_L10 a (fun x16 x17 M18 => some (x16, M18))) g) (nI (cz_lg (cz_lf s n W R) 0)) (nI 0 - nI 1) m = _
      rw [f_X5_leastLimit_L10, if_pos (by decide)]
    | succ j ih =>
      intro m fuel hj hf J
      obtain ⟨g, rfl⟩ : ∃ g, fuel = g + 1 := ⟨fuel - 1, by omega⟩
      rw [cz_subN (by omega), Nat.add_sub_cancel]
      have h1 := J.1
      have okm : cz_ok (m.1 (a + 1)) n W R := cz_ok_551 h1 ok
      have e1 : cz_fr (fun x => x = a + 1) m (cz_mI m (a + 1) 1 (nI j)) := cz_fr.mI rfl
      obtain ⟨m3, f3, g3, q3, e3⟩ := m_passes (cz_mI m (a + 1) 1 (nI j)) a (cz_ok_li (show j ≤ 8 by omega) okm) (by rw [cz_mI_s]) (cz_fg_fr e1 (by omega) (by omega) J.2.2.1) (K := 100) (by decide) (by omega)
      have ok3 := cz_ok_sk (cz_ok_li (show j ≤ 8 by omega) okm) 100 (by omega)
      obtain ⟨m4, f4, J4⟩ := m_tryIt J ((e1.mono (fun x hx => Or.inl hx)).tr e3) q3
      have hu : ∀ k, k < 551 → upd (m.1 (a + 1)) 1 (nI j) k = upd s 1 (nI j) k := fun k hk => by
        by_cases h : k = 1
        · subst h; rw [pk_us, pk_us]
        · rw [pk_un h, pk_un h]; exact h1 k hk
      have ht : cz_tt (cz_sk (upd (m.1 (a + 1)) 1 (nI j)) n W R 100).1 = cz_tt (cz_sk (upd s 1 (nI j)) n W R 100).1 := cz_tt_551 (cz_ok_li (show j ≤ 8 by omega) ok) (cz_rp_li ok rpx) hu (by decide) (by omega)
      have b1 := cz_tt_le ok3
      rw [ht] at b1
      have b2 := cz_tt_le ok
      have v1 := m_turned ok h1
      have v2 := m_turned (M := m3) (a := a) ok3 (fun k hk => by rw [g3])
      rw [ht] at v2
      show ∃ M', f_X5_leastLimit_L10 a (fun x16 x17 M18 => some (x16, M18)) (cz_it3 (f_X5_leastLimit_L10 a (fun x16 x17 M18 => some (x16, M18))) g) (nI (cz_lg (cz_lf s n W R) (j + 1))) (nI j) m = _ ∧ _
      have em : nI j + (-1) = nI j - nI 1 := by
        rw [Int32.sub_eq_add_neg]
        rfl
      rw [f_X5_leastLimit_L10, if_neg (nI_nlt (Nat.zero_le _) (by omega)), v1, Option.bind_some, cz_gdn (by decide) (by decide), cz_lt_e, cz_cl (show 1 < 2 ^ 31 by decide), f3, cz_b2_s, v2, Option.bind_some, f4, Option.bind_some, Option.bind_some, cz_lt_e, cz_lt_e, em]
      have ih1 := ih m4 g (by omega) (by omega) J4
      rw [cz_lg_s (show j ≤ 8 by omega)] at ih1
      by_cases hE : cz_tt (cz_sk (upd s 1 (nI j)) n W R 100).1 = cz_tt s
      · have hfj : ¬ cz_lf s n W R j = true := fun z => (of_decide_eq_true z) hE
        rw [if_pos (by rw [hE])]
        rw [if_neg hfj] at ih1
        exact ih1
      · have hfj : cz_lf s n W R j = true := decide_eq_true hE
        rw [if_neg (fun z => hE (cz_nI_inj (by omega) (by omega) z))]
        rw [if_pos hfj] at ih1
        exact ih1
  obtain ⟨M', f', J'⟩ := key 9 m1 4096 (Nat.le_refl _) (by decide) J1
  refine ⟨M', ?_, J'⟩
  rw [f_X5_leastLimit, f1, Option.bind_some]
  exact f'
theorem o_leastLimit (M : cz_M) (b : Nat) (iv : cz_iv b M) : ∃ v M1 M2, f_X4_leastLimit M b = some (v, M1) ∧ f_X5_leastLimit M1 (b + 461) = some (v, M2) ∧ cz_iv b M2 := by
  obtain ⟨now, hist, pc, slot, used, pad, len, wf, cv, rv⟩ := id iv
  obtain ⟨s, n, W, R⟩ := now
  obtain ⟨M1, f1, e1⟩ := c_least (b := b) wf.1 cv.1
  have s1 : M1.1 (b + 461 + 1) = s := by rw [(e1.1 _ (by omega)).1]; exact rv.1
  have v1 : cz_fg M1 (b + 461) := cz_fg_fr e1 (by omega) (by omega) rv.2.2.2.2.2.2
  obtain ⟨M2, f2, j1, j2, j3, j4⟩ := m_least (a := b + 461) wf.1 cv.1 s1 v1
  exact ⟨_, M1, M2, f1, f2, cz_trial wf cv rv ((e1.mono (fun x hx => by omega)).tr (j4.mono (fun x hx => by omega))) (fun x hx => hx) j1 j3⟩
