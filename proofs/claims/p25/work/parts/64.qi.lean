/-! the least LIMIT, on both sides -/
/-- whether a letter is turned back in 100 weeks, with a LIMIT -/
def cz_lf (s : Nat → Int32) (n W : Nat) (R : Nat → List Nat) (l : Nat) : Bool := decide (cz_tt (cz_sk (upd s 1 (nI l)) n W R 100).1 ≠ cz_tt s)
theorem c_turns {M : cz_M} {b n W l : Nat} {s : Nat → Int32} {R : Nat → List Nat} (h : cz_sok (s, n, W, R)) (rp : cz_rp M (b + 1) s n R) (hl : l ≤ 8) :
    ∃ M', f_X4_turnsBackWith M b (nI l) = some (if cz_lf s n W R l = true then nI 1 else nI 0, M') ∧ cz_fr (fun x => b + 58 ≤ x ∧ x < b + 115) M M' := by
  obtain ⟨ok, hW9⟩ := id h
  have ok : cz_ok s n W R := ok
  have hW9 : W ≤ 9999 := hW9
  obtain ⟨m1, f1, g1, e1⟩ := cz_sA (M := M) (a := b + 58) (a1 := b + 1) (by omega) h rp
  have g1 : cz_rp m1 (b + 58) s n R := g1
  have okl : cz_ok (upd s 1 (nI l)) n W R := cz_ok_li hl ok
  have g2 := cz_rp_li (l := l) ok g1
  have e2 : cz_fr (fun x => b + 58 ≤ x ∧ x < b + 115) M (cz_mI m1 (b + 58 + 1) 1 (nI l)) := (e1.mono (fun x hx => by omega)).tr (cz_fr.mI ⟨by omega, by omega⟩)
  have key : ∀ (d k : Nat) (m : cz_M) (fuel : Nat), k + d = 100 → d < fuel → cz_rp m (b + 58) (cz_sk (upd s 1 (nI l)) n W R k).1 n (cz_sk (upd s 1 (nI l)) n W R k).2 → cz_tt (cz_sk (upd s 1 (nI l)) n W R k).1 = cz_tt s → cz_fr (fun x => b + 58 ≤ x ∧ x < b + 115) M m → ∃ M', cz_it2 (f_X4_turnsBackWith_L31 b (nI (cz_tt s)) (fun x18 M19 => some ((nI 0), M19))) fuel (nI k) m = some (if cz_lf s n W R l = true then nI 1 else nI 0, M') ∧ cz_fr (fun x => b + 58 ≤ x ∧ x < b + 115) M M' := by
    intro d
    induction d with
    | zero =>
      intro k m fuel hk hf hrp ht hfr
      obtain rfl : k = 100 := by omega
      obtain ⟨g, rfl⟩ : ∃ g, fuel = g + 1 := ⟨fuel - 1, by omega⟩
      refine ⟨m, ?_, hfr⟩
      have hno : ¬ cz_lf s n W R l = true := fun z => (of_decide_eq_true z) ht
      show f_X4_turnsBackWith_L31 b (nI (cz_tt s)) (fun x18 M19 => some ((nI 0), M19)) (cz_it2 (f_X4_turnsBackWith_L31 b (nI (cz_tt s)) (fun x18 M19 => some ((nI 0), M19))) g) (nI 100) m = _
      rw [f_X4_turnsBackWith_L31, if_pos (nI_le (Nat.le_refl _) (by decide)), if_neg hno]
    | succ d ih =>
      intro k m fuel hk hf hrp ht hfr
      obtain ⟨g, rfl⟩ : ∃ g, fuel = g + 1 := ⟨fuel - 1, by omega⟩
      have okk := cz_ok_sk okl k (by omega)
      have okk1 := cz_ok_sk okl (k + 1) (by omega)
      obtain ⟨m2, a1, a2, a3⟩ := c_passWeek m (b + 58) okk hrp
      have a2 : cz_rp m2 (b + 58) (cz_sk (upd s 1 (nI l)) n W R (k + 1)).1 n (cz_sk (upd s 1 (nI l)) n W R (k + 1)).2 := a2
      have ct := c_turned okk1 a2
      have b1 := cz_tt_le okk1
      have b2 := cz_tt_le ok
      have hfr2 := hfr.tr (a3.mono (D' := fun x => b + 58 ≤ x ∧ x < b + 115) (fun x hx => by omega))
      have hst : f_X4_turnsBackWith_L31 b (nI (cz_tt s)) (fun x18 M19 => some ((nI 0), M19)) (cz_it2 (f_X4_turnsBackWith_L31 b (nI (cz_tt s)) (fun x18 M19 => some ((nI 0), M19))) g) (nI k) m = if cz_tt (cz_sk (upd s 1 (nI l)) n W R (k + 1)).1 ≤ cz_tt s then cz_it2 (f_X4_turnsBackWith_L31 b (nI (cz_tt s)) (fun x18 M19 => some ((nI 0), M19))) g (nI (k + 1)) m2 else some (nI 1, m2) := by
        rw [f_X4_turnsBackWith_L31, if_neg (nI_ge (by omega) (by decide)), a1, cz_b2_s, ct, Option.bind_some, cz_lt_e, nI_add]
        by_cases hle : cz_tt (cz_sk (upd s 1 (nI l)) n W R (k + 1)).1 ≤ cz_tt s
        · rw [if_pos (nI_le hle (by omega)), if_pos hle]
        · rw [if_neg (nI_ge (by omega) (by omega)), if_neg hle]
      have m1 := cz_tt_mono okl 1 k (by omega)
      have m2' := cz_tt_mono okl (100 - (k + 1)) (k + 1) (by omega)
      rw [show k + 1 + (100 - (k + 1)) = 100 by omega] at m2'
      show ∃ M', f_X4_turnsBackWith_L31 b (nI (cz_tt s)) (fun x18 M19 => some ((nI 0), M19)) (cz_it2 (f_X4_turnsBackWith_L31 b (nI (cz_tt s)) (fun x18 M19 => some ((nI 0), M19))) g) (nI k) m = _ ∧ _
      rw [hst]
      by_cases hle : cz_tt (cz_sk (upd s 1 (nI l)) n W R (k + 1)).1 ≤ cz_tt s
      · rw [if_pos hle]
        exact ih (k + 1) m2 g (by omega) (by omega) a2 (by omega) hfr2
      · rw [if_neg hle]
        have hy : cz_lf s n W R l = true := decide_eq_true (by omega)
        exact ⟨m2, by rw [if_pos hy], hfr2⟩
  obtain ⟨M', f', e'⟩ := key 100 0 (cz_mI m1 (b + 58 + 1) 1 (nI l)) 4096 rfl (by decide) g2 (cz_tt_li s l) e2
  refine ⟨M', ?_, e'⟩
  rw [f_X4_turnsBackWith, f1, Option.bind_some, cz_gdn (by decide) (by decide), cz_lt_e, cz_cl (show 1 < 2 ^ 31 by decide), c_turned okl g2, Option.bind_some, cz_tt_li]
  exact f'
theorem c_least {M : cz_M} {b n W : Nat} {s : Nat → Int32} {R : Nat → List Nat} (h : cz_sok (s, n, W, R)) (rp : cz_rp M (b + 1) s n R) :
    ∃ M', f_X4_leastLimit M b = some (nI (cz_un (cz_lf s n W R) 8 0), M') ∧ cz_fr (fun x => b + 58 ≤ x ∧ x < b + 115) M M' := by
  have hn : n ≤ 40 := h.1.1.1.1
  have key : ∀ (d k : Nat) (m : cz_M) (fuel : Nat), k + d = 8 → d < fuel → cz_fr (fun x => b + 58 ≤ x ∧ x < b + 115) M m → ∃ M', cz_it2 (f_X4_leastLimit_L2 b (fun x7 M8 => some (x7, M8))) fuel (nI k) m = some (nI (cz_un (cz_lf s n W R) d k), M') ∧ cz_fr (fun x => b + 58 ≤ x ∧ x < b + 115) M M' := by
    intro d
    induction d with
    | zero =>
      intro k m fuel hk hf hfr
      obtain rfl : k = 8 := by omega
      obtain ⟨g, rfl⟩ : ∃ g, fuel = g + 1 := ⟨fuel - 1, by omega⟩
      refine ⟨m, ?_, hfr⟩
      show f_X4_leastLimit_L2 b (fun x7 M8 => some (x7, M8)) (cz_it2 (f_X4_leastLimit_L2 b (fun x7 M8 => some (x7, M8))) g) (nI 8) m = _
      rw [f_X4_leastLimit_L2, if_pos (nI_le (Nat.le_refl _) (by decide)), cz_un]
    | succ d ih =>
      intro k m fuel hk hf hfr
      obtain ⟨g, rfl⟩ : ∃ g, fuel = g + 1 := ⟨fuel - 1, by omega⟩
      obtain ⟨m2, a1, a2⟩ := c_turns (M := m) (b := b) (l := k) h (cz_rp_out hfr (fun x hx => by omega) hn rp) (by omega)
      have hfr2 := hfr.tr a2
      show ∃ M', f_X4_leastLimit_L2 b (fun x7 M8 => some (x7, M8)) (cz_it2 (f_X4_leastLimit_L2 b (fun x7 M8 => some (x7, M8))) g) (nI k) m = _ ∧ _
      rw [f_X4_leastLimit_L2, if_neg (nI_ge (by omega) (by decide)), a1, cz_b2_s, cz_lt_e, nI_add, cz_un]
      by_cases hf : cz_lf s n W R k = true
      · rw [if_pos hf, if_pos hf, if_neg (by decide)]
        exact ih (k + 1) m2 g (by omega) (by omega) hfr2
      · rw [if_neg hf, if_neg hf, if_pos rfl]
        exact ⟨m2, rfl, hfr2⟩
  exact key 8 0 M 4096 rfl (by decide) cz_fr.rf
