/-! the best trade, on both sides -/
def cz_cT (s : Nat → Int32) (n W : Nat) (R : Nat → List Nat) : Nat → Nat → Nat := fun i j => cz_ck (cz_tr s i j) n W R 4
theorem c_best1 {M0 : cz_M} {b n W i : Nat} {s : Nat → Int32} {R : Nat → List Nat} (h : cz_sok (s, n, W, R)) (rp : cz_rp M0 (b + 1) s n R) (hi : i < 8) (q : Nat × Int32) (hq : q.1 ≤ 40) (M : cz_M) (hM : cz_fr (fun x => b + 58 ≤ x ∧ x < b + 115) M0 M) :
    ∃ M', (∀ K, cz_it4 (f_X4_bestTrade_L36 b (nI i) K) 4096 (nI q.1) q.2 (nI (i + 1)) M = K (nI (cz_bi (cz_cT s n W R) i (7 - i) q).1) (cz_bi (cz_cT s n W R) i (7 - i) q).2 (nI 8) M') ∧ cz_fr (fun x => b + 58 ≤ x ∧ x < b + 115) M0 M' := by
  obtain ⟨ok, hW9⟩ := id h
  have ok : cz_ok s n W R := ok
  have hW9 : W ≤ 9999 := hW9
  have hn : n ≤ 40 := ok.1.1.1
  have hc : ∀ j, i < j → j < 8 → cz_cT s n W R i j ≤ 40 := fun j h1 h2 => cz_ck_le (cz_ok_tr hi h2 ok) (by omega)
  obtain ⟨x1, x2, M', ⟨i1, i2, i3⟩, hh⟩ := cz_for4 (F := f_X4_bestTrade_L36 b (nI i)) (fun j (x1 x2 : Int32) (m : cz_M) => x1 = nI (cz_bi (cz_cT s n W R) i (j - (i + 1)) q).1 ∧ (x2 = (cz_bi (cz_cT s n W R) i (j - (i + 1)) q).2 ∧ i + 1 ≤ j) ∧ cz_fr (fun x => b + 58 ≤ x ∧ x < b + 115) M0 m) 8
    (fun j x1 x2 m hj ⟨i1, ⟨i2, i0⟩, i3⟩ => by
      subst i1 i2
      have rp1 := cz_rp_out i3 (fun x hx => by omega) hn rp
      obtain ⟨m1, f1, g1, e1⟩ := cz_sA (M := m) (a := b + 58) (a1 := b + 1) (by omega) h rp1
      have g1 : cz_rp m1 (b + 58) s n R := g1
      obtain ⟨m2, f2, g2, e2⟩ := c_trade (p := b + 58) hi hj (by omega : i ≠ j) ok g1
      obtain ⟨m3, f3, g3, e3⟩ := c_passWeeks m2 (b + 58) (cz_ok_tr hi hj ok) g2 (K := 4) (by decide) (by omega)
      have e03 := i3.tr (((e1.tr e2).tr e3).mono (fun x hx => by omega))
      have hb := cz_bi_40 (c := cz_cT s n W R) hc hq (j - (i + 1)) (by omega)
      have hv := hc j (by omega) hj
      have ej : i + 1 + (j - (i + 1)) = j := by omega
      have es : j + 1 - (i + 1) = (j - (i + 1)) + 1 := by omega
      have st : ∀ K rec, f_X4_bestTrade_L36 b (nI i) K rec (nI (cz_bi (cz_cT s n W R) i (j - (i + 1)) q).1) (cz_bi (cz_cT s n W R) i (j - (i + 1)) q).2 (nI j) m = if cz_cT s n W R i j ≤ (cz_bi (cz_cT s n W R) i (j - (i + 1)) q).1 then rec (nI (cz_bi (cz_cT s n W R) i (j - (i + 1)) q).1) (cz_bi (cz_cT s n W R) i (j - (i + 1)) q).2 (nI (j + 1)) m3 else rec (nI (cz_cT s n W R i j)) (nI (8 * i + j)) (nI (j + 1)) m3 := fun K rec => by
        rw [f_X4_bestTrade_L36, if_neg (nI_ge hj (by decide)), f1, Option.bind_some, f2, Option.bind_some, f3, cz_b2_s, nI_add, pk_mul, nI_add, cz_lt_e, cz_lt_e, cz_lt_e]
        show (if nI (cz_cT s n W R i j) ≤ _ then _ else _) = _
        by_cases hle : cz_cT s n W R i j ≤ (cz_bi (cz_cT s n W R) i (j - (i + 1)) q).1
        · rw [if_pos (nI_le hle (by omega)), if_pos hle]
        · rw [if_neg (nI_ge (by omega) (by omega)), if_neg hle]
          rfl
      by_cases hle : cz_cT s n W R i j ≤ (cz_bi (cz_cT s n W R) i (j - (i + 1)) q).1
      · refine ⟨_, _, m3, fun K rec => by rw [st, if_pos hle], ?_, ⟨?_, by omega⟩, e03⟩
        · rw [es, cz_bi, ej, if_pos hle]
        · rw [es, cz_bi, ej, if_pos hle]
      · refine ⟨_, _, m3, fun K rec => by rw [st, if_neg hle], ?_, ⟨?_, by omega⟩, e03⟩
        · rw [es, cz_bi, ej, if_neg hle]
        · rw [es, cz_bi, ej, if_neg hle])
    (fun x1 x2 m hI K rec => by rw [f_X4_bestTrade_L36, if_pos (nI_le (Nat.le_refl _) (by decide))]) (8 - (i + 1)) (i + 1) (nI q.1) q.2 M 4096 (by omega) (by omega) ⟨by rw [Nat.sub_self, cz_bi], ⟨by rw [Nat.sub_self, cz_bi], Nat.le_refl _⟩, hM⟩
  have e7 : 8 - (i + 1) = 7 - i := by omega
  rw [e7] at i1 i2
  exact ⟨M', fun K => by rw [hh K, i1, i2.1], i3⟩
theorem c_best {M0 : cz_M} {b n W : Nat} {s : Nat → Int32} {R : Nat → List Nat} (h : cz_sok (s, n, W, R)) (rp : cz_rp M0 (b + 1) s n R) :
    ∃ M', f_X4_bestTrade M0 b = some ((cz_bo (cz_cT s n W R) 8 (cz_ck s n W R 4, (-6 : Int32))).2, M') ∧ cz_fr (fun x => b + 58 ≤ x ∧ x < b + 115) M0 M' := by
  obtain ⟨ok, hW9⟩ := id h
  have ok : cz_ok s n W R := ok
  have hW9 : W ≤ 9999 := hW9
  have hn : n ≤ 40 := ok.1.1.1
  have hc : ∀ i j, i < j → j < 8 → cz_cT s n W R i j ≤ 40 := fun i j h1 h2 => cz_ck_le (cz_ok_tr (by omega) h2 ok) (by omega)
  have hq : cz_ck s n W R 4 ≤ 40 := cz_ck_le ok (by omega)
  obtain ⟨m1, f1, g1, e1⟩ := cz_sA (M := M0) (a := b + 58) (a1 := b + 1) (by omega) h rp
  have g1 : cz_rp m1 (b + 58) s n R := g1
  obtain ⟨m2, f2, g2, e2⟩ := c_passWeeks m1 (b + 58) ok g1 (K := 4) (by decide) (by omega)
  have e02 : cz_fr (fun x => b + 58 ≤ x ∧ x < b + 115) M0 m2 := (e1.tr e2).mono (fun x hx => by omega)
  obtain ⟨x1, x2, M', ⟨i1, i2, i3⟩, hh⟩ := cz_for4 (F := f_X4_bestTrade_L25 b) (fun i (x1 x2 : Int32) (m : cz_M) => x1 = nI (cz_bo (cz_cT s n W R) i (cz_ck s n W R 4, (-6 : Int32))).1 ∧ x2 = (cz_bo (cz_cT s n W R) i (cz_ck s n W R 4, (-6 : Int32))).2 ∧ cz_fr (fun x => b + 58 ≤ x ∧ x < b + 115) M0 m) 8
    (fun i x1 x2 m hi ⟨i1, i2, i3⟩ => by
      subst i1 i2
      obtain ⟨m', f', e'⟩ := c_best1 h rp hi (cz_bo (cz_cT s n W R) i (cz_ck s n W R 4, (-6 : Int32))) (cz_bo_40 hc hq i (by omega)) m i3
      refine ⟨_, _, m', fun K rec => ?_, rfl, rfl, e'⟩
      rw [f_X4_bestTrade_L25, if_neg (nI_ge hi (by decide)), nI_add, cz_lt_e, f', cz_lt_e]
      rfl)
    (fun x1 x2 m hI K rec => by rw [f_X4_bestTrade_L25, if_pos (nI_le (Nat.le_refl _) (by decide))]) 8 0 (nI (cz_ck s n W R 4)) (-6 : Int32) m2 4096 (by omega) (by omega) ⟨rfl, rfl, e02⟩
  refine ⟨M', ?_, i3⟩
  rw [f_X4_bestTrade, f1, Option.bind_some, f2, cz_b2_s, hh, i2]
