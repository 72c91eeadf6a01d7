/-! the best trade, on both sides -/
def cz_cT (s : Nat → Int32) (n W : Nat) (R : Nat → List Nat) : Nat → Nat → Nat := fun i j => cz_ck (cz_tr s i j) n W R 4
theorem c_best1 {M0 : cz_M} {b n W i : Nat} {s : Nat → Int32} {R : Nat → List Nat} (h : cz_sok (s, n, W, R)) (rp : cz_rp M0 (b + 1) s n R) (hi : i < 8) (q : Nat × Int32) (hq : q.1 ≤ 40) (M : cz_M) (hM : cz_fr (fun x => b + 58 ≤ x ∧ x < b + 115) M0 M) :
    ∃ M', (∀ K, cz_it4 (f_X4_bestTrade_L36 b (nI i) K) 4096 (nI q.1) q.2 (nI (i + 1)) M = K (nI (cz_bi (cz_cT s n W R) i (7 - i) q).1) (cz_bi (cz_cT s n W R) i (7 - i) q).2 (nI 8) M') ∧ cz_fr (fun x => b + 58 ≤ x ∧ x < b + 115) M0 M' := by
  obtain ⟨ok, hW9⟩ := id h
  have ok : cz_ok s n W R := ok
  have hW9 : W ≤ 9999 := hW9
  have hn : n ≤ 40 := ok.1.1.1
  have hc : ∀ j, i < j → j < 8 → cz_cT s n W R i j ≤ 40 := fun j h1 h2 => cz_ck_le (cz_ok_tr hi h2 ok) (by omega)
  obtain ⟨x1, x2, M', ⟨i1, i2, i3⟩, hh⟩ := cz_for4 (F := f_X4_bestTrade_L36 b (nI i)) (fun j (x1 x2 : Int32) (m : cz_M) => x1 = nI (cz_bi (cz_cT s n W R) i (j - (i + 1)) q).1 ∧ (x2 = (cz_bi (cz_cT s n W R) i (j - (i + 1)) q).2 ∧ i + 1 ≤ j) ∧ cz_fr (fun x => b + 58 ≤ x ∧ x < b + 115) M0 m) 8
    (fun j x1 x2 m hj ⟨i1, ⟨i2, i0⟩, i3⟩ => by
      subst i1 i2
      have rp1 := cz_rp_out i3 (fun x hx => by omega) hn rp
      obtain ⟨m1, f1, g1, e1⟩ := cz_sA (M := m) (a := b + 58) (a1 := b + 1) (by omega) h rp1
      have g1 : cz_rp m1 (b + 58) s n R := g1
      obtain ⟨m2, f2, g2, e2⟩ := c_trade (p := b + 58) hi hj (by omega : i ≠ j) ok g1
      obtain ⟨m3, f3, g3, e3⟩ := c_passWeeks m2 (b + 58) (cz_ok_tr hi hj ok) g2 (K := 4) (by decide) (by omega)
      have e03 := i3.tr (((e1.tr e2).tr e3).mono (fun x hx => by omega))
      have hb := cz_bi_40 (c := cz_cT s n W R) hc hq (j - (i + 1)) (by omega)
      have hv := hc j (by omega) hj
      have ej : i + 1 + (j - (i + 1)) = j := by omega
      have es : j + 1 - (i + 1) = (j - (i + 1)) + 1 := by omega
      have st : ∀ K rec, f_X4_bestTrade_L36 b (nI i) K rec (nI (cz_bi (cz_cT s n W R) i (j - (i + 1)) q).1) (cz_bi (cz_cT s n W R) i (j - (i + 1)) q).2 (nI j) m = if cz_cT s n W R i j ≤ (cz_bi (cz_cT s n W R) i (j - (i + 1)) q).1 then rec (nI (cz_bi (cz_cT s n W R) i (j - (i + 1)) q).1) (cz_bi (cz_cT s n W R) i (j - (i + 1)) q).2 (nI (j + 1)) m3 else rec (nI (cz_cT s n W R i j)) (nI (8 * i + j)) (nI (j + 1)) m3 := fun K rec => by
        rw [f_X4_bestTrade_L36, if_neg (nI_ge hj (by decide)), f1, Option.bind_some, f2, Option.bind_some, f3, cz_b2_s, nI_add, pk_mul, nI_add, cz_lt_e, cz_lt_e, cz_lt_e]
        show (if nI (cz_cT s n W R i j) ≤ _ then _ else _) = _
        by_cases hle : cz_cT s n W R i j ≤ (cz_bi (cz_cT s n W R) i (j - (i + 1)) q).1
        · rw [if_pos (nI_le hle (by omega)), if_pos hle]
        · rw [if_neg (nI_ge (by omega) (by omega)), if_neg hle]
          rfl
      by_cases hle : cz_cT s n W R i j ≤ (cz_bi (cz_cT s n W R) i (j - (i + 1)) q).1
      · refine ⟨_, _, m3, fun K rec => by rw [st, if_pos hle], ?_, ⟨?_, by omega⟩, e03⟩
        · rw [es, cz_bi, ej, if_pos hle]
        · rw [es, cz_bi, ej, if_pos hle]
      · refine ⟨_, _, m3, fun K rec => by rw [st, if_neg hle], ?_, ⟨?_, by omega⟩, e03⟩
        · rw [es, cz_bi, ej, if_neg hle]
        · rw [es, cz_bi, ej, if_neg hle])
    (fun x1 x2 m hI K rec => by rw [f_X4_bestTrade_L36, if_pos (nI_le (Nat.le_refl _) (by decide))]) (8 - (i + 1)) (i + 1) (nI q.1) q.2 M 4096 (by omega) (by omega) ⟨by rw [Nat.sub_self, cz_bi], ⟨by rw [Nat.sub_self, cz_bi], Nat.le_refl _⟩, hM⟩
  have e7 : 8 - (i + 1) = 7 - i := by omega
  rw [e7] at i1 i2
  exact ⟨M', fun K => by rw [hh K, i1, i2.1], i3⟩
theorem c_best {M0 : cz_M} {b n W : Nat} {s : Nat → Int32} {R : Nat → List Nat} (h : cz_sok (s, n, W, R)) (rp : cz_rp M0 (b + 1) s n R) :
    ∃ M', f_X4_bestTrade M0 b = some ((cz_bo (cz_cT s n W R) 8 (cz_ck s n W R 4, (-6 : Int32))).2, M') ∧ cz_fr (fun x => b + 58 ≤ x ∧ x < b + 115) M0 M' := by
  obtain ⟨ok, hW9⟩ := id h
  have ok : cz_ok s n W R := ok
  have hW9 : W ≤ 9999 := hW9
  have hn : n ≤ 40 := ok.1.1.1
  have hc : ∀ i j, i < j → j < 8 → cz_cT s n W R i j ≤ 40 := fun i j h1 h2 => cz_ck_le (cz_ok_tr (by omega) h2 ok) (by omega)
  have hq : cz_ck s n W R 4 ≤ 40 := cz_ck_le ok (by omega)
  obtain ⟨m1, f1, g1, e1⟩ := cz_sA (M := M0) (a := b + 58) (a1 := b + 1) (by omega) h rp
  have g1 : cz_rp m1 (b + 58) s n R := g1
  obtain ⟨m2, f2, g2, e2⟩ := c_passWeeks m1 (b + 58) ok g1 (K := 4) (by decide) (by omega)
  have e02 : cz_fr (fun x => b + 58 ≤ x ∧ x < b + 115) M0 m2 := (e1.tr e2).mono (fun x hx => by omega)
  obtain ⟨x1, x2, M', ⟨i1, i2, i3⟩, hh⟩ := cz_for4 (F := f_X4_bestTrade_L25 b) (fun i (x1 x2 : Int32) (m : cz_M) => x1 = nI (cz_bo (cz_cT s n W R) i (cz_ck s n W R 4, (-6 : Int32))).1 ∧ x2 = (cz_bo (cz_cT s n W R) i (cz_ck s n W R 4, (-6 : Int32))).2 ∧ cz_fr (fun x => b + 58 ≤ x ∧ x < b + 115) M0 m) 8
    (fun i x1 x2 m hi ⟨i1, i2, i3⟩ => by
      subst i1 i2
      obtain ⟨m', f', e'⟩ := c_best1 h rp hi (cz_bo (cz_cT s n W R) i (cz_ck s n W R 4, (-6 : Int32))) (cz_bo_40 hc hq i (by omega)) m i3
      refine ⟨_, _, m', fun K rec => ?_, rfl, rfl, e'⟩
      rw [f_X4_bestTrade_L25, if_neg (nI_ge hi (by decide)), nI_add, cz_lt_e, f', cz_lt_e]
      rfl)
    (fun x1 x2 m hI K rec => by rw [f_X4_bestTrade_L25, if_pos (nI_le (Nat.le_refl _) (by decide))]) 8 0 (nI (cz_ck s n W R 4)) (-6 : Int32) m2 4096 (by omega) (by omega) ⟨rfl, rfl, e02⟩
  refine ⟨M', ?_, i3⟩
  rw [f_X4_bestTrade, f1, Option.bind_some, f2, cz_b2_s, hh, i2]
/-- the reference: what holds of the memory between two trials -/
def cz_bJ (s : Nat → Int32) (a : Nat) (M0 m : cz_M) : Prop := (∀ k, k < 551 → m.1 (a + 1) k = s k) ∧ (∀ k, k < 551 → m.1 (a + 2) k = s k) ∧ cz_fg m a ∧ cz_fr (fun x => x = a + 1 ∨ x = a + 2 ∨ x = a + 7 ∨ x = a + 8 ∨ x = a + 9) M0 m
theorem m_tryIt {M0 m m1 : cz_M} {a : Nat} {s : Nat → Int32} (J : cz_bJ s a M0 m) (e : cz_fr (fun x => x = a + 1 ∨ x = a + 7 ∨ x = a + 8 ∨ x = a + 9) m m1) (hf : cz_fg m1 a) : ∃ m2, f_X5_putBack m1 a = some m2 ∧ cz_bJ s a M0 m2 := by
  obtain ⟨j1, j2, j3, j4⟩ := J
  obtain ⟨m2, f2, g2, e2⟩ := m_putBack m1 a
  refine ⟨m2, f2, fun k hk => ?_, fun k hk => ?_, cz_fg_fr e2 (by omega) (by omega) hf, (j4.tr (e.mono (fun x hx => by omega))).tr (e2.mono (fun x hx => by omega))⟩
  · rw [g2 k hk, (e.1 _ (by omega)).1]; exact j2 k hk
  · rw [(e2.1 _ (by omega)).1, (e.1 _ (by omega)).1]; exact j2 k hk
theorem m_best1 {M0 Mx : cz_M} {a px n W i : Nat} {s : Nat → Int32} {R : Nat → List Nat} (h : cz_sok (s, n, W, R)) (rpx : cz_rp Mx px s n R) (hi : i < 8) (q : Nat × Int32) (hq : q.1 ≤ 40) (hq2 : cz_ck s n W R 4 ≤ q.1) (M : cz_M) (J : cz_bJ s a M0 M) :
    ∃ M', (∀ K, cz_it4 (f_X5_bestTrade_L30 a (nI i) K) 4096 q.2 (nI q.1) (nI (i + 1)) M = K (cz_bi (cz_cT s n W R) i (7 - i) q).2 (nI (cz_bi (cz_cT s n W R) i (7 - i) q).1) (nI 8) M') ∧ cz_bJ s a M0 M' := by
  obtain ⟨ok, hW9⟩ := id h
  have ok : cz_ok s n W R := ok
  have hW9 : W ≤ 9999 := hW9
  have hn : n ≤ 40 := ok.1.1.1
  have hc : ∀ j, i < j → j < 8 → cz_cT s n W R i j ≤ 40 := fun j h1 h2 => cz_ck_le (cz_ok_tr hi h2 ok) (by omega)
  obtain ⟨x1, x2, M', ⟨i1, i2, i3⟩, hh⟩ := cz_for4 (F := f_X5_bestTrade_L30 a (nI i)) (fun j (x1 x2 : Int32) (m : cz_M) => x2 = nI (cz_bi (cz_cT s n W R) i (j - (i + 1)) q).1 ∧ (x1 = (cz_bi (cz_cT s n W R) i (j - (i + 1)) q).2 ∧ i + 1 ≤ j) ∧ cz_bJ s a M0 m) 8
    (fun j x1 x2 m hj ⟨i1, ⟨i2, i0⟩, i3⟩ => by
      subst i1 i2
      have hb := cz_bi_40 (c := cz_cT s n W R) hc hq (j - (i + 1)) (by omega)
      have hv := hc j (by omega) hj
      have ej : i + 1 + (j - (i + 1)) = j := by omega
      have es : j + 1 - (i + 1) = (j - (i + 1)) + 1 := by omega
      have h1 := i3.1
      have hst : ∀ K rec (x1 x2 : Int32), f_X5_bestTrade_L30 a (nI i) K rec x1 x2 (nI j) m = if s (5 + i) = s (5 + j) then rec x1 x2 (nI (j + 1)) m else ((f_X5_trades m a (nI i) (nI j)).bind fun M13 => cz_b2 (f_X5_passes M13 a (nI 4)) fun v15 M14 => if v15 ≤ x2 then ((f_X5_putBack M14 a).bind fun M18 => rec x1 x2 (nI (j + 1)) M18) else ((f_X5_putBack M14 a).bind fun M29 => rec (nI (8 * i + j)) v15 (nI (j + 1)) M29)) := fun K rec x1 x2 => by
        rw [f_X5_bestTrade_L30, if_neg (nI_ge hj (by decide)), nI_add, nI_add, cz_gdn (by omega) (by decide), cz_gdn (by omega) (by decide), cz_cl (by omega), cz_cl (by omega), h1 _ (by omega), h1 _ (by omega), nI_add, pk_mul, nI_add]
        simp only [cz_lt_e]
        by_cases hE : s (5 + i) = s (5 + j)
        · rw [if_pos hE, if_pos hE]
        · rw [if_neg hE, if_neg hE]
          refine congrArg (fun F => (f_X5_trades m a (nI i) (nI j)).bind F) (funext fun M13 => congrArg (fun G => cz_b2 (f_X5_passes M13 a (nI 4)) G) (funext fun v15 => funext fun M14 => ?_))
          by_cases hle : v15 ≤ x2
          · rw [if_pos hle, if_pos hle, if_pos hle]
          · rw [if_neg hle, if_neg hle, if_neg hle]
      by_cases hE : s (5 + i) = s (5 + j)
      · have hbase : cz_cT s n W R i j = cz_ck s n W R 4 := by
          unfold cz_cT
          rw [cz_tr_id hE]
        have hle : cz_cT s n W R i j ≤ (cz_bi (cz_cT s n W R) i (j - (i + 1)) q).1 := by
          rw [hbase]
          exact Nat.le_trans hq2 (cz_bi_ge _ _ _ _)
        refine ⟨_, _, m, fun K rec => by rw [hst, if_pos hE], ?_, ⟨?_, by omega⟩, i3⟩
        · rw [es, cz_bi, ej, if_pos hle]
        · rw [es, cz_bi, ej, if_pos hle]
      · have okm : cz_ok (m.1 (a + 1)) n W R := cz_ok_551 h1 ok
        have okt : cz_ok (cz_tr (m.1 (a + 1)) i j) n W R := cz_ok_tr hi hj okm
        have e1 : cz_fr (fun x => x = a + 1) m (cz_mI (cz_mI m (a + 1) (5 + i) (m.1 (a + 1) (5 + j))) (a + 1) (5 + j) (m.1 (a + 1) (5 + i))) := (cz_fr.mI (D := fun x => x = a + 1) rfl).tr (cz_fr.mI rfl)
        have ft : f_X5_trades m a (nI i) (nI j) = some (cz_mI (cz_mI m (a + 1) (5 + i) (m.1 (a + 1) (5 + j))) (a + 1) (5 + j) (m.1 (a + 1) (5 + i))) := by
          rw [f_X5_trades, nI_add, nI_add, cz_cl (show 5 + i < 2 ^ 31 by omega), cz_cl (show 5 + j < 2 ^ 31 by omega), cz_gdn (by omega) (by decide), cz_lt_e, cz_gdn (by omega) (by decide), cz_gdn (by omega) (by decide), cz_lt_e, cz_gdn (by omega) (by decide), cz_lt_e]
        have hs2 : (cz_mI (cz_mI m (a + 1) (5 + i) (m.1 (a + 1) (5 + j))) (a + 1) (5 + j) (m.1 (a + 1) (5 + i))).1 (a + 1) = cz_tr (m.1 (a + 1)) i j := by
          rw [cz_mI_s, cz_mI_s]
          rfl
        obtain ⟨m3, f3, g3, q3, e3⟩ := m_passes _ a okt hs2 (cz_fg_fr e1 (by omega) (by omega) i3.2.2.1) (K := 4) (by decide) (by omega)
        have hcc : cz_ck (cz_tr (m.1 (a + 1)) i j) n W R 4 = cz_cT s n W R i j := by
          obtain ⟨my, -, gy, -⟩ := c_trade (p := px) hi hj (by omega : i ≠ j) ok rpx
          exact cz_ck_551 (cz_ok_tr hi hj ok) gy (cz_tr_551 hi hj h1) (by decide) (by omega)
        rw [hcc] at f3
        obtain ⟨m4, f4, J4⟩ := m_tryIt i3 ((e1.mono (fun x hx => Or.inl hx)).tr e3) q3
        have st : ∀ K rec, f_X5_bestTrade_L30 a (nI i) K rec (cz_bi (cz_cT s n W R) i (j - (i + 1)) q).2 (nI (cz_bi (cz_cT s n W R) i (j - (i + 1)) q).1) (nI j) m = if cz_cT s n W R i j ≤ (cz_bi (cz_cT s n W R) i (j - (i + 1)) q).1 then rec (cz_bi (cz_cT s n W R) i (j - (i + 1)) q).2 (nI (cz_bi (cz_cT s n W R) i (j - (i + 1)) q).1) (nI (j + 1)) m4 else rec (nI (8 * i + j)) (nI (cz_cT s n W R i j)) (nI (j + 1)) m4 := fun K rec => by
          rw [hst, if_neg hE, ft, Option.bind_some, f3, cz_b2_s, f4, Option.bind_some, Option.bind_some]
          by_cases hle : cz_cT s n W R i j ≤ (cz_bi (cz_cT s n W R) i (j - (i + 1)) q).1
          · rw [if_pos (nI_le hle (by omega)), if_pos hle]
          · rw [if_neg (nI_ge (by omega) (by omega)), if_neg hle]
        by_cases hle : cz_cT s n W R i j ≤ (cz_bi (cz_cT s n W R) i (j - (i + 1)) q).1
        · refine ⟨_, _, m4, fun K rec => by rw [st, if_pos hle], ?_, ⟨?_, by omega⟩, J4⟩
          · rw [es, cz_bi, ej, if_pos hle]
          · rw [es, cz_bi, ej, if_pos hle]
        · refine ⟨_, _, m4, fun K rec => by rw [st, if_neg hle], ?_, ⟨?_, by omega⟩, J4⟩
          · rw [es, cz_bi, ej, if_neg hle]
          · rw [es, cz_bi, ej, if_neg hle])
    (fun x1 x2 m hI K rec => by rw [f_X5_bestTrade_L30, if_pos (nI_le (Nat.le_refl _) (by decide))]) (8 - (i + 1)) (i + 1) q.2 (nI q.1) M 4096 (by omega) (by omega) ⟨by rw [Nat.sub_self, cz_bi], ⟨by rw [Nat.sub_self, cz_bi], Nat.le_refl _⟩, J⟩
  have e7 : 8 - (i + 1) = 7 - i := by omega
  rw [e7] at i1 i2
  exact ⟨M', fun K => by rw [hh K, i1, i2.1], i3⟩
theorem m_best {M0 Mx : cz_M} {a px n W : Nat} {s : Nat → Int32} {R : Nat → List Nat} (h : cz_sok (s, n, W, R)) (rpx : cz_rp Mx px s n R) (hs : M0.1 (a + 1) = s) (hf : cz_fg M0 a) :
    ∃ M', f_X5_bestTrade M0 a = some ((cz_bo (cz_cT s n W R) 8 (cz_ck s n W R 4, (-6 : Int32))).2, M') ∧ cz_bJ s a M0 M' := by
  obtain ⟨ok, hW9⟩ := id h
  have ok : cz_ok s n W R := ok
  have hW9 : W ≤ 9999 := hW9
  have hc : ∀ i j, i < j → j < 8 → cz_cT s n W R i j ≤ 40 := fun i j h1 h2 => cz_ck_le (cz_ok_tr (by omega) h2 ok) (by omega)
  have hq : cz_ck s n W R 4 ≤ 40 := cz_ck_le ok (by omega)
  obtain ⟨m1, f1, g1, e1⟩ := m_putAside M0 a
  have s1 : m1.1 (a + 1) = s := by rw [(e1.1 _ (by omega)).1]; exact hs
  have J1 : cz_bJ s a M0 m1 := ⟨fun k hk => by rw [s1], fun k hk => by rw [g1 k hk, hs], cz_fg_fr e1 (by omega) (by omega) hf, e1.mono (fun x hx => by omega)⟩
  obtain ⟨m2, f2, g2, q2, e2⟩ := m_passes m1 a ok s1 J1.2.2.1 (K := 4) (by decide) (by omega)
  obtain ⟨m3, f3, J3⟩ := m_tryIt J1 e2 q2
  obtain ⟨x1, x2, M', ⟨i1, i2, i3⟩, hh⟩ := cz_for4 (F := f_X5_bestTrade_L19 a) (fun i (x1 x2 : Int32) (m : cz_M) => x2 = nI (cz_bo (cz_cT s n W R) i (cz_ck s n W R 4, (-6 : Int32))).1 ∧ x1 = (cz_bo (cz_cT s n W R) i (cz_ck s n W R 4, (-6 : Int32))).2 ∧ cz_bJ s a M0 m) 8
    (fun i x1 x2 m hi ⟨i1, i2, i3⟩ => by
      subst i1 i2
      obtain ⟨m', f', e'⟩ := m_best1 h rpx hi (cz_bo (cz_cT s n W R) i (cz_ck s n W R 4, (-6 : Int32))) (cz_bo_40 hc hq i (by omega)) (cz_bo_ge (cz_cT s n W R) (cz_ck s n W R 4, (-6 : Int32)) i) m i3
      refine ⟨_, _, m', fun K rec => ?_, rfl, rfl, e'⟩
      rw [f_X5_bestTrade_L19, if_neg (nI_ge hi (by decide)), nI_add, cz_lt_e, f', cz_lt_e]
      rfl)
    (fun x1 x2 m hI K rec => by rw [f_X5_bestTrade_L19, if_pos (nI_le (Nat.le_refl _) (by decide))]) 8 0 (-6 : Int32) (nI (cz_ck s n W R 4)) m3 4096 (by omega) (by omega) ⟨rfl, rfl, J3⟩
  refine ⟨M', ?_, i3⟩
  rw [f_X5_bestTrade, f1, Option.bind_some, f2, cz_b2_s, f3, Option.bind_some, hh, i2]
theorem o_bestTrade (M : cz_M) (b : Nat) (iv : cz_iv b M) : ∃ v M1 M2, f_X4_bestTrade M b = some (v, M1) ∧ f_X5_bestTrade M1 (b + 461) = some (v, M2) ∧ cz_iv b M2 := by
  obtain ⟨now, hist, pc, slot, used, pad, len, wf, cv, rv⟩ := id iv
  obtain ⟨s, n, W, R⟩ := now
  obtain ⟨M1, f1, e1⟩ := c_best (b := b) wf.1 cv.1
  have s1 : M1.1 (b + 461 + 1) = s := by rw [(e1.1 _ (by omega)).1]; exact rv.1
  have v1 : cz_fg M1 (b + 461) := cz_fg_fr e1 (by omega) (by omega) rv.2.2.2.2.2.2
  obtain ⟨M2, f2, j1, j2, j3, j4⟩ := m_best (a := b + 461) wf.1 cv.1 s1 v1
  exact ⟨_, M1, M2, f1, f2, cz_trial wf cv rv ((e1.mono (fun x hx => by omega)).tr (j4.mono (fun x hx => by omega))) (fun x hx => hx) j1 j3⟩
