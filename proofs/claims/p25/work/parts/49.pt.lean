/-! how many have come -/
theorem cz_wA_o {s : Nat → Int32} {n W : Nat} {R : Nat → List Nat} (ok : cz_ok s n W R) {i : Nat} (h0 : i ∉ R 0) (h1 : i ∉ R 1) : (cz_wA s W R).1 (111 + 11 * i + 2) = s (111 + 11 * i + 2) := by
  obtain ⟨n0, n1, n2, q0, q1, q2⟩ := cz_ok_no ok.1
  obtain ⟨gg1, -⟩ := cz_ok_g ok
  obtain ⟨-, -, -, -, hrw, hle, -⟩ := ok.1
  obtain ⟨-, l2, -, l4, l5⟩ := hrw 0 (by decide)
  obtain ⟨-, r2, -, r4, r5⟩ := hrw 1 (by decide)
  obtain ⟨gA, -⟩ := cz_go_all (w := cz_wt s) (u := fun _ => nI 0) (rdm := cz_no s 0) n0 l4 (fun i hi => (hle i (l5 i hi).1).1)
  have hlw1 : ∀ i ∈ R 1, cz_lw (cz_gt (cz_wt s) 0 (cz_no s (5 + 2 * (W % 4))) (cz_no s 0) (R 0) (s, fun _ => nI 0)).1 i := fun i hi => (gg1.2.2.2.2.2.1 i (r5 i hi).1).1
  obtain ⟨hA, -⟩ := cz_go_all (w := cz_wt s) (s := (cz_gt (cz_wt s) 0 (cz_no s (5 + 2 * (W % 4))) (cz_no s 0) (R 0) (s, fun _ => nI 0)).1) (u := (cz_gt (cz_wt s) 0 (cz_no s (5 + 2 * (W % 4))) (cz_no s 0) (R 0) (s, fun _ => nI 0)).2) (rdm := cz_no s 0) n1 r4 hlw1
  have hw1 : (cz_wA s W R).1 (111 + 11 * i + 2) = (cz_go (cz_wt s) (cz_no s (5 + 2 * (W % 4) + 1)) (cz_no s 0) (R 1) (0, (cz_gt (cz_wt s) 0 (cz_no s (5 + 2 * (W % 4))) (cz_no s 0) (R 0) (s, fun _ => nI 0)).1, (cz_gt (cz_wt s) 0 (cz_no s (5 + 2 * (W % 4))) (cz_no s 0) (R 0) (s, fun _ => nI 0)).2)).2.1 (111 + 11 * i + 2) := cz_gt_l (by decide) r2 (Or.inr (by omega))
  have h0l : (cz_gt (cz_wt s) 0 (cz_no s (5 + 2 * (W % 4))) (cz_no s 0) (R 0) (s, fun _ => nI 0)).1 (111 + 11 * i + 2) = (cz_go (cz_wt s) (cz_no s (5 + 2 * (W % 4))) (cz_no s 0) (R 0) (0, s, fun _ => nI 0)).2.1 (111 + 11 * i + 2) := cz_gt_l (by decide) l2 (Or.inr (by omega))
  rw [hw1, (hA i h1).1 2 (by decide), h0l, (gA i h0).1 2 (by decide)]
theorem cz_ct_c {s s' : Nat → Int32} {t : Nat} : ∀ {n : Nat}, (∀ i, i < n → (s' (111 + 11 * i + 2) = nI t ↔ s (111 + 11 * i + 2) = nI t)) → cz_ct s' t n = cz_ct s t n
  | 0, _ => rfl
  | n + 1, h => by
    rw [cz_ct, cz_ct, cz_ct_c (fun i hi => h i (by omega))]
    by_cases h1 : s (111 + 11 * n + 2) = nI t
    · rw [if_pos h1, if_pos ((h n (by omega)).mpr h1)]
    · rw [if_neg h1, if_neg (fun z => h1 ((h n (by omega)).mp z))]
theorem cz_ct_fi {s : Nat → Int32} {v : Int32} {n : Nat} : ∀ k, k ≤ n → cz_ct (cz_fi (upd s 3 v) n) 1 k = cz_ct s 1 k + cz_cn s k
  | 0, _ => rfl
  | k + 1, h => by
    rw [cz_ct, cz_ct, cz_cn, cz_ct_fi k (by omega), cz_fi_2 (by omega), pk_un (by omega)]
    by_cases h3 : s (111 + 11 * k + 2) = nI 3
    · rw [if_pos h3, if_pos rfl, if_pos h3, if_neg (by rw [h3]; decide)]
      omega
    · rw [if_neg h3, if_neg h3]
      omega
theorem cz_ct_wk {s : Nat → Int32} {n W : Nat} {R : Nat → List Nat} (ok : cz_ok s n W R) : cz_ct (cz_wK s n W R) 1 n = cz_ct s 1 n + cz_cn (cz_wA s W R).1 n := by
  unfold cz_wK
  rw [cz_ct_fi n (Nat.le_refl _)]
  congr 1
  refine cz_ct_c (fun i hi => ?_)
  have hin : ∀ r, r < 2 → i ∈ R r → ((cz_wA s W R).1 (111 + 11 * i + 2) = nI 1 ↔ s (111 + 11 * i + 2) = nI 1) := by
    intro r hr hm
    obtain ⟨k, hk, rfl⟩ := List.mem_iff_getElem.mp hm
    have h0 := ((ok.1.2.2.2.2.1 r hr).2.2.2.2 _ hm).2.2
    rw [(cz_wA_l ok hr hk).1, h0]
    split
    · decide
    · split
      · decide
      · exact Iff.rfl
  by_cases h0 : i ∈ R 0
  · exact hin 0 (by decide) h0
  · by_cases h1 : i ∈ R 1
    · exact hin 1 (by decide) h1
    · rw [cz_wA_o ok h0 h1]
theorem cz_ct_sk {s : Nat → Int32} {n W : Nat} {R : Nat → List Nat} (ok : cz_ok s n W R) : ∀ k, W + k < 2 ^ 20 → cz_ct (cz_sk s n W R k).1 1 n = cz_ct s 1 n + cz_ck s n W R k
  | 0, _ => rfl
  | k + 1, h => by
    show cz_ct (cz_wK (cz_sk s n W R k).1 n (W + k) (cz_sk s n W R k).2) 1 n = cz_ct s 1 n + (cz_ck s n W R k + cz_cn (cz_wA (cz_sk s n W R k).1 (W + k) (cz_sk s n W R k).2).1 n)
    rw [cz_ct_wk (cz_ok_sk ok k (by omega)), cz_ct_sk ok k (by omega)]
    omega
theorem o_ifPassed (M : cz_M) (b : Nat) (x y : Int32) (iv : cz_iv b M) : ∃ v M1 M2, f_X4_ifPassed M b x y = some (v, M1) ∧ f_X5_ifPassed M1 (b + 461) x y = some (v, M2) ∧ cz_iv b M2 := by
  by_cases h1 : x < nI 1
  · exact ⟨_, M, M, by rw [f_X4_ifPassed, if_pos h1], by rw [f_X5_ifPassed, m_in, if_pos h1, Option.bind_some, if_pos rfl], iv⟩
  by_cases h2 : nI 100 < x
  · exact ⟨_, M, M, by rw [f_X4_ifPassed, if_neg h1, if_pos h2], by rw [f_X5_ifPassed, m_in, if_neg h1, if_pos h2, Option.bind_some, if_pos rfl], iv⟩
  by_cases h3 : y < nI 0
  · exact ⟨_, M, M, by rw [f_X4_ifPassed, if_neg h1, if_neg h2, if_pos h3], by rw [f_X5_ifPassed, m_in, if_neg h1, if_neg h2, Option.bind_some, if_neg (by decide), m_in, if_pos h3, Option.bind_some, if_pos rfl], iv⟩
  by_cases h4 : nI 2 < y
  · exact ⟨_, M, M, by rw [f_X4_ifPassed, if_neg h1, if_neg h2, if_neg h3, if_neg (cz_lt_not h4)], by rw [f_X5_ifPassed, m_in, if_neg h1, if_neg h2, Option.bind_some, if_neg (by decide), m_in, if_neg h3, if_pos h4, Option.bind_some, if_pos rfl], iv⟩
  obtain ⟨k, hk1, hk2, rfl⟩ := cz_btw (by decide) h1 h2 (by decide)
  obtain ⟨w, hw1, hw2, rfl⟩ := cz_btw (by decide) h3 h4 (by decide)
  obtain ⟨now, hist, pc, slot, used, pad, len, wf, cv, rv⟩ := id iv
  obtain ⟨s, n, W, R⟩ := now
  obtain ⟨ok, hW9⟩ := wf.1
  have ok : cz_ok s n W R := ok
  have hW9 : W ≤ 9999 := hW9
  have hn : n ≤ 40 := ok.1.1.1
  have hs4 : s 4 = nI n := ok.1.1.2.1
  have hv1 : M.1 (b + 461 + 1) = s := rv.1
  obtain ⟨M6, f6, g6, e6⟩ := cz_sA (M := M) (a := b + 58) (a1 := b + 1) (by omega) wf.1 cv.1
  have g6 : cz_rp M6 (b + 58) s n R := g6
  obtain ⟨M7, f7, g7, e7⟩ := c_passWeeks M6 (b + 58) ok g6 (K := k) (by omega) (by omega)
  have okK := cz_ok_sk ok k (by omega)
  have e67 := e6.tr e7
  have rp1 : cz_rp M7 (b + 1) s n R := cz_rp_out e67 (fun x hx => by omega) hn cv.1
  have hs4K : (cz_sk s n W R k).1 4 = nI n := okK.1.1.2.1
  -- the reference
  have s7 : M7.1 (b + 461 + 1) = s := by rw [(e67.1 _ (by omega)).1]; exact hv1
  have v7 : cz_fg M7 (b + 461) := cz_fg_fr e67 (by omega) (by omega) rv.2.2.2.2.2.2
  obtain ⟨M8, f8, g8, e8⟩ := m_putAside M7 (b + 461)
  have s8 : M8.1 (b + 461 + 1) = s := by rw [(e8.1 _ (by omega)).1]; exact s7
  obtain ⟨M9, f9, g9, q9, e9⟩ := m_passes M8 (b + 461) ok s8 (cz_fg_fr e8 (by omega) (by omega) v7) (K := k) (by omega) (by omega)
  obtain ⟨M10, f10, g10, e10⟩ := m_putBack M9 (b + 461)
  have iv10 : cz_iv b M10 := by
    have e : cz_fr (fun x => (b + 58 ≤ x ∧ x < b + 115) ∨ x = b + 461 + 1 ∨ x = b + 461 + 2 ∨ x = b + 461 + 7 ∨ x = b + 461 + 8 ∨ x = b + 461 + 9) M M10 := (((e67.mono (fun x hx => by omega)).tr (e8.mono (fun x hx => by omega))).tr (e9.mono (fun x hx => by omega))).tr (e10.mono (fun x hx => by omega))
    exact cz_trial wf cv rv e (fun x hx => hx) (fun j hj => by rw [g10 j hj, (e9.1 _ (by omega)).1, g8 j hj, s7]) (cz_fg_fr e10 (by omega) (by omega) q9)
  have c4 : f_X4_ifPassed M b (nI k) (nI w) = if nI w = nI 0 then some (nI (cz_ck s n W R k), M7) else if nI w = nI 1 then some (nI (cz_ct (cz_sk s n W R k).1 2 n) - nI (cz_ct s 2 n), M7) else some (nI (cz_sw (cz_sk s n W R k).1 n) - nI (cz_sw s n), M7) := by
    rw [f_X4_ifPassed, if_neg h1, if_neg h2, if_neg h3, if_pos (cz_not_lt h4), f6, Option.bind_some, f7, cz_b2_s, c_are okK g7, c_are ok rp1, c_words okK g7, c_words ok rp1]
    rfl
  have m4 : f_X5_ifPassed M7 (b + 461) (nI k) (nI w) = if nI w = nI 0 then some (nI (cz_ct (cz_sk s n W R k).1 1 n) - nI (cz_ct s 1 n), M10) else if nI w = nI 1 then some (nI (cz_ct (cz_sk s n W R k).1 2 n) - nI (cz_ct s 2 n), M10) else some (nI (cz_sw (cz_sk s n W R k).1 n) - nI (cz_sw s n), M10) := by
    rw [f_X5_ifPassed, m_in, if_neg h1, if_neg h2, Option.bind_some, if_neg (by decide), m_in, if_neg h3, if_neg h4, Option.bind_some, if_neg (by decide), f8, Option.bind_some, m_many (t := 1) s8 hn hs4, m_many (t := 2) s8 hn hs4, m_words ok s8]
    simp only [Option.bind_some, f9, cz_b2_s, m_many (t := 1) g9 hn hs4K, m_many (t := 2) g9 hn hs4K, m_words okK g9, f10]
    rcases (show w = 0 ∨ w = 1 ∨ w = 2 by omega) with rfl | rfl | rfl <;> rfl
  by_cases w0 : nI w = nI 0
  · refine ⟨nI (cz_ck s n W R k), M7, M10, by rw [c4, if_pos w0], ?_, iv10⟩
    rw [m4, if_pos w0, cz_ct_sk ok k (by omega), cz_subN (by omega), Nat.add_sub_cancel_left]
  · by_cases w1 : nI w = nI 1
    · exact ⟨_, M7, M10, by rw [c4, if_neg w0, if_pos w1], by rw [m4, if_neg w0, if_pos w1], iv10⟩
    · exact ⟨_, M7, M10, by rw [c4, if_neg w0, if_neg w1], by rw [m4, if_neg w0, if_neg w1], iv10⟩
