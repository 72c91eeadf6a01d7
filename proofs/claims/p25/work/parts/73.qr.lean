/-! read, on both sides -/
theorem m_writes {M : cz_M} {a len p : Nat} {pad : Nat → Nat} {A : cz_S} (hl : len ≤ 60) (hp : p ≤ len) (h3 : 3 ≤ cz_rt pad len p) (h : cz_sok A) (hn : A.2.1 < 40) (h7 : M.1 a 7 = nI len) (hpad : ∀ k, k < len → M.1 (a + 6) k = nI (pad k)) (hs : M.1 (a + 1) = A.1) :
    ∃ M', f_X5_writes M a (nI p) (nI (cz_rt pad len p)) = some M' ∧ M'.1 (a + 1) = (cz_ls pad len p A).1 ∧ cz_fr (fun x => x = a + 1) M M' := by
  obtain ⟨s, n, W, R⟩ := A
  have hn : n < 40 := hn
  have ok : cz_ok s n W R := h.1
  have hs : M.1 (a + 1) = s := hs
  obtain ⟨k1, k2, k3, k4, k5⟩ := cz_rt_ch hp h3
  have hr := cz_pr_2 pad p
  obtain ⟨l1, l2, l3, l4, l5⟩ := ok.1.2.2.2.2.1 (cz_pr pad p) hr
  have hln : (R (cz_pr pad p)).length ≤ n := cz_nodup_le n _ l4 (fun i hi => (l5 i hi).1)
  have hs4 : s 4 = nI n := ok.1.1.2.1
  have hnx : f_X5_next M a (nI (p + 1)) = some (nI (pad (p + 1))) := by
    rw [m_next hl h7 hpad (by omega)]
    unfold cz_nx
    rw [if_pos (by omega)]
  have e6 : cz_fr (fun x => x = a + 1) M (cz_mI M (a + 1) 4 (nI (n + 1))) := cz_fr.mI rfl
  obtain ⟨M', f', g', e'⟩ := m_wrB (M6 := cz_mI M (a + 1) 4 (nI (n + 1))) (a := a) (n := n) (W := W) (p := p) (r := cz_pr pad p) (l := (R (cz_pr pad p)).length) (s := s) hl hn hr hp h3 (by rw [(e6.1 a (by omega)).1]; exact h7) (fun k hk => by rw [(e6.1 (a + 6) (by omega)).1]; exact hpad k hk) ok.1.1.2.2.2 l1 (by omega) (by rw [cz_mI_s, hs])
  refine ⟨M', ?_, g', e6.tr e'⟩
  rw [f_X5_writes, cz_gdn (by decide) (by decide), cz_lt_e, cz_cl (show 4 < 2 ^ 31 by decide), hs, hs4, nI_add, hnx, Option.bind_some]
  by_cases h62 : pad (p + 1) = 62
  · have hpr : cz_pr pad p = 0 := if_pos h62
    rw [hpr] at f'
    rw [if_pos (by rw [h62]), cz_gdn (by decide) (by decide), cz_gdn (by decide) (by decide), nI_add, cz_lt_e]
    exact f'
  · have hpr : cz_pr pad p = 1 := if_neg h62
    rw [hpr] at f'
    rw [if_neg (fun z => h62 (cz_nI_inj (by omega) (by omega) z)), cz_gdn (by decide) (by decide), cz_gdn (by decide) (by decide), nI_add, cz_lt_e]
    exact f'
theorem m_lettersW {a len : Nat} {pad : Nat → Nat} (hl : len ≤ 60) (hc : ∀ k, k < len → pad k < 128) (Kc : Int32 → cz_M → Option (Int32 × cz_M)) :
    ∀ (K p : Nat) (M : cz_M) (A : cz_S) (fuel : Nat), cz_vl pad len K p → p ≤ len → K < fuel → cz_sok A → A.2.1 + K ≤ 40 → M.1 a 7 = nI len → (∀ k, k < len → M.1 (a + 6) k = nI (pad k)) → M.1 (a + 1) = A.1 →
      ∃ M' e, cz_it2 (f_X5_read_L37 a Kc) fuel (nI p) M = Kc e M' ∧ M'.1 (a + 1) = (cz_lS pad len K p A).1 ∧ cz_fr (fun x => x = a + 1) M M'
  | 0, _, _, _, _, hv, _, _, _, _, _, _, _ => absurd hv (fun z => z)
  | K + 1, p, M, A, fuel, hv, hp, hf, h, hn, h7, hpad, hs => by
    obtain ⟨h3, hv⟩ := hv
    have hle := cz_rt_le (pad := pad) hp
    obtain ⟨g, rfl⟩ : ∃ g, fuel = g + 1 := ⟨fuel - 1, by omega⟩
    obtain ⟨M1, f1, g1, e1⟩ := m_writes hl hp h3 h (by omega) h7 hpad hs
    have hst : f_X5_read_L37 a Kc (cz_it2 (f_X5_read_L37 a Kc) g) (nI p) M = cz_it2 (f_X5_read_L37 a Kc) g (nI (p + (cz_rt pad len p + 1))) M1 := by
      rw [f_X5_read_L37, h7, if_neg (nI_ge (by omega) (by omega)), m_right hl h7 hpad hc (by omega), Option.bind_some, f1, Option.bind_some, cz_lt_e, nI_add, nI_add]
    have h7' : M1.1 a 7 = nI len := by rw [(e1.1 a (by omega)).1]; exact h7
    have hpad' : ∀ k, k < len → M1.1 (a + 6) k = nI (pad k) := fun k hk => by rw [(e1.1 _ (by omega)).1]; exact hpad k hk
    show ∃ M' e, f_X5_read_L37 a Kc (cz_it2 (f_X5_read_L37 a Kc) g) (nI p) M = Kc e M' ∧ _ ∧ _
    rw [hst, cz_lS]
    rcases hv with ⟨hend, rfl⟩ | ⟨hlt, h44, hv⟩
    · obtain ⟨g', rfl⟩ : ∃ g', g = g' + 1 := ⟨g - 1, by omega⟩
      refine ⟨M1, nI (p + (cz_rt pad len p + 1)), ?_, g1, e1⟩
      show f_X5_read_L37 a Kc (cz_it2 (f_X5_read_L37 a Kc) g') (nI (p + (cz_rt pad len p + 1))) M1 = _
      rw [f_X5_read_L37, h7', if_pos (nI_le (by omega) (by omega))]
    · obtain ⟨M2, e, f2, g2, e2⟩ := m_lettersW hl hc Kc K (p + cz_rt pad len p + 1) M1 (cz_ls pad len p A) g hv (by omega) (by omega) (cz_ls_ok h (by omega) hp h3) (by have e1 : (cz_ls pad len p A).2.1 = A.2.1 + 1 := rfl; omega) h7' hpad' g1
      exact ⟨M2, e, f2, g2, e1.tr e2⟩
theorem cz_vl_u {pad : Nat → Nat} {len : Nat} : ∀ (K K' p : Nat), cz_vl pad len K p → cz_vl pad len K' p → K = K'
  | 0, _, _, h, _ => absurd h (fun z => z)
  | _ + 1, 0, _, _, h => absurd h (fun z => z)
  | K + 1, K' + 1, p, h, h' => by
    obtain ⟨-, h⟩ := h
    obtain ⟨-, h'⟩ := h'
    rcases h with ⟨a1, a2⟩ | ⟨a1, a2, a3⟩
    · rcases h' with ⟨b1, b2⟩ | ⟨b1, b2, b3⟩
      · omega
      · omega
    · rcases h' with ⟨b1, b2⟩ | ⟨b1, b2, b3⟩
      · omega
      · rw [cz_vl_u K K' _ a3 b3]
/-- the pad is emptied, on each side -/
theorem cz_cv_0 {b : Nat} {M : cz_M} {now : cz_S} {hist : Nat → cz_S} {pc : Nat} {slot : Nat → cz_S} {used pad : Nat → Nat} {len : Nat} (wf : cz_wq now hist pc slot used pad len) (cv : cz_cv b M now hist pc slot used pad len) : cz_cv b (cz_mI M b 7 (nI 0)) now hist pc slot used pad 0 := by
  obtain ⟨c1, c2, ⟨π, hp1, hp2⟩, c4, c5, c6, c7⟩ := cv
  have hx : ∀ x, x ≠ b → (cz_mI M b 7 (nI 0)).1 x = M.1 x := fun x hx => cz_mI_o hx
  refine ⟨cz_srp_w (fun x h1 h2 => ⟨hx x (by omega), rfl⟩) wf.1.1.1.1.1 c1, by rw [cz_mI_s, pk_un (by decide), c2], ⟨π, hp1, hp2⟩, fun i hi => ?_, fun i hi => ?_, by rw [cz_mI_s, pk_us], fun k hk => by omega⟩
  · have hpi := (hp1 i (by have := wf.2.1.1; omega))
    exact cz_srp_w (p := M.2.2 i) (fun x h1 h2 => ⟨hx x (by rw [hpi.2] at h1; omega), rfl⟩) (wf.2.1.2 i hi).1.1.1.1 (c4 i hi)
  · rw [hx _ (by omega)]
    exact ⟨(c5 i hi).1, fun hu => cz_srp_w (fun x h1 h2 => ⟨hx x (by omega), rfl⟩) ((wf.2.2.1 i hi).2 hu).1.1.1.1 ((c5 i hi).2 hu)⟩
theorem cz_rv_0 {a : Nat} {M : cz_M} {now : cz_S} {hist : Nat → cz_S} {pc : Nat} {slot : Nat → cz_S} {used pad : Nat → Nat} {len : Nat} (rv : cz_rv a M now hist pc slot used pad len) : cz_rv a (cz_mI M a 7 (nI 0)) now hist pc slot used pad 0 := by
  obtain ⟨v1, v2, v3, v4, v5, v6, v7⟩ := rv
  have hx : ∀ x, x ≠ a → (cz_mI M a 7 (nI 0)).1 x = M.1 x := fun x hx => cz_mI_o hx
  refine ⟨by rw [hx _ (by omega)]; exact v1, by rw [cz_mI_s, pk_un (by decide)]; exact v2, by rw [hx _ (by omega)]; exact v3, by rw [hx _ (by omega), hx _ (by omega)]; exact v4, by rw [cz_mI_s, pk_us], fun k hk => by omega, ?_⟩
  unfold cz_fg at v7 ⊢
  rw [hx _ (by omega), hx _ (by omega)]
  exact v7
theorem cz_rv_td {a : Nat} {M M' : cz_M} {now : cz_S} {hist : Nat → cz_S} {pc : Nat} {slot : Nat → cz_S} {used pad : Nat → Nat} {len : Nat} (h : cz_td a M M') (rv : cz_rv a M now hist pc slot used pad len) : cz_rv a M' now hist pc slot used pad len := by
  obtain ⟨v1, v2, v3, v4, v5, v6, v7⟩ := rv
  have hx : ∀ x, x ≠ a → M'.1 x = M.1 x := fun x hx => (h.1.1 x hx).1
  refine ⟨by rw [hx _ (by omega)]; exact v1, by rw [h.2 3 (by decide)]; exact v2, by rw [hx _ (by omega)]; exact v3, by rw [hx _ (by omega), hx _ (by omega)]; exact v4, by rw [h.2 7 (by decide)]; exact v5, by rw [hx _ (by omega)]; exact v6, ?_⟩
  unfold cz_fg at v7 ⊢
  rw [hx _ (by omega), hx _ (by omega)]
  exact v7
theorem o_read (M : cz_M) (b : Nat) (iv : cz_iv b M) : ∃ v M1 M2, f_X4_read M b = some (v, M1) ∧ f_X5_read M1 (b + 461) = some (v, M2) ∧ cz_iv b M2 := by
  obtain ⟨now, hist, pc, slot, used, pad, len, wf, cv, rv⟩ := id iv
  have hl : len ≤ 60 := wf.2.2.2.1
  have hc : ∀ k, k < len → pad k < 128 := fun k hk => by have := (wf.2.2.2.2 k hk).2; omega
  have c6 := cv.2.2.2.2.2.1
  have c7 := cv.2.2.2.2.2.2
  obtain ⟨m', a1, a2, a3⟩ := m_wrong (M := M) (a := b + 461) hl hc rv.2.2.2.2.1 rv.2.2.2.2.2.1
  have f4 := c_faultOfPad hl c6 c7 hc
  have ivm : cz_iv b m' := by
    obtain ⟨w', c', r'⟩ := cz_pad (M' := m') (pad' := pad) (len' := len) wf cv rv (a1.1.mono (fun x hx => by omega)) (by rw [(a1.1.1 _ (by omega)).1]) (a1.2 3 (by decide)) hl wf.2.2.2.2 (by rw [(a1.1.1 _ (by omega)).1]; exact c6) (fun k hk => by rw [(a1.1.1 _ (by omega)).1]; exact c7 k hk) (by rw [a1.2 7 (by decide)]; exact rv.2.2.2.2.1) (fun k hk => by rw [(a1.1.1 _ (by omega)).1]; exact rv.2.2.2.2.2.1 k hk)
    exact ⟨now, hist, pc, slot, used, pad, len, w', c', r'⟩
  rcases a3 with ⟨q, hq, hfp⟩ | ⟨hfp, K, hK, hv, htold⟩
  · have hne : ¬ nI q = (-6 : Int32) := cz_nIm (by omega)
    refine ⟨(-3 : Int32), M, m', ?_, ?_, ivm⟩
    · rw [f_X4_read, f4, Option.bind_some, hfp, if_neg hne]
    · rw [f_X5_read, a2, cz_b2_s, hfp, if_neg hne]
  · obtain ⟨s, n, W, R⟩ := now
    obtain ⟨ok, hW9⟩ := id wf.1
    have ok : cz_ok s n W R := ok
    have hn40 : n ≤ 40 := ok.1.1.1
    have hs4 : s 4 = nI n := ok.1.1.2.1
    have hp7 : M.1 (b + 1) 7 = nI n := cv.1.2.1.2.trans hs4
    have fm := c_lettersOfPad hl c6 c7 hc hv
    have hv1 : M.1 (b + 461 + 1) = s := rv.1
    by_cases h40 : n + K ≤ 40
    · obtain ⟨M1, f1, cv1, e1⟩ := c_remember M b wf cv
      have wf1 := cz_wq_rec wf
      obtain ⟨M2, f2, g2, e2⟩ := c_lettersW hl K 0 M1 (s, n, W, R) none 4096 hv (Nat.zero_le _) (by omega) wf.1 h40 cv1.2.2.2.2.2.1 cv1.2.2.2.2.2.2 cv1.1
      have okS := cz_lS_ok (pad := pad) K 0 (s, n, W, R) hv (Nat.zero_le _) wf.1 h40
      have cv2 := cz_cv_now wf1 e2 g2 cv1
      have wf2 := cz_wq_now wf1 okS
      have cv3 := cz_cv_0 wf2 cv2
      have e3 : cz_fr (fun x => x = b) M2 (cz_mI M2 b 7 (nI 0)) := cz_fr.mI rfl
      have rv3 : cz_rv (b + 461) (cz_mI M2 b 7 (nI 0)) (s, n, W, R) hist pc slot used pad len := cz_rv_w (D := fun x => b ≤ x ∧ x < b + 461) ((e1.tr (e2.w (fun x hx => by omega))).tr (e3.w (fun x hx => by omega))) (fun x hx => by omega) rv
      obtain ⟨m4, d1, d2, d3⟩ := m_wrong (M := cz_mI M2 b 7 (nI 0)) (a := b + 461) hl hc rv3.2.2.2.2.1 rv3.2.2.2.2.2.1
      have htold4 : m4.1 (b + 461) 11 = nI K := by
        rcases d3 with ⟨q, hq, hq2⟩ | ⟨-, K', hK', hv', ht'⟩
        · rw [hfp] at hq2
          exact absurd hq2.symm (cz_nIm (by omega))
        · rw [ht', cz_vl_u K' K 0 hv' hv]
      have rv4 := cz_rv_td d1 rv3
      obtain ⟨m5, f5, rv5, e5⟩ := m_record m4 (b + 461) wf rv4
      obtain ⟨m6, x6, f6, g6, e6⟩ := m_lettersW (a := b + 461) hl hc (fun x11 M12 => cz_lt (cz_mI M12 (b + 461) 7 (nI 0)) fun M13 => cz_gd (cz_ib (nI 4) 551) (some ((M13.1 (b + 461 + 1) (Int32.toNatClampNeg (nI 4))), M13))) K 0 m5 (s, n, W, R) 4096 hv (Nat.zero_le _) (by omega) wf.1 h40 rv5.2.2.2.2.1 rv5.2.2.2.2.2.1 rv5.1
      have rv6 := cz_rv_now (now' := cz_lS pad len K 0 (s, n, W, R)) (e6.mono (fun x hx => Or.inl hx)) g6 (cz_fg_fr e6 (by omega) (by omega) rv5.2.2.2.2.2.2) rv5
      have rv7 := cz_rv_0 rv6
      have e7 : cz_fr (fun x => x = b + 461) m6 (cz_mI m6 (b + 461) 7 (nI 0)) := cz_fr.mI rfl
      have wf3 : cz_wq (cz_lS pad len K 0 (s, n, W, R)) (cz_hp hist pc (s, n, W, R)) (cz_hc pc) slot used pad 0 := ⟨wf2.1, wf2.2.1, wf2.2.2.1, by omega, fun k hk => by omega⟩
      have eAll : cz_fr (fun x => b + 461 ≤ x) (cz_mI M2 b 7 (nI 0)) (cz_mI m6 (b + 461) 7 (nI 0)) := (((d1.1.mono (fun x hx => by omega)).tr (e5.mono (fun x hx => by omega))).tr (e6.mono (fun x hx => by omega))).tr (e7.mono (fun x hx => by omega))
      have cv7 := cz_cv_w eAll (fun x hx => Or.inl hx) wf3 cv3
      have v1 : (cz_mI M2 b 7 (nI 0)).1 (b + 1) 7 = (cz_lS pad len K 0 (s, n, W, R)).1 4 := cv3.1.2.1.2
      have v2 : (cz_mI m6 (b + 461) 7 (nI 0)).1 (b + 461 + 1) 4 = (cz_lS pad len K 0 (s, n, W, R)).1 4 := by rw [rv7.1]
      refine ⟨(cz_lS pad len K 0 (s, n, W, R)).1 4, cz_mI M2 b 7 (nI 0), cz_mI m6 (b + 461) 7 (nI 0), ?_, ?_, cz_lS pad len K 0 (s, n, W, R), cz_hp hist pc (s, n, W, R), cz_hc pc, slot, used, pad, 0, wf3, cv7, rv7⟩
      · rw [f_X4_read, f4, Option.bind_some, hfp, if_pos rfl, fm, Option.bind_some, hp7, nI_add, if_pos (nI_le h40 (by decide)), f1, Option.bind_some, f_X4_writeLettersOfPad, f2, Option.bind_some, cz_lt_e, v1]
      · have m41 : m4.1 (b + 461 + 1) = s := rv4.1
        rw [f_X5_read, d2, cz_b2_s, hfp, if_pos rfl, cz_gdn (by decide) (by decide), cz_cl (show 4 < 2 ^ 31 by decide), m41, hs4, htold4, nI_add, if_pos (nI_le h40 (by decide)), f5, Option.bind_some]
        refine f6.trans ?_
        rw [cz_lt_e, cz_gdn (by decide) (by decide), cz_cl (show 4 < 2 ^ 31 by decide), v2]
    · refine ⟨(-4 : Int32), M, m', ?_, ?_, ivm⟩
      · rw [f_X4_read, f4, Option.bind_some, hfp, if_pos rfl, fm, Option.bind_some, hp7, nI_add, if_neg (nI_ge (by omega) (by omega))]
      · have m1 : m'.1 (b + 461 + 1) = s := by rw [(a1.1.1 _ (by omega)).1]; exact hv1
        rw [f_X5_read, a2, cz_b2_s, hfp, if_pos rfl, cz_gdn (by decide) (by decide), cz_cl (show 4 < 2 ^ 31 by decide), m1, hs4, htold, nI_add, if_neg (nI_ge (by omega) (by omega))]
