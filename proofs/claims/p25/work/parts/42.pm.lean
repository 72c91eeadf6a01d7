theorem cz_change2 {b : Nat} {M : cz_M} {now now' : cz_S} {hist : Nat → cz_S} {pc : Nat} {slot : Nat → cz_S} {used pad : Nat → Nat} {len : Nat} (wf : cz_wq now hist pc slot used pad len) (cv : cz_cv b M now hist pc slot used pad len) (rv : cz_rv (b + 461) M now hist pc slot used pad len) (hok : cz_sok now') :
    ∃ M1, f_X4_remember M b = some M1 ∧ cz_cv b M1 now (cz_hp hist pc now) (cz_hc pc) slot used pad len ∧ ∀ M2, cz_fr (fun x => b + 1 ≤ x ∧ x < b + 1 + 57) M1 M2 → cz_srp M2 (b + 1) now' → cz_rv (b + 461) M2 now hist pc slot used pad len ∧ ∃ M3, f_X5_record M2 (b + 461) = some M3 ∧ cz_rv (b + 461) M3 now (cz_hp hist pc now) (cz_hc pc) slot used pad len ∧ ∀ M4, cz_fr (fun x => x = b + 461 + 1 ∨ x = b + 461 + 2 ∨ x = b + 461 + 7 ∨ x = b + 461 + 8 ∨ x = b + 461 + 9) M3 M4 → M4.1 (b + 461 + 1) = now'.1 → cz_fg M4 (b + 461) → cz_iv b M4 := by
  obtain ⟨M1, f1, cv1, e1⟩ := c_remember M b wf cv
  have wf1 := cz_wq_rec wf
  refine ⟨M1, f1, cv1, fun M2 e2 hn2 => ?_⟩
  have cv2 := cz_cv_now wf1 e2 hn2 cv1
  have rv2 : cz_rv (b + 461) M2 now hist pc slot used pad len := cz_rv_w (D := fun x => b ≤ x ∧ x < b + 461) (e1.tr (e2.w (fun x hx => by omega))) (fun x hx => by omega) rv
  obtain ⟨M3, f3, rv3, e3⟩ := m_record M2 (b + 461) wf rv2
  refine ⟨rv2, M3, f3, rv3, fun M4 e4 h4 hf4 => ?_⟩
  have wf2 := cz_wq_now wf1 hok
  exact ⟨now', cz_hp hist pc now, cz_hc pc, slot, used, pad, len, wf2, cz_cv_w e4 (fun x hx => by omega) wf2 (cz_cv_w e3 (fun x hx => by omega) wf2 cv2), cz_rv_now e4 h4 hf4 rv3⟩
theorem cz_isS {x : Int32} : (∃ k, k < 8 ∧ x = nI k ∧ f_X5_isShift x = some (nI 1)) ∨ ((x < 0 ∨ nI 8 ≤ x) ∧ f_X5_isShift x = some (nI 0)) := by
  rcases cz_rng x 8 (by decide) with ⟨k, hk, rfl⟩ | h
  · left
    refine ⟨k, hk, rfl, ?_⟩
    rw [f_X5_isShift, m_inN (by omega) (by decide) (by decide), if_pos (by omega)]
    rfl
  · right
    refine ⟨h, ?_⟩
    rw [f_X5_isShift, m_in_out (by decide) h]
    rfl
theorem o_trade (M : cz_M) (b : Nat) (x y : Int32) (iv : cz_iv b M) : ∃ v M1 M2, f_X4_trade M b x y = some (v, M1) ∧ f_X5_trade M1 (b + 461) x y = some (v, M2) ∧ cz_iv b M2 := by
  have e0 : (nI 0).toInt = 0 := by decide
  have e8 : (nI 8).toInt = 8 := by decide
  rcases cz_isS (x := x) with ⟨i, hi, rfl, hs1⟩ | ⟨hx, hs1⟩
  · rcases cz_isS (x := y) with ⟨j, hj, rfl, hs2⟩ | ⟨hy, hs2⟩
    · obtain ⟨now, hist, pc, slot, used, pad, len, wf, cv, rv⟩ := id iv
      obtain ⟨s, n, W, R⟩ := now
      obtain ⟨ok, hW9⟩ := wf.1
      have ok : cz_ok s n W R := ok
      have hr := cv.1.2.2.1
      have hri : M.1 (b + 1 + 3) i = s (5 + i) := hr i hi
      have hrj : M.1 (b + 1 + 3) j = s (5 + j) := hr j hj
      have hm : ∀ (A : cz_M), A.1 (b + 461 + 1) = s → f_X5_trade A (b + 461) (nI i) (nI j) = if s (5 + i) = s (5 + j) then some ((-5 : Int32), A) else ((f_X5_record A (b + 461)).bind fun M8 => (f_X5_trades M8 (b + 461) (nI i) (nI j)).bind fun M9 => cz_gd (cz_ib ((nI 5) + (nI i)) 551) (some ((M9.1 (b + 461 + 1) (Int32.toNatClampNeg ((nI 5) + (nI i)))), M9))) := fun A hA => by
        rw [f_X5_trade, hs1, Option.bind_some, if_neg (by decide), hs2, Option.bind_some, if_neg (by decide), nI_add, nI_add, cz_gdn (by omega) (by decide), cz_gdn (by omega) (by decide), cz_cl (by omega), cz_cl (by omega), hA]
      rw [f_X4_trade, if_neg (nI_nlt (Nat.zero_le _) (by omega)), if_neg (nI_ge hi (by decide)), if_neg (nI_nlt (Nat.zero_le _) (by omega)), if_pos (nI_lt hj (by decide)), cz_gdn hi (by decide), cz_gdn hj (by decide), cz_cl (by omega), cz_cl (by omega), hri, hrj]
      by_cases heq : s (5 + i) = s (5 + j)
      · rw [if_pos heq]
        exact ⟨_, _, M, rfl, by rw [hm M rv.1, if_pos heq], iv⟩
      · rw [if_neg heq]
        have hij : i ≠ j := fun z => heq (by rw [z])
        have hn5 : ∀ k, (k < 5 ∨ 13 ≤ k) → upd (upd s (5 + i) (s (5 + j))) (5 + j) (s (5 + i)) k = s k := fun k hk => by rw [pk_un (by omega), pk_un (by omega)]
        have hr5 : ∀ k, k < 8 → upd (upd s (5 + i) (s (5 + j))) (5 + j) (s (5 + i)) (5 + k) = if k = j then s (5 + i) else if k = i then s (5 + j) else s (5 + k) := fun k hk => by
          by_cases h1 : k = j
          · subst h1; rw [if_pos rfl, pk_us]
          · rw [if_neg h1, pk_un (by omega)]
            by_cases h2 : k = i
            · subst h2; rw [if_pos rfl, pk_us]
            · rw [if_neg h2, pk_un (by omega)]
        have hok' : cz_sok (upd (upd s (5 + i) (s (5 + j))) (5 + j) (s (5 + i)), n, W, R) := by
          show cz_ok (upd (upd s (5 + i) (s (5 + j))) (5 + j) (s (5 + i))) n W R ∧ W ≤ 9999
          refine ⟨cz_ok_gs (fun k hk => hn5 k (by omega)) ?_ (fun k hk => ?_) (fun c hc => ?_) ok, hW9⟩
          · rw [hn5 0 (by omega), hn5 1 (by omega), hn5 2 (by omega)]; exact ok.1.2.1
          · rw [hr5 k hk]
            split
            · exact ok.1.2.2.1 i hi
            · split
              · exact ok.1.2.2.1 j hj
              · exact ok.1.2.2.1 k hk
          · rw [hn5 _ (by omega)]; exact ok.1.2.2.2.1 c hc
        obtain ⟨M1, f1, g1, hch⟩ := cz_change wf cv rv hok'
        have g1 : cz_rp M1 (b + 1) s n R := g1
        have g1i : M1.1 (b + 1 + 3) i = s (5 + i) := g1.2.2.1 i hi
        have g1j : M1.1 (b + 1 + 3) j = s (5 + j) := g1.2.2.1 j hj
        have g2 : cz_srp (cz_mI (cz_mI M1 (b + 1 + 3) i (s (5 + j))) (b + 1 + 3) j (s (5 + i))) (b + 1) (upd (upd s (5 + i) (s (5 + j))) (5 + j) (s (5 + i)), n, W, R) := by
          show cz_rp _ (b + 1) (upd (upd s (5 + i) (s (5 + j))) (5 + j) (s (5 + i))) n R
          refine cz_rp_g (M := M1) (fun z hz => by rw [cz_mI_o (by omega), cz_mI_o (by omega)]) rfl (fun k hk => hn5 k (by omega)) (fun k hk => ?_) (fun k hk => ?_) (fun c hc f hf => ?_) (cz_ok_lw ok) g1
          · rw [cz_mI_o (by omega), cz_mI_o (by omega), hn5 _ (by omega)]; exact g1.1 k hk
          · rw [hr5 k hk, cz_mI_s, cz_mI_s]
            by_cases h1 : k = j
            · subst h1; rw [if_pos rfl, pk_us]
            · rw [if_neg h1, pk_un h1]
              by_cases h2 : k = i
              · subst h2; rw [if_pos rfl, pk_us]
              · rw [if_neg h2, pk_un h2]; exact g1.2.2.1 k hk
          · rw [cz_mI_o (by omega), cz_mI_o (by omega), hn5 _ (by omega)]; exact g1.2.2.2.1 c hc f hf
        have d3 : b + 1 ≤ b + 1 + 3 ∧ b + 1 + 3 < b + 1 + 57 := by omega
        obtain ⟨M3, f3, s3, q3, s2, hfin⟩ := hch _ ((cz_fr.mI (D := fun x => b + 1 ≤ x ∧ x < b + 1 + 57) d3).tr (cz_fr.mI d3)) g2
        have s3 : M3.1 (b + 461 + 1) = s := s3
        have e4 : cz_fr (fun x => x = b + 461 + 1) M3 (cz_mI (cz_mI M3 (b + 461 + 1) (5 + i) (s (5 + j))) (b + 461 + 1) (5 + j) (s (5 + i))) := (cz_fr.mI (D := fun x => x = b + 461 + 1) rfl).tr (cz_fr.mI rfl)
        refine ⟨s (5 + j), cz_mI (cz_mI M1 (b + 1 + 3) i (s (5 + j))) (b + 1 + 3) j (s (5 + i)), cz_mI (cz_mI M3 (b + 461 + 1) (5 + i) (s (5 + j))) (b + 461 + 1) (5 + j) (s (5 + i)), ?_, ?_, hfin _ (e4.mono (fun x hx => Or.inl hx)) (by rw [cz_mI_s, cz_mI_s, s3]) (cz_fg_fr e4 (by omega) (by omega) q3)⟩
        · rw [f1, Option.bind_some, f_X2_tradeShifts, cz_gdn hi (by decide), cz_cl (show i < 2 ^ 31 by omega), cz_cl (show j < 2 ^ 31 by omega), cz_lt_e, cz_gdn hj (by decide), cz_gdn hi (by decide), cz_lt_e, cz_gdn hj (by decide), cz_lt_e, Option.bind_some, cz_gdn hi (by decide), g1i, g1j, cz_mI_s, pk_un hij, cz_mI_s, pk_us]
        · rw [hm _ s2, if_neg heq, f3, Option.bind_some, f_X5_trades, nI_add, nI_add, cz_cl (show 5 + i < 2 ^ 31 by omega), cz_cl (show 5 + j < 2 ^ 31 by omega), cz_gdn (by omega) (by decide), cz_lt_e, cz_gdn (by omega) (by decide), cz_gdn (by omega) (by decide), cz_lt_e, cz_gdn (by omega) (by decide), cz_lt_e, Option.bind_some, cz_gdn (by omega) (by decide), s3, cz_mI_s, pk_un (by omega), cz_mI_s, pk_us]
    · refine ⟨_, M, M, ?_, by rw [f_X5_trade, hs1, Option.bind_some, if_neg (by decide), hs2, Option.bind_some, if_pos rfl], iv⟩
      rw [f_X4_trade, if_neg (nI_nlt (Nat.zero_le _) (by omega)), if_neg (nI_ge hi (by decide))]
      rcases hy with hy | hy
      · rw [if_pos (by rw [cz_l0] at hy; exact hy)]
      · rw [if_neg (fun z => by rw [Int32.lt_iff_toInt_lt] at z; rw [Int32.le_iff_toInt_le] at hy; omega), if_neg (fun z => cz_lt_not z hy)]
  · refine ⟨_, M, M, ?_, by rw [f_X5_trade, hs1, Option.bind_some, if_pos rfl], iv⟩
    rw [f_X4_trade]
    rcases hx with hx | hx
    · rw [if_pos (by rw [cz_l0] at hx; exact hx)]
    · rw [if_neg (fun z => by rw [Int32.lt_iff_toInt_lt] at z; rw [Int32.le_iff_toInt_le] at hx; omega), if_pos hx]
theorem o_wipe (M : cz_M) (b : Nat) (iv : cz_iv b M) : ∃ v M1 M2, f_X4_wipe M b = some (v, M1) ∧ f_X5_wipe M1 (b + 461) = some (v, M2) ∧ cz_iv b M2 := by
  obtain ⟨now, hist, pc, slot, used, pad, len, wf, cv, rv⟩ := iv
  obtain ⟨c1, c2, c3, c4, c5, c6, c7⟩ := cv
  obtain ⟨v1, v2, v3, v4, v5, v6, v7⟩ := rv
  have wf' : cz_wq now hist pc slot used pad 0 := ⟨wf.1, wf.2.1, wf.2.2.1, by omega, fun k hk => by omega⟩
  have hx : ∀ x, x ≠ b → x ≠ b + 461 → (cz_mI (cz_mI M b 7 (nI 0)) (b + 461) 7 (nI 0)).1 x = M.1 x := fun x h1 h2 => by rw [cz_mI_o h2, cz_mI_o h1]
  obtain ⟨π, hp1, hp2⟩ := c3
  refine ⟨nI len, cz_mI M b 7 (nI 0), cz_mI (cz_mI M b 7 (nI 0)) (b + 461) 7 (nI 0), by rw [f_X4_wipe, c6]; rfl, by rw [f_X5_wipe, cz_mI_o (by omega), v5]; rfl, now, hist, pc, slot, used, pad, 0, wf', ⟨?_, ?_, ⟨π, hp1, hp2⟩, fun i hi => ?_, fun i hi => ?_, ?_, fun k hk => by omega⟩, ⟨?_, ?_, ?_, ?_, ?_, fun k hk => by omega, ?_⟩⟩
  · exact cz_srp_w (fun x h1 h2 => ⟨hx x (by omega) (by omega), rfl⟩) wf.1.1.1.1.1 c1
  · rw [cz_mI_o (by omega), cz_mI_s, pk_un (by decide), c2]
  · have hpi := (hp1 i (by have := wf.2.1.1; omega))
    exact cz_srp_w (p := M.2.2 i) (fun x h1 h2 => ⟨hx x (by rw [hpi.2] at h1; omega) (by rw [hpi.2] at h2; omega), rfl⟩) (wf.2.1.2 i hi).1.1.1.1 (c4 i hi)
  · rw [hx _ (by omega) (by omega)]
    exact ⟨(c5 i hi).1, fun hu => cz_srp_w (fun x h1 h2 => ⟨hx x (by omega) (by omega), rfl⟩) ((wf.2.2.1 i hi).2 hu).1.1.1.1 ((c5 i hi).2 hu)⟩
  · rw [cz_mI_o (by omega), cz_mI_s, pk_us]
  · rw [hx _ (by omega) (by omega)]; exact v1
  · rw [cz_mI_s, pk_un (by decide), cz_mI_o (by omega)]; exact v2
  · rw [hx _ (by omega) (by omega)]; exact v3
  · rw [hx _ (by omega) (by omega), hx _ (by omega) (by omega)]; exact v4
  · rw [cz_mI_s, pk_us]
  · unfold cz_fg at v7 ⊢
    rw [hx _ (by omega) (by omega), hx _ (by omega) (by omega)]
    exact v7
