/-! strike -/
theorem o_strike (M : cz_M) (b : Nat) (x y : Int32) (iv : cz_iv b M) : ∃ v M1 M2, f_X4_strike M b x y = some (v, M1) ∧ f_X5_strike M1 (b + 461) x y = some (v, M2) ∧ cz_iv b M2 := by
  have e0 : (nI 0).toInt = 0 := by decide
  have e4 : (nI 4).toInt = 4 := by decide
  have e26 : (nI 26).toInt = 26 := by decide
  rcases cz_rng x 4 (by decide) with ⟨c, hc, rfl⟩ | hx
  · have hin1 : f_X5_in (nI c) (nI 0) (nI 3) = some (nI 1) := by rw [m_inN (by omega) (by decide) (by decide), if_pos (by omega)]
    rcases cz_rng y 26 (by decide) with ⟨w, hw, rfl⟩ | hy
    · have hin2 : f_X5_in (nI w) (nI 0) (nI 25) = some (nI 1) := by rw [m_inN (by omega) (by decide) (by decide), if_pos (by omega)]
      obtain ⟨now, hist, pc, slot, used, pad, len, wf, cv, rv⟩ := id iv
      obtain ⟨s, n, W, R⟩ := now
      obtain ⟨ok, hW9⟩ := wf.1
      have ok : cz_ok s n W R := ok
      obtain ⟨S, hS, hSe⟩ := ok.1.2.2.2.1 c hc
      have hS' : S ^^^ 2 ^ w < 2 ^ 26 := Nat.xor_lt_two_pow hS (Nat.pow_lt_pow_right (by decide) hw)
      have hval : nI S ^^^ (nI 1 <<< (nI w &&& nI 31)) = nI (S ^^^ 2 ^ w) := by rw [cz_shl1 w hw, cz_xorN]
      generalize hT : S ^^^ 2 ^ w = T at hS' hval
      have hok' : cz_sok (upd s (13 + 4 * c) (nI T), n, W, R) := by
        show cz_ok (upd s (13 + 4 * c) (nI T)) n W R ∧ W ≤ 9999
        refine ⟨cz_ok_gs (fun j hj => pk_un (by omega)) ?_ (fun k hk => ?_) (fun d hd => ?_) ok, hW9⟩
        · rw [pk_un (by omega), pk_un (by omega), pk_un (by omega)]; exact ok.1.2.1
        · rw [pk_un (by omega)]; exact ok.1.2.2.1 k hk
        · by_cases h : d = c
          · subst h; exact ⟨T, hS', pk_us⟩
          · rw [pk_un (by omega)]; exact ok.1.2.2.2.1 d hd
      obtain ⟨M1, f1, g1, hch⟩ := cz_change wf cv rv hok'
      have g1 : cz_rp M1 (b + 1) s n R := g1
      have g10 : M1.1 (b + 1 + 2 + (7 + c)) 0 = nI S := (g1.2.2.2.1 c hc 0 (by decide)).trans hSe
      have g2 : cz_srp (cz_mI M1 (b + 1 + 2 + (7 + c)) 0 (nI T)) (b + 1) (upd s (13 + 4 * c) (nI T), n, W, R) := by
        show cz_rp _ (b + 1) (upd s (13 + 4 * c) (nI T)) n R
        refine cz_rp_g (M := M1) (fun z hz => cz_mI_o (by omega)) rfl (fun k hk => pk_un (by omega)) (fun k hk => ?_) (fun k hk => ?_) (fun d hd f hf => ?_) (cz_ok_lw ok) g1
        · rw [cz_mI_o (by omega), pk_un (by omega)]; exact g1.1 k hk
        · rw [cz_mI_o (by omega), pk_un (by omega)]; exact g1.2.2.1 k hk
        · by_cases h : d = c
          · subst h
            rw [cz_mI_s]
            by_cases hf0 : f = 0
            · subst hf0; rw [pk_us]; exact pk_us.symm
            · rw [pk_un hf0, pk_un (by omega)]; exact g1.2.2.2.1 d hd f hf
          · rw [cz_mI_o (by omega), pk_un (by omega)]; exact g1.2.2.2.1 d hd f hf
      obtain ⟨M3, f3, s3, q3, s2, hfin⟩ := hch (cz_mI M1 (b + 1 + 2 + (7 + c)) 0 (nI T)) (cz_fr.mI ⟨by omega, by omega⟩) g2
      have s3 : M3.1 (b + 461 + 1) = s := s3
      have s2 : (cz_mI M1 (b + 1 + 2 + (7 + c)) 0 (nI T)).1 (b + 461 + 1) = s := s2
      have e5 : cz_fr (fun x => x = b + 461 + 1) M3 (cz_mI M3 (b + 461 + 1) (13 + 4 * c) (nI T)) := cz_fr.mI rfl
      refine ⟨nI (cz_bs T 26), cz_mI M1 (b + 1 + 2 + (7 + c)) 0 (nI T), cz_mI M3 (b + 461 + 1) (13 + 4 * c) (nI T), ?_, ?_, hfin _ (e5.mono (fun x hx => Or.inl hx)) (by rw [cz_mI_s, s3]) (cz_fg_fr e5 (by omega) (by omega) q3)⟩
      · rw [f_X4_strike, if_neg (nI_nlt (Nat.zero_le _) (by omega)), if_neg (nI_ge hc (by decide)), if_neg (nI_nlt (Nat.zero_le _) (by omega)), if_pos (nI_lt hw (by decide)), f1, Option.bind_some, cz_gdn hc (by decide), cz_lt_e, cz_cl (by omega), g10, hval, cz_lt_e, cz_mI_s, pk_us, c_bits26 hS', Option.bind_some]
      · have hof : f_X5_ofCensor (nI c) (nI 0) = some (nI (13 + 4 * c)) := m_ofCensor c 0
        rw [f_X5_strike, hin1, Option.bind_some, if_neg (by decide), hin2, Option.bind_some, if_neg (by decide), hof, Option.bind_some, Option.bind_some, cz_gdn (by omega) (by decide), cz_cl (by omega), s2, hSe, hval, f_X5_lays, f3, Option.bind_some, cz_gdn (by omega) (by decide), cz_lt_e, cz_gdn (by omega) (by decide), cz_lt_e, cz_cl (by omega), cz_b2_s, Option.bind_some, cz_gdn (by omega) (by decide), cz_cl (show 13 + 4 * c < 2 ^ 31 by omega), cz_mI_s, pk_us, m_bits26 hS', Option.bind_some]
    · refine ⟨_, M, M, ?_, by rw [f_X5_strike, hin1, Option.bind_some, if_neg (by decide), m_in_out (by decide) hy, Option.bind_some, if_pos rfl], iv⟩
      rw [f_X4_strike, if_neg (nI_nlt (Nat.zero_le _) (by omega)), if_neg (nI_ge hc (by decide))]
      rcases hy with hy | hy
      · rw [if_pos (by rw [cz_l0] at hy; exact hy)]
      · rw [if_neg (fun z => by rw [Int32.lt_iff_toInt_lt] at z; rw [Int32.le_iff_toInt_le] at hy; omega), if_neg (fun z => cz_lt_not z hy)]
  · refine ⟨_, M, M, ?_, by rw [f_X5_strike, m_in_out (by decide) hx, Option.bind_some, if_pos rfl], iv⟩
    rw [f_X4_strike]
    rcases hx with hx | hx
    · rw [if_pos (by rw [cz_l0] at hx; exact hx)]
    · rw [if_neg (fun z => by rw [Int32.lt_iff_toInt_lt] at z; rw [Int32.le_iff_toInt_le] at hx; omega), if_pos hx]
