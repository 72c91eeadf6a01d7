/-! burn: the reference, and both -/
theorem m_burnL (M : cz_M) (a : Nat) {s : Nat → Int32} {i r p l : Nat} (hr : r < 2) (hi : i < 40) (hl : l ≤ 40) (hp : p < l) (hM : M.1 (a + 1) = cz_bl s i r p l p) (K : Int32 → cz_M → Option (Int32 × cz_M)) :
    ∃ M', cz_it2 (f_X5_burn_L66 a (nI i) (nI r) K) 4096 (nI p) M = K (nI (l - 1)) M' ∧ M'.1 (a + 1) = cz_bl s i r p l (l - 1) ∧ cz_fr (fun x => x = a + 1) M M' := by
  obtain ⟨M', ⟨i1, i2⟩, h⟩ := cz_for2 (F := f_X5_burn_L66 a (nI i) (nI r) K) (fun k (m : cz_M) => m.1 (a + 1) = cz_bl s i r p l k ∧ (p ≤ k ∧ cz_fr (fun x => x = a + 1) M m)) (fun m => K (nI (l - 1)) m) (l - 1)
    (fun k m hk ⟨i1, i2, i3⟩ => by
      refine ⟨cz_mI m (a + 1) (31 + 40 * r + k) (s (31 + 40 * r + (k + 1))), fun rec => ?_, ?_, by omega, i3.tr (cz_fr.mI rfl)⟩
      · have e1 : cz_bl s i r p l k (29 + r) = nI (l - 1) := by unfold cz_bl; rw [if_neg (by omega), if_pos rfl]
        have e2 : cz_bl s i r p l k (31 + 40 * r + (k + 1)) = s (31 + 40 * r + (k + 1)) := by unfold cz_bl; rw [if_neg (by omega), if_neg (by omega), if_neg (by omega)]
        rw [f_X5_burn_L66, nI_add, cz_gdn (by omega) (by decide), cz_cl (by omega), i1, e1, if_neg (nI_ge hk (by omega)), m_inRow, Option.bind_some, nI_add, m_inRow, Option.bind_some, cz_gdn (by omega) (by decide), cz_gdn (by omega) (by decide), cz_cl (by omega), cz_cl (by omega), e2, cz_lt_e, cz_lt_e]
      · rw [cz_mI_s, i1]
        funext j
        by_cases hj : j = 31 + 40 * r + k
        · subst hj
          rw [pk_us]
          unfold cz_bl
          rw [if_neg (by omega), if_neg (by omega), if_pos (by omega)]
          rfl
        · rw [pk_un hj]
          unfold cz_bl
          by_cases h1 : j = 111 + 11 * i + 2
          · rw [if_pos h1, if_pos h1]
          · rw [if_neg h1, if_neg h1]
            by_cases h2 : j = 29 + r
            · rw [if_pos h2, if_pos h2]
            · rw [if_neg h2, if_neg h2]
              by_cases h3 : 31 + 40 * r + p ≤ j ∧ j < 31 + 40 * r + k
              · rw [if_pos h3, if_pos (by omega)]
              · rw [if_neg h3, if_neg (by omega)])
    (fun m ⟨i1, i2, i3⟩ rec => by
      have e1 : cz_bl s i r p l (l - 1) (29 + r) = nI (l - 1) := by unfold cz_bl; rw [if_neg (by omega), if_pos rfl]
      rw [f_X5_burn_L66, nI_add, cz_gdn (by omega) (by decide), cz_cl (by omega), i1, e1, if_pos (nI_le (Nat.le_refl _) (by omega))]) (l - 1 - p) p M 4096 (by omega) (by omega) ⟨hM, Nat.le_refl _, cz_fr.rf⟩
  exact ⟨M', h, i1, i2.2⟩
theorem o_burn (M : cz_M) (b : Nat) (x : Int32) (iv : cz_iv b M) : ∃ v M1 M2, f_X4_burn M b x = some (v, M1) ∧ f_X5_burn M1 (b + 461) x = some (v, M2) ∧ cz_iv b M2 := by
  obtain ⟨now, hist, pc, slot, used, pad, len, wf, cv, rv⟩ := id iv
  obtain ⟨s, n, W, R⟩ := now
  obtain ⟨ok, hW9⟩ := wf.1
  have ok : cz_ok s n W R := ok
  have hW9 : W ≤ 9999 := hW9
  have hn : n ≤ 40 := ok.1.1.1
  have hs4 : s 4 = nI n := ok.1.1.2.1
  have hv1 : M.1 (b + 461 + 1) = s := rv.1
  have rp : cz_rp M (b + 1) s n R := cv.1
  have h7 : M.1 (b + 1) 7 = nI n := rp.2.1.2.trans hs4
  have hL := m_isLetter (M := M) (a := b + 461) (n := n) (by rw [hv1]; exact hs4) hn x
  rcases hL with ⟨i, hi, rfl, hL⟩ | ⟨hout, hL⟩
  · have rl := rp.2.2.2.2.2 i hi
    have k5 := cz_rl5 ok hi rl
    by_cases h0 : s (111 + 11 * i + 2) = nI 0
    · obtain ⟨r, hr, hr1, hr2⟩ := (ok.1.2.2.2.2.2.1 i hi).2.2.1
      obtain ⟨p, hp, hpe⟩ := List.mem_iff_getElem.mp (hr2 h0)
      subst hpe
      have ro := ok.1.2.2.2.2.1 r hr
      have hl := ro.2.1
      have okb : cz_sok (cz_bn s (R r)[p] r p (R r).length, n, W, cz_bR R r p) := ⟨cz_ok_bn ok hr hp, hW9⟩
      obtain ⟨M1, f1, g1, hch⟩ := cz_change wf cv rv okb
      have g1 : cz_rp M1 (b + 1) s n R := g1
      obtain ⟨M2, f2, g2, e2⟩ := c_burnWaiting M1 (b + 1) ok g1 hr hp
      obtain ⟨M3, f3, s3, q3, s2, hfin⟩ := hch M2 e2 g2
      have s3 : M3.1 (b + 461 + 1) = s := s3
      have s2 : M2.1 (b + 461 + 1) = s := s2
      have hi40 : (R r)[p] < 40 := by omega
      have hl31 : s (29 + r) = nI (R r).length := ro.1
      have m4 : (cz_mI (cz_mI M3 (b + 461 + 1) (111 + 11 * (R r)[p] + 2) (nI 2)) (b + 461 + 1) (29 + r) (nI (R r).length - nI 1)).1 (b + 461 + 1) = cz_bl s (R r)[p] r p (R r).length p := by
        rw [cz_mI_s, cz_mI_s, s3, cz_subN (by omega)]
        funext j
        unfold cz_bl
        by_cases h1 : j = 111 + 11 * (R r)[p] + 2
        · subst h1; rw [pk_un (by omega), pk_us, if_pos rfl]
        · rw [if_neg h1]
          by_cases h2 : j = 29 + r
          · subst h2; rw [pk_us, if_pos rfl]
          · rw [pk_un h2, pk_un h1, if_neg h2, if_neg (by omega)]
      obtain ⟨M5, f5, g5, e5⟩ := m_burnL _ (b + 461) (s := s) (i := (R r)[p]) (r := r) (p := p) (l := (R r).length) hr hi40 hl hp m4 (fun x22 M23 => cz_gd (cz_ib ((nI 29) + nI r) 551) ((f_X5_inRow (nI r) (M23.1 (b + 461 + 1) (Int32.toNatClampNeg ((nI 29) + nI r)))).bind fun v26 => cz_gd (cz_ib v26 551) (cz_lt (cz_mI M23 (b + 461 + 1) (Int32.toNatClampNeg v26) (nI 0)) fun M27 => cz_gd (cz_ib (nI 3) 551) ((f_X5_of M27 (b + 461) (nI (R r)[p]) (nI 3)).bind fun v29 => some (((M27.1 (b + 461 + 1) (Int32.toNatClampNeg (nI 3))) - v29), M27)))))
      have e35 : cz_fr (fun x => x = b + 461 + 1) M3 (cz_mI M5 (b + 461 + 1) (31 + 40 * r + ((R r).length - 1)) (nI 0)) := (((cz_fr.mI (D := fun x => x = b + 461 + 1) rfl).tr (cz_fr.mI rfl)).tr e5).tr (cz_fr.mI rfl)
      have hfi : (cz_mI M5 (b + 461 + 1) (31 + 40 * r + ((R r).length - 1)) (nI 0)).1 (b + 461 + 1) = cz_bn s (R r)[p] r p (R r).length := by
        rw [cz_mI_s, g5]
        rfl
      have o3 : cz_bn s (R r)[p] r p (R r).length 3 = s 3 := cz_bn_o hl (by omega) (by omega) (by omega) (by omega)
      have o33 : cz_bn s (R r)[p] r p (R r).length (111 + 11 * (R r)[p] + 3) = s (111 + 11 * (R r)[p] + 3) := cz_bn_o hl (by omega) (by omega) (by omega) (by omega)
      refine ⟨s 3 - s (111 + 11 * (R r)[p] + 3), M2, cz_mI M5 (b + 461 + 1) (31 + 40 * r + ((R r).length - 1)) (nI 0), ?_, ?_, hfin _ (e35.mono (fun x hx => Or.inl hx)) hfi (cz_fg_fr e35 (by omega) (by omega) q3)⟩
      · rw [f_X4_burn, (c_hasLetter h7).1 _ hi hn rfl, Option.bind_some, if_neg (by decide), cz_gdn hi40 (by decide), cz_cl (by omega), k5, if_pos h0, f1, Option.bind_some, f2, Option.bind_some, cz_gdn hi40 (by decide), g2.2.1.1, (g2.2.2.2.2.2 _ hi).2.2.2.1, o3, o33]
      · have hL2 : f_X5_isLetter M2 (b + 461) (nI (R r)[p]) = some (nI 1) := by
          rcases m_isLetter (M := M2) (a := b + 461) (n := n) (by rw [s2]; exact hs4) hn (nI (R r)[p]) with ⟨_, _, _, hz⟩ | ⟨hz, _⟩
          · exact hz
          · rcases hz with hz | hz
            · exact absurd hz (nI_pos (by omega))
            · exact absurd hz (nI_ge hi (by omega))
        have e1 : cz_bl s (R r)[p] r p (R r).length ((R r).length - 1) (29 + r) = nI ((R r).length - 1) := by unfold cz_bl; rw [if_neg (by omega), if_pos rfl]
        have hv6 : f_X5_of M3 (b + 461) (nI (R r)[p]) (nI 1) = some (nI r) := by rw [m_of M3 _ hi40 (by decide), s3, hr1]
        have hv9 : f_X5_at (nI (R r)[p]) (nI 2) = some (nI (111 + 11 * (R r)[p] + 2)) := m_at _ _
        rw [f_X5_burn, hL2, Option.bind_some, if_neg (by decide), m_of M2 _ hi40 (by decide), Option.bind_some, s2, if_pos h0, f3, Option.bind_some, hv6, Option.bind_some, m_placeOf_in s3 hn hr ro hp, Option.bind_some, hv9, Option.bind_some, cz_gdn (by omega) (by decide), cz_cl (by omega), cz_lt_e, nI_add, cz_gdn (by omega) (by decide), cz_gdn (by omega) (by decide), cz_cl (by omega), cz_lt_e]
        have hc : (cz_mI M3 (b + 461 + 1) (111 + 11 * (R r)[p] + 2) (nI 2)).1 (b + 461 + 1) (29 + r) = nI (R r).length := by rw [cz_mI_s, pk_un (by omega), s3, hl31]
        rw [hc]
        rw [nI_add, cz_cl (show 29 + r < 2 ^ 31 by omega)] at f5
        refine f5.trans ?_
        rw [cz_gdn (by omega) (by decide), g5, e1, m_inRow, Option.bind_some, cz_gdn (by omega) (by decide), cz_lt_e, cz_cl (by omega), cz_gdn (by decide) (by decide), cz_cl (show 3 < 2 ^ 31 by decide), m_of _ _ hi40 (by decide), Option.bind_some, hfi, o3, o33]
    · refine ⟨(-5 : Int32), M, M, ?_, ?_, iv⟩
      · rw [f_X4_burn, (c_hasLetter h7).1 _ hi hn rfl, Option.bind_some, if_neg (by decide), cz_gdn (by omega) (by decide), cz_cl (by omega), k5, if_neg h0]
      · rw [f_X5_burn, hL, Option.bind_some, if_neg (by decide), m_of M _ (by omega) (by decide), Option.bind_some, hv1, if_neg h0]
  · exact ⟨_, M, M, by rw [f_X4_burn, (c_hasLetter h7).2 hout, Option.bind_some, if_pos rfl], by rw [f_X5_burn, hL, Option.bind_some, if_pos rfl], iv⟩
