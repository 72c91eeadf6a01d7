/-! recording, on both sides -/
/-- the class view, when one block of the pasts gets now -/
theorem c_rem1 {M : cz_M} {b j : Nat} {π : Nat → Nat} {now : cz_S} {hist : Nat → cz_S} {pc : Nat} {slot : Nat → cz_S} {used pad : Nat → Nat} {len : Nat} (wf : cz_wq now hist pc slot used pad len) (hj : j < 4) (c1 : cz_srp M (b + 1) now) (h6 : M.1 b 6 = nI j) (hp1 : ∀ i, i < 4 → π i < 4 ∧ M.2.2 i = b + 119 + 57 * π i) (hp2 : ∀ i j, i < 4 → j < 4 → π i = π j → i = j)
    (hist' : Nat → cz_S) (hh : ∀ i, i < j → cz_sok (hist' i) ∧ cz_srp M (M.2.2 i) (hist' i)) (hhj : hist' j = now) (c5 : ∀ i, i < 2 → M.1 (b + 117) i = nI (used i) ∧ (used i = 1 → cz_srp M (b + 116 + (231 + 57 * i)) (slot i))) (c6 : M.1 b 7 = nI len) (c7 : ∀ k, k < len → M.1 (b + 118) k = nI (pad k)) :
    ∃ M', (f_X2_copyFrom M (M.2.2 (Int32.toNatClampNeg (M.1 b 6))) (b + 1)).bind (fun M5 => cz_lt (cz_mI M5 b 6 ((M5.1 b 6) + (nI 1))) fun M6 => some M6) = some M' ∧ cz_cv b M' now hist' (j + 1) slot used pad len ∧ cz_fw (fun x => b ≤ x ∧ x < b + 461) M M' := by
  have hpj := hp1 j hj
  have hn : now.2.1 ≤ 40 := wf.1.1.1.1.1
  rw [h6, cz_cl (by omega)]
  obtain ⟨M5, f5, g5, e5⟩ := c_copy M (M.2.2 j) (b + 1) (n := now.2.1) (s := now.1) (R := now.2.2.2) (by rw [hpj.2]; omega) hn wf.1.1.1.1.2.1 (fun r hr => (wf.1.1.1.2.2.2.2.1 r hr).2.1) c1
  have eD : ∀ x, x < b + 119 + 57 * π j ∨ b + 119 + 57 * π j + 57 ≤ x → M5.1 x = M.1 x ∧ M5.2.1 x = M.2.1 x := fun x hx => e5.1 x (by rw [hpj.2]; omega)
  have hb5 : M5.1 b = M.1 b := (eD b (by omega)).1
  have hxo : ∀ x, x ≠ b → (cz_mI M5 b 6 ((M5.1 b 6) + (nI 1))).1 x = M5.1 x := fun x hx => cz_mI_o hx
  refine ⟨cz_mI M5 b 6 ((M5.1 b 6) + (nI 1)), by rw [f5]; rfl, ⟨?_, ?_, ⟨π, fun i hi => ⟨(hp1 i hi).1, ?_⟩, hp2⟩, fun i hi => ?_, fun i hi => ?_, ?_, fun k hk => ?_⟩, fun x hx => ?_⟩
  · exact cz_srp_w (fun x h1 h2 => ⟨(hxo x (by omega)).trans (eD x (by omega)).1, (eD x (by omega)).2⟩) hn c1
  · rw [cz_mI_s, pk_us, hb5, h6, nI_add]
  · show M5.2.2 i = _
    rw [e5.2]
    exact (hp1 i hi).2
  · show cz_srp _ (M5.2.2 i) (hist' i)
    rw [e5.2]
    by_cases hij : i = j
    · subst hij
      rw [hhj]
      exact cz_srp_w (A := now) (fun x h1 h2 => ⟨hxo x (by rw [hpj.2] at h1; omega), rfl⟩) hn g5
    · have hpi := hp1 i (by omega)
      have hne : π i ≠ π j := fun z => hij (hp2 i j (by omega) hj z)
      have hhi := hh i (by omega)
      refine cz_srp_w (fun x h1 h2 => ?_) hhi.1.1.1.1.1 hhi.2
      rw [hpi.2] at h1 h2
      have h8 := eD x (by omega)
      exact ⟨(hxo x (by omega)).trans h8.1, h8.2⟩
  · have h9 : (cz_mI M5 b 6 ((M5.1 b 6) + (nI 1))).1 (b + 117) = M.1 (b + 117) := (hxo _ (by omega)).trans (eD _ (by omega)).1
    rw [h9]
    refine ⟨(c5 i hi).1, fun hu => cz_srp_w (fun x h1 h2 => ?_) ((wf.2.2.1 i hi).2 hu).1.1.1.1 ((c5 i hi).2 hu)⟩
    have h8 := eD x (by omega)
    exact ⟨(hxo x (by omega)).trans h8.1, h8.2⟩
  · rw [cz_mI_s, pk_un (by decide), hb5, c6]
  · rw [hxo _ (by omega), (eD _ (by omega)).1]
    exact c7 k hk
  · have h8 := eD x (by omega)
    exact ⟨(hxo x (by omega)).trans h8.1, h8.2⟩
theorem c_remember (M : cz_M) (b : Nat) {now : cz_S} {hist : Nat → cz_S} {pc : Nat} {slot : Nat → cz_S} {used pad : Nat → Nat} {len : Nat} (wf : cz_wq now hist pc slot used pad len) (cv : cz_cv b M now hist pc slot used pad len) :
    ∃ M', f_X4_remember M b = some M' ∧ cz_cv b M' now (cz_hp hist pc now) (cz_hc pc) slot used pad len ∧ cz_fw (fun x => b ≤ x ∧ x < b + 461) M M' := by
  obtain ⟨c1, c2, ⟨π, hp1, hp2⟩, c4, c5, c6, c7⟩ := cv
  have wf0 := wf
  obtain ⟨w1, ⟨w2, w3⟩, w4, w5⟩ := wf
  rw [f_X4_remember, c2]
  by_cases h4 : pc = 4
  · subst h4
    rw [if_pos rfl, cz_gdn (by decide) (by decide), cz_lt_e, cz_cl (show 0 < 2 ^ 31 by decide)]
    generalize hM4 : cz_mI (cz_mP (cz_mP (cz_mP (cz_mP M 0 (M.2.2 1)) 1 (M.2.2 2)) 2 (M.2.2 3)) 3 (M.2.2 0)) b 6 (nI 3) = M4
    have p0 : M4.2.2 0 = M.2.2 1 := by rw [← hM4]; rfl
    have p1 : M4.2.2 1 = M.2.2 2 := by rw [← hM4]; rfl
    have p2 : M4.2.2 2 = M.2.2 3 := by rw [← hM4]; rfl
    have p3 : M4.2.2 3 = M.2.2 0 := by rw [← hM4]; rfl
    have hb6 : M4.1 b 6 = nI 3 := by rw [← hM4, cz_mI_s, pk_us]
    have hb7 : M4.1 b 7 = M.1 b 7 := by rw [← hM4, cz_mI_s, pk_un (by decide)]; rfl
    have hx : ∀ x, x ≠ b → M4.1 x = M.1 x := fun x hx => by rw [← hM4, cz_mI_o hx]; rfl
    have hl : M4.2.1 = M.2.1 := by rw [← hM4]; rfl
    have hrun : cz_it2 (f_X4_remember_L17 b (M.2.2 0) (fun x18 M19 => cz_gd (cz_ib (nI 3) 4) (cz_lt (cz_mP M19 (Int32.toNatClampNeg (nI 3)) (M.2.2 0)) fun M21 => cz_lt (cz_mI M21 b 6 ((M21.1 b 6) - (nI 1))) fun M22 => cz_gd (cz_ib (M22.1 b 6) 4) ((f_X2_copyFrom M22 (M22.2.2 (Int32.toNatClampNeg (M22.1 b 6))) (b + 1)).bind fun M26 => cz_lt (cz_mI M26 b 6 ((M26.1 b 6) + (nI 1))) fun M27 => some M27)))) 4096 (nI 1) M = (f_X2_copyFrom M4 (M4.2.2 (Int32.toNatClampNeg (M4.1 b 6))) (b + 1)).bind (fun M5 => cz_lt (cz_mI M5 b 6 ((M5.1 b 6) + (nI 1))) fun M6 => some M6) := by
      generalize hK : (fun (x18 : Int32) (M19 : cz_M) => cz_gd (cz_ib (nI 3) 4) (cz_lt (cz_mP M19 (Int32.toNatClampNeg (nI 3)) (M.2.2 0)) fun M21 => cz_lt (cz_mI M21 b 6 ((M21.1 b 6) - (nI 1))) fun M22 => cz_gd (cz_ib (M22.1 b 6) 4) ((f_X2_copyFrom M22 (M22.2.2 (Int32.toNatClampNeg (M22.1 b 6))) (b + 1)).bind fun M26 => cz_lt (cz_mI M26 b 6 ((M26.1 b 6) + (nI 1))) fun M27 => some M27))) = K
      have st : ∀ (k : Nat) (m : cz_M) (rec : Int32 → cz_M → Option cz_M), 1 ≤ k → k < 4 → f_X4_remember_L17 b (M.2.2 0) K rec (nI k) m = rec (nI (k + 1)) (cz_mP m (k - 1) (m.2.2 k)) := fun k m rec h1 h2 => by
        rw [f_X4_remember_L17, if_neg (nI_ge h2 (by decide)), cz_gdn h2 (by decide), cz_subN h1, cz_gdn (by omega) (by decide), cz_cl (by omega), cz_cl (by omega), cz_lt_e, cz_lt_e, nI_add]
      show f_X4_remember_L17 b (M.2.2 0) K (cz_it2 (f_X4_remember_L17 b (M.2.2 0) K) 4095) (nI 1) M = _
      rw [st 1 _ _ (by decide) (by decide)]
      show f_X4_remember_L17 b (M.2.2 0) K (cz_it2 (f_X4_remember_L17 b (M.2.2 0) K) 4094) (nI 2) _ = _
      rw [st 2 _ _ (by decide) (by decide)]
      show f_X4_remember_L17 b (M.2.2 0) K (cz_it2 (f_X4_remember_L17 b (M.2.2 0) K) 4093) (nI 3) _ = _
      rw [st 3 _ _ (by decide) (by decide)]
      show f_X4_remember_L17 b (M.2.2 0) K (cz_it2 (f_X4_remember_L17 b (M.2.2 0) K) 4092) (nI 4) _ = _
      rw [f_X4_remember_L17, if_pos (nI_le (Nat.le_refl _) (by decide)), ← hK]
      dsimp only
      rw [cz_gdn (by decide) (by decide), cz_lt_e, cz_cl (show 3 < 2 ^ 31 by decide), cz_lt_e]
      have e3 : (nI 4 : Int32) - nI 1 = nI 3 := by decide
      have hm : cz_mI (cz_mP (cz_mP (cz_mP (cz_mP M (1 - 1) (M.2.2 1)) (2 - 1) ((cz_mP M (1 - 1) (M.2.2 1)).2.2 2)) (3 - 1) ((cz_mP (cz_mP M (1 - 1) (M.2.2 1)) (2 - 1) ((cz_mP M (1 - 1) (M.2.2 1)).2.2 2)).2.2 3)) 3 (M.2.2 0)) b 6 ((cz_mP (cz_mP (cz_mP (cz_mP M (1 - 1) (M.2.2 1)) (2 - 1) ((cz_mP M (1 - 1) (M.2.2 1)).2.2 2)) (3 - 1) ((cz_mP (cz_mP M (1 - 1) (M.2.2 1)) (2 - 1) ((cz_mP M (1 - 1) (M.2.2 1)).2.2 2)).2.2 3)) 3 (M.2.2 0)).1 b 6 - nI 1) = M4 := by
        rw [← hM4]
        have e5 : (cz_mP (cz_mP (cz_mP (cz_mP M (1 - 1) (M.2.2 1)) (2 - 1) ((cz_mP M (1 - 1) (M.2.2 1)).2.2 2)) (3 - 1) ((cz_mP (cz_mP M (1 - 1) (M.2.2 1)) (2 - 1) ((cz_mP M (1 - 1) (M.2.2 1)).2.2 2)).2.2 3)) 3 (M.2.2 0)).1 b 6 = nI 4 := c2
        rw [e5, e3]
        rfl
      rw [hm, hb6, cz_gdn (by decide) (by decide)]
    rw [hrun]
    obtain ⟨M', f', g', e'⟩ := c_rem1 (M := M4) (b := b) (j := 3) (π := fun i => if i = 3 then π 0 else π (i + 1)) wf0 (by decide) (cz_srp_w (fun x h1 h2 => ⟨hx x (by omega), by rw [hl]⟩) w1.1.1.1.1 c1) hb6
      (fun i hi => by
        rcases (show i = 0 ∨ i = 1 ∨ i = 2 ∨ i = 3 by omega) with rfl | rfl | rfl | rfl
        · rw [p0]; exact hp1 1 (by decide)
        · rw [p1]; exact hp1 2 (by decide)
        · rw [p2]; exact hp1 3 (by decide)
        · rw [p3]; exact hp1 0 (by decide))
      (fun i j hi hj hij => by
        by_cases h3 : i = 3
        · by_cases h3' : j = 3
          · omega
          · rw [if_pos h3, if_neg h3'] at hij
            have := hp2 0 (j + 1) (by decide) (by omega) hij
            omega
        · by_cases h3' : j = 3
          · rw [if_neg h3, if_pos h3'] at hij
            have := hp2 (i + 1) 0 (by omega) (by decide) hij
            omega
          · rw [if_neg h3, if_neg h3'] at hij
            have := hp2 (i + 1) (j + 1) (by omega) (by omega) hij
            omega)
      (cz_hp hist 4 now)
      (fun i hi => by
        have e : cz_hp hist 4 now i = hist (i + 1) := by
          unfold cz_hp
          rw [if_pos rfl]
          exact if_neg (by omega)
        have ep : M4.2.2 i = M.2.2 (i + 1) := by
          rcases (show i = 0 ∨ i = 1 ∨ i = 2 by omega) with rfl | rfl | rfl
          · exact p0
          · exact p1
          · exact p2
        rw [e, ep]
        have hpi := (hp1 (i + 1) (by omega)).2
        refine ⟨w3 _ (by omega), cz_srp_w (fun x h1 h2 => ⟨hx x (by rw [hpi] at h1; omega), by rw [hl]⟩) (w3 _ (by omega)).1.1.1.1 (c4 (i + 1) (by omega))⟩)
      (by unfold cz_hp; rw [if_pos rfl]; exact if_pos rfl)
      (fun i hi => by
        rw [hx _ (by omega)]
        exact ⟨(c5 i hi).1, fun hu => cz_srp_w (fun x h1 h2 => ⟨hx x (by omega), by rw [hl]⟩) ((w4 i hi).2 hu).1.1.1.1 ((c5 i hi).2 hu)⟩)
      (hb7.trans c6) (fun k hk => by rw [hx _ (by omega)]; exact c7 k hk)
    refine ⟨M', f', g', fun x hx2 => ?_⟩
    have := e' x hx2
    rw [hx x (by omega), hl] at this
    exact this
  · rw [if_neg (fun z => h4 (cz_nI_inj (by omega) (by omega) z)), cz_gdn (by omega) (by decide)]
    obtain ⟨M', f', g', e'⟩ := c_rem1 (M := M) (b := b) (j := pc) (π := π) wf0 (by omega) c1 c2 hp1 hp2 (cz_hp hist pc now)
      (fun i hi => by
        have e : cz_hp hist pc now i = hist i := by
          unfold cz_hp
          rw [if_neg h4]
          exact if_neg (by omega)
        rw [e]
        exact ⟨w3 i hi, c4 i hi⟩)
      (by unfold cz_hp; rw [if_neg h4]; exact if_pos rfl) c5 c6 c7
    refine ⟨M', by rw [← c2]; exact f', ?_, e'⟩
    unfold cz_hc
    rw [if_neg h4]
    exact g'
