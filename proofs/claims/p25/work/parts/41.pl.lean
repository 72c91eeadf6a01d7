/-! settings, roster, sets -/
theorem cz_ok_gs {s s' : Nat → Int32} {n W : Nat} {R : Nat → List Nat} (h : ∀ j, (j = 3 ∨ j = 4 ∨ 29 ≤ j ∨ (13 ≤ j ∧ (j - 13) % 4 = 3)) → s' j = s j) (hset : (∃ k, k ≤ 9 ∧ s' 0 = nI k) ∧ (∃ k, k ≤ 8 ∧ s' 1 = nI k) ∧ (∃ k, k ≤ 5 ∧ s' 2 = nI k)) (hro : ∀ k, k < 8 → ∃ c, c < 4 ∧ s' (5 + k) = nI c) (hst : ∀ c, c < 4 → ∃ S, S < 2 ^ 26 ∧ s' (13 + 4 * c) = nI S) (ok : cz_ok s n W R) : cz_ok s' n W R := by
  obtain ⟨⟨⟨hn, hs4, hW, hs3⟩, -, -, -, hrw, hle, htc⟩, hno⟩ := ok
  refine ⟨⟨⟨hn, (h 4 (by omega)).trans hs4, hW, (h 3 (by omega)).trans hs3⟩, hset, hro, hst, fun r hr => ?_, fun i hi => ?_, fun c hc => ?_⟩, fun i hi => ?_⟩
  · obtain ⟨l1, l2, l3, l4, l5⟩ := hrw r hr
    refine ⟨(h _ (by omega)).trans l1, l2, fun k hk => (h _ (by omega)).trans (l3 k hk), l4, fun i hi => ?_⟩
    have h5 := l5 i hi
    exact ⟨h5.1, (h _ (by omega)).trans h5.2.1, (h _ (by omega)).trans h5.2.2⟩
  · have := hle i hi
    unfold cz_le cz_lw at this ⊢
    rw [h (111 + 11 * i) (by omega), h (111 + 11 * i + 1) (by omega), h (111 + 11 * i + 2) (by omega), h (111 + 11 * i + 3) (by omega), h (111 + 11 * i + 4) (by omega), h (111 + 11 * i + 5) (by omega), h (111 + 11 * i + 6) (by omega), h (111 + 11 * i + 7) (by omega), h (111 + 11 * i + 8) (by omega), h (111 + 11 * i + 9) (by omega), h (111 + 11 * i + 10) (by omega)]
    exact this
  · rw [h _ (by omega)]; exact htc c hc
  · rw [h _ (by omega)]; exact hno i hi
theorem cz_rp_g {M M' : cz_M} {p n : Nat} {s s' : Nat → Int32} {R : Nat → List Nat} (hM : ∀ x, x = p ∨ p + 13 ≤ x → M'.1 x = M.1 x) (hM2 : M'.2.1 = M.2.1) (h : ∀ j, (j = 3 ∨ j = 4 ∨ 29 ≤ j) → s' j = s j) (h1 : ∀ k, k < 3 → M'.1 (p + 1) k = s' k) (h2 : ∀ k, k < 8 → M'.1 (p + 3) k = s' (5 + k)) (h3 : ∀ c, c < 4 → ∀ f, f < 4 → M'.1 (p + 2 + (7 + c)) f = s' (13 + 4 * c + f)) (hlw : ∀ j, j < n → cz_lw s j) (rp : cz_rp M p s n R) : cz_rp M' p s' n R := by
  obtain ⟨-, ⟨r2, r3⟩, -, -, r6, r7⟩ := rp
  refine ⟨h1, ⟨?_, ?_⟩, h2, h3, fun r hr => ?_, fun i hi => ?_⟩
  · rw [hM p (Or.inl rfl), h 3 (by omega)]; exact r2
  · rw [hM p (Or.inl rfl), h 4 (by omega)]; exact r3
  · unfold cz_rr
    rw [hM _ (by omega), hM _ (by omega)]
    exact r6 r hr
  · exact cz_rl_c (hM _ (by omega)) (by rw [hM2]) (fun f hf => h _ (by omega)) (h 3 (by omega)) (hlw i hi) (r7 i hi)
theorem cz_ok_lw {s : Nat → Int32} {n W : Nat} {R : Nat → List Nat} (ok : cz_ok s n W R) : ∀ j, j < n → cz_lw s j := fun j hj => (ok.1.2.2.2.2.2.1 j hj).1
/-- a setting is laid, on both sides -/
theorem o_lay {M : cz_M} {b k v : Nat} (hk : k < 3) (hv : v ≤ 9 ∧ (k = 1 → v ≤ 8) ∧ (k = 2 → v ≤ 5)) (iv : cz_iv b M) : ∃ y M1 M2, ((f_X4_remember M b).bind fun M9 => cz_gd (cz_ib (nI k) 3) (cz_lt (M9.1 ((b + 1) + 1) (Int32.toNatClampNeg (nI k))) fun v12 => cz_gd (cz_ib (nI k) 3) (cz_lt (cz_mI M9 ((b + 1) + 1) (Int32.toNatClampNeg (nI k)) (nI v)) fun M15 => some (v12, M15)))) = some (y, M1) ∧ f_X5_lays M1 (b + 461) (nI k) (nI v) = some (y, M2) ∧ cz_iv b M2 := by
  obtain ⟨now, hist, pc, slot, used, pad, len, wf, cv, rv⟩ := id iv
  obtain ⟨s, n, W, R⟩ := now
  obtain ⟨ok, hW9⟩ := wf.1
  have ok : cz_ok s n W R := ok
  have hok' : cz_sok (upd s k (nI v), n, W, R) := by
    show cz_ok (upd s k (nI v)) n W R ∧ W ≤ 9999
    refine ⟨cz_ok_gs (fun j hj => pk_un (by omega)) ?_ (fun i hi => ?_) (fun c hc => ?_) ok, hW9⟩
    · have h0 := ok.1.2.1
      refine ⟨?_, ?_, ?_⟩
      · by_cases h : k = 0
        · subst h; exact ⟨v, hv.1, pk_us⟩
        · rw [pk_un (Ne.symm h)]; exact h0.1
      · by_cases h : k = 1
        · subst h; exact ⟨v, hv.2.1 rfl, pk_us⟩
        · rw [pk_un (Ne.symm h)]; exact h0.2.1
      · by_cases h : k = 2
        · subst h; exact ⟨v, hv.2.2 rfl, pk_us⟩
        · rw [pk_un (Ne.symm h)]; exact h0.2.2
    · rw [pk_un (by omega)]; exact ok.1.2.2.1 i hi
    · rw [pk_un (by omega)]; exact ok.1.2.2.2.1 c hc
  obtain ⟨M1, f1, g1, hch⟩ := cz_change wf cv rv hok'
  have g1 : cz_rp M1 (b + 1) s n R := g1
  have g2 : cz_srp (cz_mI M1 (b + 1 + 1) k (nI v)) (b + 1) (upd s k (nI v), n, W, R) := by
    show cz_rp _ (b + 1) (upd s k (nI v)) n R
    refine cz_rp_g (fun x hx => cz_mI_o (by omega)) rfl (fun j hj => pk_un (by omega)) (fun i hi => ?_) (fun i hi => ?_) (fun c hc f hf => ?_) (cz_ok_lw ok) g1
    · rw [cz_mI_s]
      by_cases h : i = k
      · subst h; rw [pk_us, pk_us]
      · rw [pk_un h, pk_un h]; exact g1.1 i hi
    · rw [cz_mI_o (by omega), pk_un (by omega)]; exact g1.2.2.1 i hi
    · rw [cz_mI_o (by omega), pk_un (by omega)]; exact g1.2.2.2.1 c hc f hf
  obtain ⟨M3, f3, s3, q3, s2, hfin⟩ := hch (cz_mI M1 (b + 1 + 1) k (nI v)) (cz_fr.mI ⟨by omega, by omega⟩) g2
  have e4 : cz_fr (fun x => x = b + 461 + 1) M3 (cz_mI M3 (b + 461 + 1) k (nI v)) := cz_fr.mI rfl
  refine ⟨s k, cz_mI M1 (b + 1 + 1) k (nI v), cz_mI M3 (b + 461 + 1) k (nI v), ?_, ?_, hfin (cz_mI M3 (b + 461 + 1) k (nI v)) (e4.mono (fun x hx => Or.inl hx)) (by rw [cz_mI_s, s3]) (cz_fg_fr e4 (by omega) (by omega) q3)⟩
  · rw [f1, Option.bind_some, cz_gdn hk (by decide), cz_lt_e, cz_gdn hk (by decide), cz_lt_e, cz_cl (by omega), g1.1 k hk]
  · rw [f_X5_lays, f3, Option.bind_some, cz_gdn (by omega) (by decide), cz_lt_e, cz_gdn (by omega) (by decide), cz_lt_e, cz_cl (by omega), s3]
theorem o_set (M : cz_M) (b : Nat) (x y : Int32) (iv : cz_iv b M) : ∃ v M1 M2, f_X4_set M b x y = some (v, M1) ∧ f_X5_set M1 (b + 461) x y = some (v, M2) ∧ cz_iv b M2 := by
  have key : ∀ (k lo hi : Nat), k < 3 → lo ≤ hi → hi ≤ 9 → (k = 1 → hi ≤ 8) → (k = 2 → hi ≤ 5) → cz_tL k = nI lo → cz_tM k = nI hi → (∀ A, f_X5_set A (b + 461) (nI k) y = if y < nI lo then some ((-2 : Int32), A) else if nI hi < y then some ((-2 : Int32), A) else f_X5_lays A (b + 461) (nI k) y) → ∃ v M1 M2, f_X4_set M b (nI k) y = some (v, M1) ∧ f_X5_set M1 (b + 461) (nI k) y = some (v, M2) ∧ cz_iv b M2 := by
    intro k lo hi hk hlh h9 h8 h5 hL hM hm
    rw [f_X4_set, if_neg (nI_nlt (Nat.zero_le _) (by omega)), if_pos (nI_lt hk (by decide)), cz_gdn hk (by decide), cz_cl (show k < 2 ^ 31 by omega), hL, cz_gdn hk (by decide), hM]
    by_cases h1 : y < nI lo
    · rw [if_pos h1]
      exact ⟨_, _, M, rfl, by rw [hm, if_pos h1], iv⟩
    · rw [if_neg h1]
      by_cases h2 : nI hi < y
      · rw [if_neg (cz_lt_not h2)]
        exact ⟨_, _, M, rfl, by rw [hm, if_neg h1, if_pos h2], iv⟩
      · rw [if_pos (cz_not_lt h2)]
        obtain ⟨v, hv1, hv2, rfl⟩ := cz_btw (by omega) h1 h2 hlh
        obtain ⟨z, M1, M2, a1, a2, a3⟩ := o_lay (k := k) (v := v) hk ⟨by omega, fun h => by have := h8 h; omega, fun h => by have := h5 h; omega⟩ iv
        rw [cz_cl (show k < 2 ^ 31 by omega)] at a1
        exact ⟨z, M1, M2, a1, by rw [hm, if_neg h1, if_neg h2]; exact a2, a3⟩
  have fin : ∀ (A : cz_M) (lo hi : Int32) (L : Option (Int32 × cz_M)), ((f_X5_in y lo hi).bind fun v19 => if v19 = nI 0 then (some ((-2 : Int32), A)) else L) = if y < lo then some ((-2 : Int32), A) else if hi < y then some ((-2 : Int32), A) else L := by
    intro A lo hi L
    rw [m_in, Option.bind_some]
    by_cases h1 : y < lo
    · rw [if_pos h1, if_pos h1, if_pos rfl]
    · rw [if_neg h1, if_neg h1]
      by_cases h2 : hi < y
      · rw [if_pos h2, if_pos h2, if_pos rfl]
      · rw [if_neg h2, if_neg h2, if_neg (by decide)]
  have b2e : ∀ (o : Option (Int32 × cz_M)), (cz_b2 o fun v22 M21 => some (v22, M21)) = o := fun o => by
    cases o with
    | none => rfl
    | some p => rfl
  rcases cz_rng x 3 (by decide) with ⟨k, hk, rfl⟩ | h | h
  · rcases (show k = 0 ∨ k = 1 ∨ k = 2 by omega) with rfl | rfl | rfl
    · exact key 0 1 9 (by decide) (by decide) (by decide) (by decide) (by decide) rfl rfl (fun A => by rw [f_X5_set, if_pos rfl, b2e, fin])
    · exact key 1 0 8 (by decide) (by decide) (by decide) (by decide) (by decide) rfl rfl (fun A => by rw [f_X5_set, if_neg (by decide), if_pos rfl, b2e, fin])
    · exact key 2 1 5 (by decide) (by decide) (by decide) (by decide) (by decide) rfl rfl (fun A => by
        rw [f_X5_set, if_neg (by decide), if_neg (by decide), if_pos rfl, if_pos rfl, if_neg (show nI 1 ≠ nI 0 by decide), b2e, fin])
  · have hne : ∀ j, j < 3 → x ≠ nI j := fun j hj z => by rw [z] at h; exact absurd h (nI_pos (by omega))
    refine ⟨_, M, M, by rw [f_X4_set, if_pos (by rw [cz_l0] at h; exact h)], ?_, iv⟩
    rw [f_X5_set, if_neg (hne 0 (by decide)), if_neg (hne 1 (by decide)), if_neg (hne 2 (by decide)), if_pos rfl]
  · have hne : ∀ j, j < 3 → x ≠ nI j := fun j hj z => by rw [z] at h; exact absurd h (nI_ge hj (by omega))
    refine ⟨_, M, M, by rw [f_X4_set, if_neg (fun z => by
      rw [Int32.lt_iff_toInt_lt] at z
      rw [Int32.le_iff_toInt_le] at h
      have e3 : (nI 3).toInt = 3 := by decide
      have e0 : (nI 0).toInt = 0 := by decide
      omega), if_neg (fun z => cz_lt_not z h)], ?_, iv⟩
    rw [f_X5_set, if_neg (hne 0 (by decide)), if_neg (hne 1 (by decide)), if_neg (hne 2 (by decide)), if_pos rfl]
