/-! the law's look at all that is told -/
theorem l_bits : ∀ m, m < 32 → f_L_bits (nI m) = some (nI (cz_pc m)) := by decide +kernel
theorem cz_sf_4 {s : Nat → Int32} (h : ∀ k, k < 8 → ∃ c, c < 4 ∧ s (5 + k) = nI c) : ∀ k, k ≤ 8 → cz_sf s 0 k + cz_sf s 1 k + cz_sf s 2 k + cz_sf s 3 k = k
  | 0, _ => rfl
  | k + 1, hk => by
    have ih := cz_sf_4 h k (by omega)
    obtain ⟨c, hc, hce⟩ := h k (by omega)
    have e : ∀ q, q < 4 → cz_sf s q (k + 1) = cz_sf s q k + (if q = c then 1 else 0) := fun q hq => by
      have e0 : cz_sf s q (k + 1) = cz_sf s q k + (if s (5 + k) = nI q then 1 else 0) := rfl
      rw [e0, hce]
      by_cases h : q = c
      · rw [if_pos h, if_pos (by rw [h])]
      · rw [if_neg h, if_neg (fun z => h (cz_nI_inj (by omega) (by omega) z).symm)]
    rw [e 0 (by decide), e 1 (by decide), e 2 (by decide), e 3 (by decide)]
    rcases (show c = 0 ∨ c = 1 ∨ c = 2 ∨ c = 3 by omega) with rfl | rfl | rfl | rfl <;> simp <;> omega
section LC
variable {b : Nat} {M : cz_M} {s : Nat → Int32} {n W : Nat} {R : Nat → List Nat} {hist : Nat → cz_S} {pc : Nat} {slot : Nat → cz_S} {used pad : Nat → Nat} {len : Nat}
theorem l_cens (J : cz_J b M (s, n, W, R) hist pc slot used pad len) (hg : cz_gx (s, n, W, R)) (x2 x3 x4 x5 x8 : Int32) (f0 f1 : Nat → Int32) (K : Int32 → Int32 → (Nat → Int32) → (Nat → Int32) → Option (Int32 × cz_M)) :
    cz_it4 (f_L_holds_L221 b x2 x3 x4 x5 x8 M K) 4096 (nI 0) (nI 0) f0 f1 = K (nI 8) (nI 4) f0 f1 := by
  have ok := k_ok J
  have hW9 := k_W J
  have st : ∀ c x (rec : Int32 → Int32 → (Nat → Int32) → (Nat → Int32) → Option (Int32 × cz_M)), c < 4 → f_L_holds_L221 b x2 x3 x4 x5 x8 M K rec (nI x) (nI c) f0 f1 = rec (nI (x + cz_sf s c 8)) (nI (c + 1)) f0 f1 := fun c x rec hc => by
    obtain ⟨e0, e1, e2, e4⟩ := k_censor J hc
    obtain ⟨S, hS, hSe⟩ := ok.1.2.2.2.1 c hc
    obtain ⟨t, q, h1, h2, h3, h4⟩ := hg.2 c hc
    have h2 : q ≤ 18 * W := h2
    have h3 : s (13 + 4 * c + 3) = nI t := h3
    have h4 : s (13 + 4 * c + 1) = nI q := h4
    rw [f_L_holds_L221, if_neg (nI_ge hc (by decide)), e1, Option.bind_some, cz_lt_e, e0, hSe, Option.bind_some, if_neg (nI_nlt (Nat.zero_le _) (by omega)), e4, h3, Option.bind_some, e2, h4, Option.bind_some, if_neg (nI_nlt h1 (by omega)), k_censor4, Option.bind_some, if_pos rfl, cz_lt_e, nI_add, nI_add]
  have h8 := cz_sf_4 ok.1.2.2.1 8 (Nat.le_refl _)
  show f_L_holds_L221 b x2 x3 x4 x5 x8 M K (cz_it4 (f_L_holds_L221 b x2 x3 x4 x5 x8 M K) 4095) (nI 0) (nI 0) f0 f1 = _
  rw [st 0 0 _ (by decide)]
  show f_L_holds_L221 b x2 x3 x4 x5 x8 M K (cz_it4 (f_L_holds_L221 b x2 x3 x4 x5 x8 M K) 4094) (nI (0 + cz_sf s 0 8)) (nI 1) f0 f1 = _
  rw [st 1 _ _ (by decide)]
  show f_L_holds_L221 b x2 x3 x4 x5 x8 M K (cz_it4 (f_L_holds_L221 b x2 x3 x4 x5 x8 M K) 4093) (nI (0 + cz_sf s 0 8 + cz_sf s 1 8)) (nI 2) f0 f1 = _
  rw [st 2 _ _ (by decide)]
  show f_L_holds_L221 b x2 x3 x4 x5 x8 M K (cz_it4 (f_L_holds_L221 b x2 x3 x4 x5 x8 M K) 4092) (nI (0 + cz_sf s 0 8 + cz_sf s 1 8 + cz_sf s 2 8)) (nI 3) f0 f1 = _
  rw [st 3 _ _ (by decide)]
  show f_L_holds_L221 b x2 x3 x4 x5 x8 M K (cz_it4 (f_L_holds_L221 b x2 x3 x4 x5 x8 M K) 4091) (nI (0 + cz_sf s 0 8 + cz_sf s 1 8 + cz_sf s 2 8 + cz_sf s 3 8)) (nI 4) f0 f1 = _
  rw [f_L_holds_L221, if_pos (nI_le (Nat.le_refl _) (by decide)), show 0 + cz_sf s 0 8 + cz_sf s 1 8 + cz_sf s 2 8 + cz_sf s 3 8 = 8 by omega]
set_option maxHeartbeats 2000000 in
theorem l_told (J : cz_J b M (s, n, W, R) hist pc slot used pad len) (hg : cz_gx (s, n, W, R)) : ∃ M', f_L_holds M b = some (nI 1, M') ∧ cz_J b M' (s, n, W, R) hist pc slot used pad len := by
  have ok := k_ok J
  have hn := ok.1.1.1
  obtain ⟨M1, g0, g1, J1, a0, a1, e⟩ := l_holdsL (b := b) hg n 0 4096 M (fun _ => 0) (fun _ => 0) (by omega) (by omega) J (fun q hq => rfl) (fun q hq => rfl)
  have e : ∀ K, cz_it9 (f_L_holds_L55 b (nI n) K) 4096 (nI 0) (nI 0) (nI 0) (nI 0) (nI 0) (nI 0) (fun _ => 0) (fun _ => 0) M = K (cz_sd s n) (cz_sM s n) (nI (cz_sw s n)) (nI (cz_tw s n)) (nI (cz_pR R n)) (nI n) g0 g1 M1 := e
  obtain ⟨M2, f13, J2⟩ := k_count13 J1
  have r0 := ok.1.2.2.2.2.1 0 (by decide)
  have r1 := ok.1.2.2.2.2.1 1 (by decide)
  have m0 := cz_mq_n (n := n) r0.2.2.2.1 (fun i hi => (r0.2.2.2.2 i hi).1)
  have m1 := cz_mq_n (n := n) r1.2.2.2.1 (fun i hi => (r1.2.2.2.2 i hi).1)
  have htw := (cz_tw_p ok n (Nat.le_refl _)).1
  have b0 : g1 0 = nI (R 0).length := (a1 0 (by decide)).trans (by rw [m0.1])
  have b1 : g1 1 = nI (R 1).length := (a1 1 (by decide)).trans (by rw [m1.1])
  have hpl : nI (cz_pR R n) = (nI (R 0).length * (nI (R 0).length - nI 1)) / nI 2 + (nI (R 1).length * (nI (R 1).length - nI 1)) / nI 2 := by
    rw [cz_tri _ r0.2.1, cz_tri _ r1.2.1, nI_add]
    show nI (cz_mq (cz_ix (R 0)) (R 0) n + cz_mq (cz_ix (R 1)) (R 1) n) = _
    rw [m0.2, m1.2]
  refine ⟨M2, ?_, J2⟩
  rw [f_L_holds, k_count4 J, cz_b2_s, cz_lt_e, cz_lt_e, k_letter_n J, Option.bind_some, if_pos rfl, if_neg (nI_nlt hn (by decide)), e, l_cens J1 hg, if_pos rfl,
    cz_gdn (by decide) (by decide), k_count5 J1, cz_b2_s, cz_cl (show 0 < 2 ^ 31 by decide), if_pos (a0 0 (by decide)),
    cz_gdn (by decide) (by decide), k_count6 J1, cz_b2_s, cz_cl (show 1 < 2 ^ 31 by decide), if_pos (a0 1 (by decide)),
    cz_gdn (by decide) (by decide), k_count7 J1, cz_b2_s, cz_cl (show 2 < 2 ^ 31 by decide), if_pos (a0 2 (by decide)),
    cz_gdn (by decide) (by decide), k_count8 J1, cz_b2_s, if_pos b0,
    cz_gdn (by decide) (by decide), k_count9 J1, cz_b2_s, if_pos b1,
    cz_gdn (by decide) (by decide), cz_gdn (by decide) (by decide), cz_gdn (by decide) (by decide), cz_gdn (by decide) (by decide), b0, b1, if_pos hpl,
    k_count10 J1, cz_b2_s, if_pos rfl, k_count11 J1, cz_b2_s, if_pos rfl, k_count12 J1, cz_b2_s, if_pos rfl, l_bits _ htw, Option.bind_some, f13, cz_b2_s, if_pos rfl]
end LC
