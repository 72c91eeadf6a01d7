/-! how often letters were turned back, by all censors -/
theorem cz_tc_wk {s : Nat → Int32} {n W x : Nat} {R : Nat → List Nat} (ok : cz_ok s n W R) (hx : x < 4) : ∃ d, d ≤ 18 ∧ cz_wK s n W R (13 + 4 * x + 3) = s (13 + 4 * x + 3) + nI d := by
  obtain ⟨n0, n1, n2, q0, q1, q2⟩ := cz_ok_no ok.1
  obtain ⟨-, -, -, -, hrw, -⟩ := ok.1
  have l2 := (hrw 0 (by decide)).2.1
  have r2 := (hrw 1 (by decide)).2.1
  obtain ⟨d0, hd0, e0⟩ := cz_go_tc (w := cz_wt s) (s := s) (u := fun _ => nI 0) (rdm := cz_no s 0) n0 hx (R 0) (0, s, fun _ => nI 0) (Nat.zero_le _)
  obtain ⟨d1, hd1, e1⟩ := cz_go_tc (w := cz_wt s) (s := s) (u := fun _ => nI 0) (rdm := cz_no s 0) n1 hx (R 1) (0, (cz_gt (cz_wt s) 0 (cz_no s (5 + 2 * (W % 4))) (cz_no s 0) (R 0) (s, fun _ => nI 0)).1, (cz_gt (cz_wt s) 0 (cz_no s (5 + 2 * (W % 4))) (cz_no s 0) (R 0) (s, fun _ => nI 0)).2) (Nat.zero_le _)
  have hw1 : (cz_wA s W R).1 (13 + 4 * x + 3) = (cz_go (cz_wt s) (cz_no s (5 + 2 * (W % 4) + 1)) (cz_no s 0) (R 1) (0, (cz_gt (cz_wt s) 0 (cz_no s (5 + 2 * (W % 4))) (cz_no s 0) (R 0) (s, fun _ => nI 0)).1, (cz_gt (cz_wt s) 0 (cz_no s (5 + 2 * (W % 4))) (cz_no s 0) (R 0) (s, fun _ => nI 0)).2)).2.1 (13 + 4 * x + 3) := cz_gt_l (by decide) r2 (Or.inl (by omega))
  have h0l : (cz_gt (cz_wt s) 0 (cz_no s (5 + 2 * (W % 4))) (cz_no s 0) (R 0) (s, fun _ => nI 0)).1 (13 + 4 * x + 3) = (cz_go (cz_wt s) (cz_no s (5 + 2 * (W % 4))) (cz_no s 0) (R 0) (0, s, fun _ => nI 0)).2.1 (13 + 4 * x + 3) := cz_gt_l (by decide) l2 (Or.inl (by omega))
  refine ⟨d0 + d1, by dsimp only at hd0 hd1; omega, ?_⟩
  unfold cz_wK
  rw [cz_fi_o _ _ _ (by omega), pk_un (by omega), hw1, e1]
  dsimp only
  rw [h0l, e0]
  dsimp only
  rw [Int32.add_assoc, nI_add]
def cz_tt (s : Nat → Int32) : Nat := cz_no s 16 + cz_no s 20 + cz_no s 24 + cz_no s 28
theorem cz_ok_tc {s : Nat → Int32} {n W c : Nat} {R : Nat → List Nat} (ok : cz_ok s n W R) (hc : c < 4) : s (13 + 4 * c + 3) = nI (cz_no s (13 + 4 * c + 3)) ∧ cz_no s (13 + 4 * c + 3) ≤ 18 * W := by
  obtain ⟨t, ht, hte⟩ := ok.1.2.2.2.2.2.2 c hc
  have hW := ok.1.1.2.2.1
  rw [cz_no_e hte (by omega)]
  exact ⟨hte, ht⟩
theorem cz_tt_le {s : Nat → Int32} {n W : Nat} {R : Nat → List Nat} (ok : cz_ok s n W R) : cz_tt s < 2 ^ 31 := by
  have h0 := (cz_ok_tc ok (show 0 < 4 by decide)).2
  have h1 := (cz_ok_tc ok (show 1 < 4 by decide)).2
  have h2 := (cz_ok_tc ok (show 2 < 4 by decide)).2
  have h3 := (cz_ok_tc ok (show 3 < 4 by decide)).2
  have hW := ok.1.1.2.2.1
  have h0 : cz_no s 16 ≤ 18 * W := h0
  have h1 : cz_no s 20 ≤ 18 * W := h1
  have h2 : cz_no s 24 ≤ 18 * W := h2
  have h3 : cz_no s 28 ≤ 18 * W := h3
  unfold cz_tt
  omega
theorem cz_tt_wk {s : Nat → Int32} {n W : Nat} {R : Nat → List Nat} (ok : cz_ok s n W R) (hW1 : W + 1 < 2 ^ 20) : cz_tt s ≤ cz_tt (cz_wK s n W R) := by
  have hW := ok.1.1.2.2.1
  have key : ∀ c, c < 4 → cz_no s (13 + 4 * c + 3) ≤ cz_no (cz_wK s n W R) (13 + 4 * c + 3) := fun c hc => by
    obtain ⟨d, hd, he⟩ := cz_tc_wk ok hc
    obtain ⟨h1, h2⟩ := cz_ok_tc ok hc
    rw [h1, nI_add] at he
    rw [cz_no_e he (by omega)]
    omega
  have h0 : cz_no s 16 ≤ cz_no (cz_wK s n W R) 16 := key 0 (by decide)
  have h1 : cz_no s 20 ≤ cz_no (cz_wK s n W R) 20 := key 1 (by decide)
  have h2 : cz_no s 24 ≤ cz_no (cz_wK s n W R) 24 := key 2 (by decide)
  have h3 : cz_no s 28 ≤ cz_no (cz_wK s n W R) 28 := key 3 (by decide)
  unfold cz_tt
  omega
theorem cz_tt_mono {s : Nat → Int32} {n W : Nat} {R : Nat → List Nat} (ok : cz_ok s n W R) : ∀ (d k : Nat), W + (k + d) < 2 ^ 20 → cz_tt (cz_sk s n W R k).1 ≤ cz_tt (cz_sk s n W R (k + d)).1
  | 0, k, _ => Nat.le_refl _
  | d + 1, k, h => by
    have h1 := cz_tt_mono ok d k (by omega)
    have h2 := cz_tt_wk (cz_ok_sk ok (k + d) (by omega)) (by omega)
    exact Nat.le_trans h1 h2
theorem c_turned {M : cz_M} {p n W : Nat} {s : Nat → Int32} {R : Nat → List Nat} (ok : cz_ok s n W R) (rp : cz_rp M p s n R) : f_X2_lettersTurnedByAll M p = some (nI (cz_tt s)) := by
  have hv : ∀ c, c < 4 → M.1 (p + 2 + (7 + c)) 3 = nI (cz_no s (13 + 4 * c + 3)) := fun c hc => (rp.2.2.2.1 c hc 3 (by decide)).trans (cz_ok_tc ok hc).1
  have st : ∀ (c : Nat) (x : Int32) (K : Int32 → Int32 → Option Int32) (rec : Int32 → Int32 → Option Int32), c < 4 → f_X2_lettersTurnedByAll_L4 p M K rec x (nI c) = rec (x + nI (cz_no s (13 + 4 * c + 3))) (nI (c + 1)) := fun c x K rec hc => by
    rw [f_X2_lettersTurnedByAll_L4, if_neg (nI_ge hc (by decide)), cz_gdn hc (by decide), cz_cl (by omega), hv c hc, nI_add, cz_lt_e, cz_lt_e]
  rw [f_X2_lettersTurnedByAll]
  generalize hK : (fun (x7 x8 : Int32) => some x7) = K
  show f_X2_lettersTurnedByAll_L4 p M K (cz_it2 (f_X2_lettersTurnedByAll_L4 p M K) 4095) (nI 0) (nI 0) = _
  rw [st 0 _ _ _ (by decide)]
  show f_X2_lettersTurnedByAll_L4 p M K (cz_it2 (f_X2_lettersTurnedByAll_L4 p M K) 4094) _ (nI 1) = _
  rw [st 1 _ _ _ (by decide)]
  show f_X2_lettersTurnedByAll_L4 p M K (cz_it2 (f_X2_lettersTurnedByAll_L4 p M K) 4093) _ (nI 2) = _
  rw [st 2 _ _ _ (by decide)]
  show f_X2_lettersTurnedByAll_L4 p M K (cz_it2 (f_X2_lettersTurnedByAll_L4 p M K) 4092) _ (nI 3) = _
  rw [st 3 _ _ _ (by decide)]
  show f_X2_lettersTurnedByAll_L4 p M K (cz_it2 (f_X2_lettersTurnedByAll_L4 p M K) 4091) _ (nI 4) = _
  rw [f_X2_lettersTurnedByAll_L4, if_pos (nI_le (Nat.le_refl _) (by decide)), ← hK]
  dsimp only
  rw [nI_add, nI_add, nI_add, nI_add]
  show some (nI (0 + cz_no s 16 + cz_no s 20 + cz_no s 24 + cz_no s 28)) = _
  rw [Nat.zero_add]
  rfl
/-! a LIMIT laid -/
theorem cz_ok_li {s : Nat → Int32} {n W l : Nat} {R : Nat → List Nat} (hl : l ≤ 8) (ok : cz_ok s n W R) : cz_ok (upd s 1 (nI l)) n W R := by
  refine cz_ok_gs (fun k hk => pk_un (by omega)) ⟨?_, ⟨l, hl, pk_us⟩, ?_⟩ (fun k hk => ?_) (fun c hc => ?_) ok
  · rw [pk_un (by decide)]; exact ok.1.2.1.1
  · rw [pk_un (by decide)]; exact ok.1.2.1.2.2
  · rw [pk_un (by omega)]; exact ok.1.2.2.1 k hk
  · rw [pk_un (by omega)]; exact ok.1.2.2.2.1 c hc
theorem cz_rp_li {M : cz_M} {p n W l : Nat} {s : Nat → Int32} {R : Nat → List Nat} (ok : cz_ok s n W R) (rp : cz_rp M p s n R) : cz_rp (cz_mI M (p + 1) 1 (nI l)) p (upd s 1 (nI l)) n R := by
  refine cz_rp_g (M := M) (fun z hz => cz_mI_o (by omega)) rfl (fun k hk => pk_un (by omega)) (fun k hk => ?_) (fun k hk => ?_) (fun c hc f hf => ?_) (cz_ok_lw ok) rp
  · rw [cz_mI_s]
    by_cases h : k = 1
    · subst h; rw [pk_us, pk_us]
    · rw [pk_un h, pk_un h]; exact rp.1 k hk
  · rw [cz_mI_o (by omega), pk_un (by omega)]; exact rp.2.2.1 k hk
  · rw [cz_mI_o (by omega), pk_un (by omega)]; exact rp.2.2.2.1 c hc f hf
theorem cz_tt_li (s : Nat → Int32) (l : Nat) : cz_tt (upd s 1 (nI l)) = cz_tt s := by
  unfold cz_tt cz_no
  rw [pk_un (by decide), pk_un (by decide), pk_un (by decide), pk_un (by decide)]
