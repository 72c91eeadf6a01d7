/-! the class lets a week pass -/
theorem cz_ms_e {s s' : Nat → Int32} {c i l : Nat} (hl : s (111 + 11 * i + 8) = nI l) (hl8 : l ≤ 8) (h13 : s' (13 + 4 * c) = s (13 + 4 * c)) (h8 : s' (111 + 11 * i + 8) = s (111 + 11 * i + 8)) (h9 : s' (111 + 11 * i + 9) = s (111 + 11 * i + 9)) (h10 : s' (111 + 11 * i + 10) = s (111 + 11 * i + 10)) : cz_ms s' c i = cz_ms s c i := by
  unfold cz_ms
  rw [h13, h8, hl, cz_cl (by omega)]
  refine cz_mk_congr (fun j hj => ?_)
  unfold cz_dig
  rcases (show j / 4 = 0 ∨ j / 4 = 1 by omega) with h0 | h0
  · rw [h0]; rw [show 111 + 11 * i + (9 + 0) = 111 + 11 * i + 9 from rfl, h9]
  · rw [h0]; rw [show 111 + 11 * i + (9 + 1) = 111 + 11 * i + 10 from rfl, h10]
theorem cz_bar_e {s s' w : Nat → Int32} {i : Nat} (h : ∀ j, s' (111 + 11 * j) = s (111 + 11 * j)) : cz_bar s' w i ↔ cz_bar s w i := by
  unfold cz_bar
  simp only [h]
theorem cz_nb_e {s s' w : Nat → Int32} (h : ∀ j, s' (111 + 11 * j) = s (111 + 11 * j)) : ∀ l, cz_nb s' w l = cz_nb s w l
  | [] => rfl
  | i :: l => by
    rw [cz_nb, cz_nb, cz_nb_e h l]
    by_cases hb : cz_bar s w i
    · rw [if_pos hb, if_pos ((cz_bar_e h).mpr hb)]
    · rw [if_neg hb, if_neg (fun z => hb ((cz_bar_e h).mp z))]
theorem cz_fk_e {s s' w : Nat → Int32} {c rdm k : Nat} {L : List Nat} (hk : k < L.length) (h : ∀ j, s' (111 + 11 * j) = s (111 + 11 * j)) (h1 : s' 1 = s 1) (h2 : s' 2 = s 2) (h6 : s' (111 + 11 * L[k] + 6) = s (111 + 11 * L[k] + 6)) (hm : cz_ms s' c L[k] = cz_ms s c L[k]) : cz_fk s' w c rdm L k = cz_fk s w c rdm L k := by
  unfold cz_fk
  rw [cz_gD hk, cz_nb_e h]
  have hft : cz_ft s' c L[k] = cz_ft s c L[k] := by
    unfold cz_ft
    rw [hm, h1, h2, h6]
  rw [hft]
  by_cases hb : cz_bar s w L[k]
  · rw [if_pos hb, if_pos ((cz_bar_e h).mpr hb)]
  · rw [if_neg hb, if_neg (fun z => hb ((cz_bar_e h).mp z))]
theorem cz_cn_0 {s : Nat → Int32} : ∀ {n : Nat}, (∀ i, i < n → s (111 + 11 * i + 2) ≠ nI 3) → cz_cn s n = 0
  | 0, _ => rfl
  | n + 1, h => by rw [cz_cn, cz_cn_0 (fun i hi => h i (by omega)), if_neg (h n (by omega))]
/-- the end of the week, in the class -/
theorem c_end {M : cz_M} {p n : Nat} {s : Nat → Int32} {R : Nat → List Nat} (hn : n ≤ 40) (hlw : ∀ j, j < n → cz_lw s j) (rp : cz_rp M p s n R) : cz_rp (cz_mI M p 8 (M.1 p 8 + nI 1)) p (cz_fi (upd s 3 (s 3 + nI 1)) n) n R := by
  obtain ⟨r1, ⟨r2, r3⟩, r4, r5, r6, r7⟩ := rp
  have ho : ∀ j, j ≠ 3 → (j < 111 ∨ ((j - 111) % 11 ≠ 2 ∧ (j - 111) % 11 ≠ 4) ∨ 111 + 11 * n ≤ j) → cz_fi (upd s 3 (s 3 + nI 1)) n j = s j := fun j h1 h2 => (cz_fi_o _ _ _ h2).trans (pk_un h1)
  have h3 : cz_fi (upd s 3 (s 3 + nI 1)) n 3 = s 3 + nI 1 := (cz_fi_o _ _ _ (by omega)).trans pk_us
  have h2 : ∀ i, i < n → cz_fi (upd s 3 (s 3 + nI 1)) n (111 + 11 * i + 2) = if s (111 + 11 * i + 2) = nI 3 then nI 1 else s (111 + 11 * i + 2) := fun i hi => by
    rw [cz_fi_2 hi, pk_un (by omega)]
  have h4 : ∀ i, i < n → cz_fi (upd s 3 (s 3 + nI 1)) n (111 + 11 * i + 4) = if s (111 + 11 * i + 2) = nI 3 then s 3 + nI 1 - s (111 + 11 * i + 3) else s (111 + 11 * i + 4) := fun i hi => by
    rw [cz_fi_4 hi, pk_us, pk_un (show 111 + 11 * i + 2 ≠ 3 by omega), pk_un (show 111 + 11 * i + 3 ≠ 3 by omega), pk_un (show 111 + 11 * i + 4 ≠ 3 by omega)]
  have n13 : nI 1 ≠ nI 3 := by decide
  have n31 : nI 3 ≠ nI 1 := by decide
  refine ⟨fun k hk => ?_, ⟨?_, ?_⟩, fun k hk => ?_, fun c hc f hf => ?_, fun r hr => ?_, fun i hi => ?_⟩
  · rw [cz_mI_o (by omega), ho _ (by omega) (by omega)]; exact r1 k hk
  · rw [cz_mI_s, pk_us, h3, r2]
  · rw [cz_mI_s, pk_un (by decide), ho _ (by omega) (by omega)]; exact r3
  · rw [cz_mI_o (by omega), ho _ (by omega) (by omega)]; exact r4 k hk
  · rw [cz_mI_o (by omega), ho _ (by omega) (by omega)]; exact r5 c hc f hf
  · unfold cz_rr
    rw [cz_mI_o (by omega), cz_mI_o (by omega)]
    exact r6 r hr
  · obtain ⟨e0, e1, e3, e4, e5, e6, e6b, e7, e8, e9, e11⟩ := r7 i hi
    have hq : (cz_mI M p 8 (M.1 p 8 + nI 1)).1 (p + 4 + (9 + i)) = M.1 (p + 4 + (9 + i)) := cz_mI_o (by omega)
    have w := cz_rl_w (s' := cz_fi (upd s 3 (s 3 + nI 1)) n) (hlw i hi) (ho _ (by omega) (by omega)) (ho _ (by omega) (by omega)) (ho _ (by omega) (by omega)) e11
    refine ⟨?_, ?_, ?_, ?_, ?_, fun h => ?_, fun h => ?_, ?_, ?_, ?_, w⟩
    · rw [hq, ho _ (by omega) (by omega)]; exact e0
    · rw [hq, ho _ (by omega) (by omega)]; exact e1
    · rw [hq, ho _ (by omega) (by omega)]; exact e3
    · rw [hq, ho _ (by omega) (by omega)]; exact e4
    · rw [hq, h2 i hi, e5]
      by_cases h3 : s (111 + 11 * i + 2) = nI 3
      · rw [if_pos h3, if_neg n13]
      · rw [if_neg h3, if_neg h3]
    · rw [hq, h4 i hi]
      rw [h2 i hi] at h
      by_cases h3 : s (111 + 11 * i + 2) = nI 3
      · rw [if_pos h3]; exact e6b h3
      · rw [if_neg h3] at h ⊢; exact e6 h
    · rw [h2 i hi] at h
      by_cases h3 : s (111 + 11 * i + 2) = nI 3
      · rw [if_pos h3] at h; exact absurd h n13
      · rw [if_neg h3] at h; exact absurd h h3
    · rw [hq, ho _ (by omega) (by omega)]; exact e7
    · rw [hq, ho _ (by omega) (by omega)]; exact e8
    · rw [hq, ho _ (by omega) (by omega)]; exact e9
set_option maxHeartbeats 4000000 in
theorem c_passWeek (M : cz_M) (p : Nat) {s : Nat → Int32} {n W : Nat} {R : Nat → List Nat} (ok : cz_ok s n W R) (rp : cz_rp M p s n R) :
    ∃ M', f_X2_passWeek M p = some (nI (cz_cn (cz_wA s W R).1 n), M') ∧ cz_rp M' p (cz_wK s n W R) n (cz_wR s W R) ∧ cz_fr (fun x => p ≤ x ∧ x < p + 57) M M' := by
  obtain ⟨n0, n1, n2, q0, q1, q2⟩ := cz_ok_no ok.1
  obtain ⟨gg1, gg2⟩ := cz_ok_g ok
  have hdj := fun i => cz_ok_dj ok.1 (i := i)
  have om := ok.1
  have hno := ok.2
  obtain ⟨M1, f1, t1, p1, e1⟩ := c_judgeWeek M p om rp
  obtain ⟨M2, j0, f2, hj0, p2, k2, t2, e2⟩ := c_readRow M1 p (w := cz_wt s) (u := fun _ => nI 0) (r := 0) (c := cz_no s (5 + 2 * (W % 4))) (rdm := cz_no s 0) om p1 (by decide) q0 n0 (fun i hi => rfl) (t1 0 (by decide))
  obtain ⟨-, hu2⟩ := cz_om_gt (w := cz_wt s) (u := fun _ => nI 0) om (r := 0) (by decide) n0 n2 (fun i hi => rfl)
  obtain ⟨⟨hn, hs4, hW, hs3⟩, -, -, hst, hrw, hle, -⟩ := om
  have l5 := (hrw 0 (by decide)).2.2.2.2
  have l4 := (hrw 0 (by decide)).2.2.2.1
  have l2 := (hrw 0 (by decide)).2.1
  have r5 := (hrw 1 (by decide)).2.2.2.2
  obtain ⟨gA, gB⟩ := cz_go_all (w := cz_wt s) (u := fun _ => nI 0) (rdm := cz_no s 0) n0 l4 (fun i hi => (hle i (l5 i hi).1).1)
  have hkp : ∀ j, cz_kp j → (j < 29 ∨ 111 ≤ j) → (cz_gt (cz_wt s) 0 (cz_no s (5 + 2 * (W % 4))) (cz_no s 0) (R 0) (s, fun _ => nI 0)).1 j = s j := fun j h1 h2 => cz_gt_kp n0 l2 h1 (by omega) (by omega)
  have hR1 : cz_Ru R 0 (cz_nR (cz_wt s) s (fun _ => nI 0) (cz_no s (5 + 2 * (W % 4))) (cz_no s 0) (R 0)) 1 = R 1 := cz_Ru_n (by decide)
  obtain ⟨M3, j1, f3, hj1, p3, k3, t3, e3⟩ := c_readRow M2 p (w := cz_wt s) (u := (cz_gt (cz_wt s) 0 (cz_no s (5 + 2 * (W % 4))) (cz_no s 0) (R 0) (s, fun _ => nI 0)).2) (r := 1) (c := cz_no s (5 + 2 * (W % 4) + 1)) (rdm := cz_no s 0) gg1 p2 (by decide) ((hkp _ (by unfold cz_kp; omega) (by omega)).trans q1) n1
    (fun i hi => by
      rw [hR1] at hi
      exact hu2 i (fun z => hdj i z hi))
    (fun k hk => by
      have key : ∀ (L : List Nat), L = R 1 → ∀ (hk : k < L.length), M2.1 (p + 4 + (9 + L[k])) 10 = nI (cz_fk (cz_gt (cz_wt s) 0 (cz_no s (5 + 2 * (W % 4))) (cz_no s 0) (R 0) (s, fun _ => nI 0)).1 (cz_wt s) (cz_no s (5 + 2 * (W % 4) + 1)) (cz_no s 0) L k) := by
        intro L hL hk
        subst hL
        have hmem : (R 1)[k] ∈ R 1 := List.getElem_mem hk
        have h5 := r5 _ hmem
        obtain ⟨l, -, hl8, hl⟩ := (hle _ h5.1).1.1
        rw [t2 _ (by omega), t1 1 (by decide) k hk]
        refine congrArg nI (cz_fk_e hk (fun j => ?_) ?_ ?_ ?_ ?_).symm
        · exact hkp _ (by unfold cz_kp; omega) (by omega)
        · exact hkp _ (by unfold cz_kp; omega) (by omega)
        · exact hkp _ (by unfold cz_kp; omega) (by omega)
        · exact (cz_gt_l (by decide) l2 (Or.inr (by omega))).trans ((gA _ (fun z => hdj _ z hmem)).1 6 (by decide))
        · exact cz_ms_e hl hl8 (hkp _ (by unfold cz_kp; omega) (by omega)) (hkp _ (by unfold cz_kp; omega) (by omega)) (hkp _ (by unfold cz_kp; omega) (by omega)) (hkp _ (by unfold cz_kp; omega) (by omega))
      exact key _ hR1 hk)
  rw [hR1] at p3 k3
  have p3 : cz_rp M3 p (cz_wA s W R).1 n (cz_wR s W R) := p3
  have k3 : cz_cn (cz_wA s W R).1 n = cz_cn (cz_gt (cz_wt s) 0 (cz_no s (5 + 2 * (W % 4))) (cz_no s 0) (R 0) (s, fun _ => nI 0)).1 n + j1 := k3
  rw [k2, cz_cn_0 hno] at k3
  have hp5 := c_end hn (fun j hj => (gg2.2.2.2.2.2.1 j hj).1) p3
  refine ⟨cz_mI M3 p 8 (M3.1 p 8 + nI 1), ?_, hp5, ((e1.tr e2).tr e3).tr (cz_fr.mI ⟨by omega, by omega⟩)⟩
  rw [f_X2_passWeek, f1, Option.bind_some]
  show f_X2_passWeek_L8 p _ (cz_it3 (f_X2_passWeek_L8 p _) 4095) (nI 0) (nI 0) M1 = _
  rw [f_X2_passWeek_L8, if_neg (nI_ge (by decide) (by decide)), f2, cz_b2_s, cz_lt_e, cz_lt_e, nI_add, nI_add]
  show f_X2_passWeek_L8 p _ (cz_it3 (f_X2_passWeek_L8 p _) 4094) (nI (0 + j0)) (nI 1) M2 = _
  rw [f_X2_passWeek_L8, if_neg (nI_ge (by decide) (by decide)), f3, cz_b2_s, cz_lt_e, cz_lt_e, nI_add, nI_add]
  show f_X2_passWeek_L8 p _ (cz_it3 (f_X2_passWeek_L8 p _) 4093) (nI (0 + j0 + j1)) (nI 2) M3 = _
  rw [f_X2_passWeek_L8, if_pos (nI_le (Nat.le_refl _) (by decide)), cz_lt_e, k3]
/-! many weeks -/
def cz_sk (s : Nat → Int32) (n W : Nat) (R : Nat → List Nat) : Nat → (Nat → Int32) × (Nat → List Nat)
  | 0 => (s, R)
  | k + 1 => (cz_wK (cz_sk s n W R k).1 n (W + k) (cz_sk s n W R k).2, cz_wR (cz_sk s n W R k).1 (W + k) (cz_sk s n W R k).2)
def cz_ck (s : Nat → Int32) (n W : Nat) (R : Nat → List Nat) : Nat → Nat
  | 0 => 0
  | k + 1 => cz_ck s n W R k + cz_cn (cz_wA (cz_sk s n W R k).1 (W + k) (cz_sk s n W R k).2).1 n
theorem cz_ok_sk {s : Nat → Int32} {n W : Nat} {R : Nat → List Nat} (ok : cz_ok s n W R) : ∀ k, W + k < 2 ^ 20 → cz_ok (cz_sk s n W R k).1 n (W + k) (cz_sk s n W R k).2
  | 0, _ => ok
  | k + 1, h => cz_ok_wk (cz_ok_sk ok k (by omega)) h
theorem c_passWeeks (M : cz_M) (p : Nat) {s : Nat → Int32} {n W K : Nat} {R : Nat → List Nat} (ok : cz_ok s n W R) (rp : cz_rp M p s n R) (hK : K ≤ 100) (hW : W + K < 2 ^ 20) :
    ∃ M', f_X2_passWeeks M p (nI K) = some (nI (cz_ck s n W R K), M') ∧ cz_rp M' p (cz_sk s n W R K).1 n (cz_sk s n W R K).2 ∧ cz_fr (fun x => p ≤ x ∧ x < p + 57) M M' := by
  rw [f_X2_passWeeks]
  obtain ⟨x, M', ⟨h1, h2, h3⟩, h⟩ := cz_for3 (F := f_X2_passWeeks_L4 p (nI K) (fun x7 x8 M9 => some (x7, M9))) (fun k (x : Int32) (m : cz_M) => x = nI (cz_ck s n W R k) ∧ cz_rp m p (cz_sk s n W R k).1 n (cz_sk s n W R k).2 ∧ cz_fr (fun x => p ≤ x ∧ x < p + 57) M m) (fun x m => some (x, m)) K
    (fun k x m hk ⟨i1, i2, i3⟩ => by
      subst i1
      obtain ⟨m2, a1, a2, a3⟩ := c_passWeek m p (cz_ok_sk ok k (by omega)) i2
      exact ⟨nI (cz_ck s n W R (k + 1)), m2, fun rec => by rw [f_X2_passWeeks_L4, if_neg (nI_ge hk (by omega)), a1, cz_b2_s, cz_lt_e, cz_lt_e, nI_add, nI_add]; rfl, rfl, a2, i3.tr a3⟩)
    (fun x m hI rec => by rw [f_X2_passWeeks_L4, if_pos (nI_le (Nat.le_refl _) (by omega))]) K 0 (nI 0) M 4096 (by omega) (by omega) ⟨rfl, rp, cz_fr.rf⟩
  exact ⟨M', by rw [h, h1], h2, h3⟩
