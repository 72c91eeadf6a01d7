/-! the history as a list, the latest state first -/
def cz_H (l : List cz_S) (hist : Nat → cz_S) : Prop := ∀ j, j < l.length → l[j]? = some (hist (l.length - 1 - j))
def cz_JL (b : Nat) (M : cz_M) (A : cz_S) (l : List cz_S) (slot : Nat → cz_S) (used pad : Nat → Nat) (len : Nat) : Prop := ∃ hist, cz_J b M A hist l.length slot used pad len ∧ cz_H l hist
theorem cz_H_of (hist : Nat → cz_S) : ∀ pc, ∃ l : List cz_S, l.length = pc ∧ cz_H l hist
  | 0 => ⟨[], rfl, fun j hj => by simp at hj⟩
  | pc + 1 => by
    obtain ⟨l, h1, h2⟩ := cz_H_of hist pc
    refine ⟨hist pc :: l, by simp [h1], fun j hj => ?_⟩
    have hl : (hist pc :: l).length = pc + 1 := by simp [h1]
    rw [hl] at hj ⊢
    cases j with
    | zero => simp
    | succ j =>
      have := h2 j (by omega)
      rw [h1] at this
      simp only [List.getElem?_cons_succ]
      rw [this, show pc + 1 - 1 - (j + 1) = pc - 1 - j by omega]
theorem j_push {b : Nat} {M : cz_M} {A A' : cz_S} {hist : Nat → cz_S} {l : List cz_S} {slot : Nat → cz_S} {used pad : Nat → Nat} {len : Nat} (hl : l.length ≤ 4) (h : cz_H l hist) (J : cz_J b M A' (cz_hp hist l.length A) (cz_hc l.length) slot used pad len) : cz_JL b M A' ((A :: l).take 4) slot used pad len := by
  have e : ((A :: l).take 4).length = cz_hc l.length := by
    rw [List.length_take, List.length_cons]
    unfold cz_hc
    by_cases h4 : l.length = 4
    · rw [if_pos h4]; omega
    · rw [if_neg h4]; omega
  refine ⟨cz_hp hist l.length A, by rw [e]; exact J, fun j hj => ?_⟩
  rw [e] at hj ⊢
  have hj4 : j < 4 := by
    have : cz_hc l.length ≤ 4 := by
      unfold cz_hc
      split <;> omega
    omega
  rw [List.getElem?_take_of_lt hj4]
  unfold cz_hc at hj ⊢
  unfold cz_hp
  by_cases h4 : l.length = 4
  · simp only [if_pos h4] at hj ⊢
    cases j with
    | zero => simp
    | succ j =>
      rw [List.getElem?_cons_succ, h j (by omega), h4, if_neg (by omega), show 4 - 1 - (j + 1) + 1 = 4 - 1 - j by omega]
  · simp only [if_neg h4] at hj ⊢
    cases j with
    | zero => simp
    | succ j =>
      rw [List.getElem?_cons_succ, h j (by omega), if_neg (by omega), show l.length + 1 - 1 - (j + 1) = l.length - 1 - j by omega]
section LE
variable {b : Nat} {M : cz_M} {s : Nat → Int32} {n W : Nat} {R : Nat → List Nat} {l : List cz_S} {slot : Nat → cz_S} {used pad : Nat → Nat} {len : Nat}
theorem j_le {A : cz_S} (J : cz_JL b M A l slot used pad len) : l.length ≤ 4 := by
  obtain ⟨hist, J, -⟩ := J
  exact J.1.2.1.1
theorem j_undo {A B : cz_S} (J : cz_JL b M A (B :: l) slot used pad len) : ∃ v M2, v ≤ 4 ∧ f_X4_undo M b = some (nI v, M2) ∧ cz_JL b M2 B l slot used pad len := by
  have h4 := j_le J
  obtain ⟨hist, J, h⟩ := J
  have e : (B :: l).length = l.length + 1 := rfl
  rw [e] at J h4
  obtain ⟨M2, f2, J2⟩ := k_undo J
  have h0 := h 0 (by rw [e]; omega)
  rw [e, show l.length + 1 - 1 - 0 = l.length by omega] at h0
  have h0 : hist l.length = B := (Option.some.inj h0).symm
  rw [h0] at J2
  refine ⟨l.length, M2, by omega, f2, hist, J2, fun j hj => ?_⟩
  have := h (j + 1) (by rw [e]; omega)
  rw [List.getElem?_cons_succ, e, show l.length + 1 - 1 - (j + 1) = l.length - 1 - j by omega] at this
  exact this
theorem j_pass {k : Nat} (J : cz_JL b M (s, n, W, R) l slot used pad len) (h1 : 1 ≤ k) (h2 : k ≤ 52) (h3 : W + k ≤ 9999) : ∃ M2, f_X4_pass M b (nI k) = some (nI (cz_ck s n W R k), M2) ∧ cz_JL b M2 ((cz_sk s n W R k).1, n, W + k, (cz_sk s n W R k).2) (((s, n, W, R) :: l).take 4) slot used pad len := by
  have h4 := j_le J
  obtain ⟨hist, J, h⟩ := J
  obtain ⟨M2, f2, J2⟩ := k_pass J h1 h2 h3
  exact ⟨M2, f2, j_push h4 h J2⟩
theorem j_cens (J : cz_JL b M (s, n, W, R) l slot used pad len) : ∃ v1 v2 v3 v4, f_X4_censor M b (nI 0) (nI 4) = some v1 ∧ f_X4_censor M b (nI 1) (nI 4) = some v2 ∧ f_X4_censor M b (nI 2) (nI 4) = some v3 ∧ f_X4_censor M b (nI 3) (nI 4) = some v4 ∧ ((v1 + v2) + v3) + v4 = nI (cz_tt s) := by
  obtain ⟨hist, J, h⟩ := J
  have ok := k_ok J
  refine ⟨_, _, _, _, (k_censor J (c := 0) (by decide)).2.2.2, (k_censor J (c := 1) (by decide)).2.2.2, (k_censor J (c := 2) (by decide)).2.2.2, (k_censor J (c := 3) (by decide)).2.2.2, ?_⟩
  rw [(cz_ok_tc ok (c := 0) (by decide)).1, (cz_ok_tc ok (c := 1) (by decide)).1, (cz_ok_tc ok (c := 2) (by decide)).1, (cz_ok_tc ok (c := 3) (by decide)).1, nI_add, nI_add, nI_add]
  rfl
theorem l_calm (J : cz_JL b M (s, n, W, R) l slot used pad len) (h3 : W + 100 ≤ 9999) : ∃ M', f_L_isCalm M b = some (if cz_tt (cz_sk s n W R 100).1 = cz_tt s then nI 1 else nI 0, M') ∧ cz_JL b M' (s, n, W, R) (l.take 2) slot used pad len := by
  have ok : cz_ok s n W R := by obtain ⟨hist, J, h⟩ := J; exact k_ok J
  obtain ⟨v1, v2, v3, v4, c1, c2, c3, c4, c5⟩ := j_cens J
  obtain ⟨M1, f1, J1⟩ := j_pass J (k := 50) (by decide) (by decide) (by omega)
  obtain ⟨M2, f2, J2⟩ := j_pass J1 (k := 50) (by decide) (by decide) (by omega)
  obtain ⟨w1, w2, w3, w4, d1, d2, d3, d4, d5⟩ := j_cens J2
  rw [cz_sk_add 50 50] at d5
  have e2 : ((((cz_sk s n W R 50).1, n, W + 50, (cz_sk s n W R 50).2) : cz_S) :: (((s, n, W, R) : cz_S) :: l).take 4).take 4 = ((cz_sk s n W R 50).1, n, W + 50, (cz_sk s n W R 50).2) :: (s, n, W, R) :: l.take 2 := by simp [List.take_take]
  rw [e2] at J2
  obtain ⟨u1, M3, hu1, f3, J3⟩ := j_undo J2
  obtain ⟨u2, M4, hu2, f4, J4⟩ := j_undo J3
  refine ⟨M4, ?_, J4⟩
  have ok50 := cz_ok_sk ok 50 (by omega)
  have k1 := cz_ck_le ok (k := 50) (by omega)
  have k2 := cz_ck_le ok50 (k := 50) (by omega)
  have t1 := cz_tt_le ok
  have t2 := cz_tt_le (cz_ok_sk ok 100 (by omega))
  rw [f_L_isCalm, c1, Option.bind_some, c2, Option.bind_some, c3, Option.bind_some, c4, Option.bind_some, cz_lt_e, c5, f1, cz_b2_s, if_neg (nI_nlt (Nat.zero_le _) (by omega)), f2, cz_b2_s, if_neg (nI_nlt (Nat.zero_le _) (by omega)), d1, Option.bind_some, d2, Option.bind_some, d3, Option.bind_some, d4, Option.bind_some, d5]
  by_cases h : cz_tt (cz_sk s n W R 100).1 = cz_tt s
  · rw [if_pos h, if_pos (by rw [h]), f3, cz_b2_s, if_neg (nI_nlt (Nat.zero_le _) (by omega)), f4, cz_b2_s, if_neg (nI_nlt (Nat.zero_le _) (by omega))]
  · rw [if_neg h, if_neg (fun z => h (cz_nI_inj t2 t1 z)), f3, cz_b2_s, if_neg (nI_nlt (Nat.zero_le _) (by omega)), f4, cz_b2_s, if_neg (nI_nlt (Nat.zero_le _) (by omega))]
end LE
/-! with the LIMIT 8 none is turned back -/
theorem cz_go_8 {w : Nat → Int32} {c rdm x : Nat} (hc : c < 4) (hx : x < 4) : ∀ (L : List Nat) (p : Nat × (Nat → Int32) × (Nat → Int32)), p.2.1 1 = nI 8 → (cz_go w c rdm L p).2.1 (13 + 4 * x + 3) = p.2.1 (13 + 4 * x + 3)
  | [], p, h => rfl
  | i :: L, p, h => by
    show (cz_go w c rdm L (cz_s1 w c rdm p i)).2.1 (13 + 4 * x + 3) = _
    have h1 : (cz_s1 w c rdm p i).2.1 1 = nI 8 := by
      unfold cz_s1
      split
      · exact (cz_rd_kp hc (by unfold cz_kp; omega)).trans h
      · exact h
    rw [cz_go_8 hc hx L _ h1]
    unfold cz_s1
    split
    · show cz_rd p.2.1 c i (cz_ms p.2.1 c i) (13 + 4 * x + 3) = _
      unfold cz_rd
      have h8 := cz_pc_le (cz_ms p.2.1 c i)
      rw [if_neg (by rw [pk_un (by omega), h]; exact nI_nlt h8 (by decide)), pk_un (by omega), pk_un (by omega), pk_un (by omega), pk_un (by omega), pk_un (by omega)]
    · rfl
theorem cz_wK_kp {s : Nat → Int32} {n W j : Nat} {R : Nat → List Nat} (ok : cz_ok s n W R) (hj : j < 13) (h3 : j ≠ 3) : cz_wK s n W R j = s j := by
  obtain ⟨n0, n1, n2, -⟩ := cz_ok_no ok.1
  have l2 := (ok.1.2.2.2.2.1 0 (by decide)).2.1
  have r2 := (ok.1.2.2.2.2.1 1 (by decide)).2.1
  unfold cz_wK
  rw [cz_fi_o _ _ _ (by omega), pk_un h3]
  unfold cz_wA cz_wa
  rw [cz_gt_kp n1 r2 (by unfold cz_kp; omega) (by omega) (by omega), cz_gt_kp n0 l2 (by unfold cz_kp; omega) (by omega) (by omega)]
theorem cz_tt_8 {s : Nat → Int32} {n W : Nat} {R : Nat → List Nat} (ok : cz_ok s n W R) (h8 : s 1 = nI 8) : cz_tt (cz_wK s n W R) = cz_tt s := by
  obtain ⟨n0, n1, n2, -⟩ := cz_ok_no ok.1
  have l2 := (ok.1.2.2.2.2.1 0 (by decide)).2.1
  have r2 := (ok.1.2.2.2.2.1 1 (by decide)).2.1
  have key : ∀ x, x < 4 → cz_wK s n W R (13 + 4 * x + 3) = s (13 + 4 * x + 3) := fun x hx => by
    have hw1 : (cz_wA s W R).1 (13 + 4 * x + 3) = (cz_go (cz_wt s) (cz_no s (5 + 2 * (W % 4) + 1)) (cz_no s 0) (R 1) (0, (cz_gt (cz_wt s) 0 (cz_no s (5 + 2 * (W % 4))) (cz_no s 0) (R 0) (s, fun _ => nI 0)).1, (cz_gt (cz_wt s) 0 (cz_no s (5 + 2 * (W % 4))) (cz_no s 0) (R 0) (s, fun _ => nI 0)).2)).2.1 (13 + 4 * x + 3) := cz_gt_l (by decide) r2 (Or.inl (by omega))
    have h0l : (cz_gt (cz_wt s) 0 (cz_no s (5 + 2 * (W % 4))) (cz_no s 0) (R 0) (s, fun _ => nI 0)).1 (13 + 4 * x + 3) = (cz_go (cz_wt s) (cz_no s (5 + 2 * (W % 4))) (cz_no s 0) (R 0) (0, s, fun _ => nI 0)).2.1 (13 + 4 * x + 3) := cz_gt_l (by decide) l2 (Or.inl (by omega))
    have h18 : (cz_gt (cz_wt s) 0 (cz_no s (5 + 2 * (W % 4))) (cz_no s 0) (R 0) (s, fun _ => nI 0)).1 1 = nI 8 := (cz_gt_kp n0 l2 (by unfold cz_kp; omega) (by omega) (by omega)).trans h8
    unfold cz_wK
    rw [cz_fi_o _ _ _ (by omega), pk_un (by omega), hw1, cz_go_8 n1 hx (R 1) (0, (cz_gt (cz_wt s) 0 (cz_no s (5 + 2 * (W % 4))) (cz_no s 0) (R 0) (s, fun _ => nI 0)).1, (cz_gt (cz_wt s) 0 (cz_no s (5 + 2 * (W % 4))) (cz_no s 0) (R 0) (s, fun _ => nI 0)).2) h18]
    dsimp only
    rw [h0l, cz_go_8 n0 hx (R 0) (0, s, fun _ => nI 0) h8]
  have k0 := key 0 (by decide)
  have k1 := key 1 (by decide)
  have k2 := key 2 (by decide)
  have k3 := key 3 (by decide)
  unfold cz_tt cz_no
  rw [show (16 : Nat) = 13 + 4 * 0 + 3 from rfl, show (20 : Nat) = 13 + 4 * 1 + 3 from rfl, show (24 : Nat) = 13 + 4 * 2 + 3 from rfl, show (28 : Nat) = 13 + 4 * 3 + 3 from rfl, k0, k1, k2, k3]
theorem cz_tt_sk8 {s : Nat → Int32} {n W : Nat} {R : Nat → List Nat} (ok : cz_ok s n W R) (h8 : s 1 = nI 8) : ∀ k, W + k < 2 ^ 20 → cz_tt (cz_sk s n W R k).1 = cz_tt s ∧ (cz_sk s n W R k).1 1 = nI 8
  | 0, _ => ⟨rfl, h8⟩
  | k + 1, h => by
    obtain ⟨h1, h2⟩ := cz_tt_sk8 ok h8 k (by omega)
    have okk := cz_ok_sk ok k (by omega)
    exact ⟨(cz_tt_8 okk h2).trans h1, (cz_wK_kp okk (by decide) (by decide)).trans h2⟩
/-- the least LIMIT: with it none is turned back, with one less somebody is -/
theorem cz_lm {s : Nat → Int32} {n W : Nat} {R : Nat → List Nat} (ok : cz_ok s n W R) (hW : W + 100 < 2 ^ 20) : cz_un (cz_lf s n W R) 8 0 ≤ 8 ∧ cz_tt (cz_sk (upd s 1 (nI (cz_un (cz_lf s n W R) 8 0))) n W R 100).1 = cz_tt s ∧ ∀ i, i < cz_un (cz_lf s n W R) 8 0 → cz_tt (cz_sk (upd s 1 (nI i)) n W R 100).1 ≠ cz_tt s := by
  obtain ⟨h1, h2, h3, h4⟩ := cz_un_sp (cz_lf s n W R) 8 0
  generalize cz_un (cz_lf s n W R) 8 0 = L at h1 h2 h3 h4 ⊢
  refine ⟨by omega, ?_, fun i hi => of_decide_eq_true (h3 i (Nat.zero_le _) hi)⟩
  by_cases h8 : L < 8
  · have h5 := h4 (by omega)
    by_cases hd : cz_tt (cz_sk (upd s 1 (nI L)) n W R 100).1 = cz_tt s
    · exact hd
    · exact absurd (decide_eq_true hd : cz_lf s n W R L = true) h5
  · have hL : L = 8 := by omega
    subst hL
    have e := (cz_tt_sk8 (cz_ok_li (l := 8) (by decide) ok) pk_us 100 hW).1
    rw [e]
    exact cz_tt_li s 8
