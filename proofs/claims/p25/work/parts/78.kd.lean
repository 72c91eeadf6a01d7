/-! what a week does to a letter, place by place -/
theorem cz_wA_f {s : Nat → Int32} {n W : Nat} {R : Nat → List Nat} (ok : cz_ok s n W R) {i f : Nat} (hf : f < 11) (h0 : i ∉ R 0) (h1 : i ∉ R 1) : (cz_wA s W R).1 (111 + 11 * i + f) = s (111 + 11 * i + f) := by
  obtain ⟨n0, n1, n2, q0, q1, q2⟩ := cz_ok_no ok.1
  obtain ⟨gg1, -⟩ := cz_ok_g ok
  obtain ⟨-, -, -, -, hrw, hle, -⟩ := ok.1
  obtain ⟨-, l2, -, l4, l5⟩ := hrw 0 (by decide)
  obtain ⟨-, r2, -, r4, r5⟩ := hrw 1 (by decide)
  obtain ⟨gA, -⟩ := cz_go_all (w := cz_wt s) (u := fun _ => nI 0) (rdm := cz_no s 0) n0 l4 (fun i hi => (hle i (l5 i hi).1).1)
  have hlw1 : ∀ i ∈ R 1, cz_lw (cz_gt (cz_wt s) 0 (cz_no s (5 + 2 * (W % 4))) (cz_no s 0) (R 0) (s, fun _ => nI 0)).1 i := fun i hi => (gg1.2.2.2.2.2.1 i (r5 i hi).1).1
  obtain ⟨hA, -⟩ := cz_go_all (w := cz_wt s) (s := (cz_gt (cz_wt s) 0 (cz_no s (5 + 2 * (W % 4))) (cz_no s 0) (R 0) (s, fun _ => nI 0)).1) (u := (cz_gt (cz_wt s) 0 (cz_no s (5 + 2 * (W % 4))) (cz_no s 0) (R 0) (s, fun _ => nI 0)).2) (rdm := cz_no s 0) n1 r4 hlw1
  have hw1 : (cz_wA s W R).1 (111 + 11 * i + f) = (cz_go (cz_wt s) (cz_no s (5 + 2 * (W % 4) + 1)) (cz_no s 0) (R 1) (0, (cz_gt (cz_wt s) 0 (cz_no s (5 + 2 * (W % 4))) (cz_no s 0) (R 0) (s, fun _ => nI 0)).1, (cz_gt (cz_wt s) 0 (cz_no s (5 + 2 * (W % 4))) (cz_no s 0) (R 0) (s, fun _ => nI 0)).2)).2.1 (111 + 11 * i + f) := cz_gt_l (by decide) r2 (Or.inr (by omega))
  have h0l : (cz_gt (cz_wt s) 0 (cz_no s (5 + 2 * (W % 4))) (cz_no s 0) (R 0) (s, fun _ => nI 0)).1 (111 + 11 * i + f) = (cz_go (cz_wt s) (cz_no s (5 + 2 * (W % 4))) (cz_no s 0) (R 0) (0, s, fun _ => nI 0)).2.1 (111 + 11 * i + f) := cz_gt_l (by decide) l2 (Or.inr (by omega))
  rw [hw1, (hA _ h1).1 f hf, h0l, (gA _ h0).1 f hf]
/-- the fate of a letter at a place of a row, in this week -/
def cz_fa (s : Nat → Int32) (W : Nat) (R : Nat → List Nat) (r k : Nat) : Nat := cz_fk s (cz_wt s) (cz_no s (5 + 2 * (W % 4) + r)) (cz_no s 0) (R r) k
theorem cz_wA_t {s : Nat → Int32} {n W r : Nat} {R : Nat → List Nat} (ok : cz_ok s n W R) (hr : r < 2) {k f : Nat} (hf : f < 11) (hk : k < (R r).length) :
    (cz_wA s W R).1 (111 + 11 * (R r)[k] + f) = cz_tl s (cz_no s (5 + 2 * (W % 4) + r)) (cz_fa s W R r k) (R r)[k] f := by
  unfold cz_fa
  obtain ⟨n0, n1, n2, q0, q1, q2⟩ := cz_ok_no ok.1
  obtain ⟨gg1, -⟩ := cz_ok_g ok
  have hdj := fun i => cz_ok_dj ok.1 (i := i)
  obtain ⟨-, -, -, -, hrw, hle, -⟩ := ok.1
  obtain ⟨-, l2, -, l4, l5⟩ := hrw 0 (by decide)
  obtain ⟨-, r2, -, r4, r5⟩ := hrw 1 (by decide)
  obtain ⟨gA, gB⟩ := cz_go_all (w := cz_wt s) (u := fun _ => nI 0) (rdm := cz_no s 0) n0 l4 (fun i hi => (hle i (l5 i hi).1).1)
  have hkp : ∀ j, cz_kp j → (j < 29 ∨ 111 ≤ j) → (cz_gt (cz_wt s) 0 (cz_no s (5 + 2 * (W % 4))) (cz_no s 0) (R 0) (s, fun _ => nI 0)).1 j = s j := fun j h1 h2 => cz_gt_kp n0 l2 h1 (by omega) (by omega)
  have h0l : ∀ j, 111 ≤ j → (cz_gt (cz_wt s) 0 (cz_no s (5 + 2 * (W % 4))) (cz_no s 0) (R 0) (s, fun _ => nI 0)).1 j = (cz_go (cz_wt s) (cz_no s (5 + 2 * (W % 4))) (cz_no s 0) (R 0) (0, s, fun _ => nI 0)).2.1 j := fun j hj => cz_gt_l (by decide) l2 (Or.inr hj)
  have hlw1 : ∀ i ∈ R 1, cz_lw (cz_gt (cz_wt s) 0 (cz_no s (5 + 2 * (W % 4))) (cz_no s 0) (R 0) (s, fun _ => nI 0)).1 i := fun i hi => (gg1.2.2.2.2.2.1 i (r5 i hi).1).1
  obtain ⟨hA, hB⟩ := cz_go_all (w := cz_wt s) (s := (cz_gt (cz_wt s) 0 (cz_no s (5 + 2 * (W % 4))) (cz_no s 0) (R 0) (s, fun _ => nI 0)).1) (u := (cz_gt (cz_wt s) 0 (cz_no s (5 + 2 * (W % 4))) (cz_no s 0) (R 0) (s, fun _ => nI 0)).2) (rdm := cz_no s 0) n1 r4 hlw1
  have hw1 : ∀ j, 111 ≤ j → (cz_wA s W R).1 j = (cz_go (cz_wt s) (cz_no s (5 + 2 * (W % 4) + 1)) (cz_no s 0) (R 1) (0, (cz_gt (cz_wt s) 0 (cz_no s (5 + 2 * (W % 4))) (cz_no s 0) (R 0) (s, fun _ => nI 0)).1, (cz_gt (cz_wt s) 0 (cz_no s (5 + 2 * (W % 4))) (cz_no s 0) (R 0) (s, fun _ => nI 0)).2)).2.1 j := fun j hj => cz_gt_l (by decide) r2 (Or.inr hj)
  rcases (show r = 0 ∨ r = 1 by omega) with rfl | rfl
  · have hmem : (R 0)[k] ∈ R 0 := List.getElem_mem hk
    have hno : (R 0)[k] ∉ R 1 := fun z => hdj _ hmem z
    rw [hw1 _ (by omega), (hA _ hno).1 f hf, h0l _ (by omega), (gB k hk).1 f hf]
    rfl
  · have hmem : (R 1)[k] ∈ R 1 := List.getElem_mem hk
    have hno : (R 1)[k] ∉ R 0 := fun z => hdj _ z hmem
    have h5 := r5 _ hmem
    obtain ⟨l, -, hl8, hl⟩ := (hle _ h5.1).1.1
    have hms : cz_ms (cz_gt (cz_wt s) 0 (cz_no s (5 + 2 * (W % 4))) (cz_no s 0) (R 0) (s, fun _ => nI 0)).1 (cz_no s (5 + 2 * (W % 4) + 1)) (R 1)[k] = cz_ms s (cz_no s (5 + 2 * (W % 4) + 1)) (R 1)[k] := cz_ms_e hl hl8 (hkp _ (by unfold cz_kp; omega) (by omega)) (hkp _ (by unfold cz_kp; omega) (by omega)) (hkp _ (by unfold cz_kp; omega) (by omega)) (hkp _ (by unfold cz_kp; omega) (by omega))
    have hfk : cz_fk (cz_gt (cz_wt s) 0 (cz_no s (5 + 2 * (W % 4))) (cz_no s 0) (R 0) (s, fun _ => nI 0)).1 (cz_wt s) (cz_no s (5 + 2 * (W % 4) + 1)) (cz_no s 0) (R 1) k = cz_fk s (cz_wt s) (cz_no s (5 + 2 * (W % 4) + 1)) (cz_no s 0) (R 1) k := by
      refine cz_fk_e hk (fun j => ?_) ?_ ?_ ?_ hms
      · exact hkp _ (by unfold cz_kp; omega) (by omega)
      · exact hkp _ (by unfold cz_kp; omega) (by omega)
      · exact hkp _ (by unfold cz_kp; omega) (by omega)
      · exact (h0l _ (by omega)).trans ((gA _ hno).1 6 (by decide))
    rw [hw1 _ (by omega), (hB k hk).1 f hf, hfk]
    exact cz_tl_congr hf (fun f hf => (h0l _ (by omega)).trans ((gA _ hno).1 f hf)) hms
theorem cz_fi_f {X : Nat → Int32} {n i f : Nat} (hi : i < n) (hf : f < 11) : cz_fi X n (111 + 11 * i + f) = if X (111 + 11 * i + 2) = nI 3 then (if f = 2 then nI 1 else if f = 4 then X 3 - X (111 + 11 * i + 3) else X (111 + 11 * i + f)) else X (111 + 11 * i + f) := by
  have h1 : (111 + 11 * i + f - 111) / 11 = i := by omega
  have h2 : (111 + 11 * i + f - 111) % 11 = f := by omega
  by_cases h : X (111 + 11 * i + 2) = nI 3
  · rw [cz_fi_p ⟨by omega, by omega, by rw [h1]; exact h⟩, if_pos h, h1, h2]
  · rw [cz_fi_q (fun z => h (by have := z.2.2; rwa [h1] at this)), if_neg h]
/-- a letter that does not wait stays as it is -/
theorem cz_wK_f {s : Nat → Int32} {n W : Nat} {R : Nat → List Nat} (ok : cz_ok s n W R) {i f : Nat} (hi : i < n) (hf : f < 11) (hs : s (111 + 11 * i + 2) ≠ nI 0) : cz_wK s n W R (111 + 11 * i + f) = s (111 + 11 * i + f) := by
  have hno : ∀ r, r < 2 → i ∉ R r := fun r hr z => hs ((ok.1.2.2.2.2.1 r hr).2.2.2.2 i z).2.2
  unfold cz_wK
  have e : ∀ f, f < 11 → upd (cz_wA s W R).1 3 ((cz_wA s W R).1 3 + nI 1) (111 + 11 * i + f) = s (111 + 11 * i + f) := fun f hf => by
    rw [pk_un (by omega), cz_wA_f ok hf (hno 0 (by decide)) (hno 1 (by decide))]
  rw [cz_fi_f hi hf, e 2 (by decide), if_neg (ok.2 i hi), e f hf]
theorem cz_wA_3 {s : Nat → Int32} {n W : Nat} {R : Nat → List Nat} (ok : cz_ok s n W R) : (cz_wA s W R).1 3 = nI W := by
  obtain ⟨n0, n1, n2, -⟩ := cz_ok_no ok.1
  have l2 := (ok.1.2.2.2.2.1 0 (by decide)).2.1
  have r2 := (ok.1.2.2.2.2.1 1 (by decide)).2.1
  unfold cz_wA cz_wa
  rw [cz_gt_kp n1 r2 (by unfold cz_kp; omega) (by omega) (by omega), cz_gt_kp n0 l2 (by unfold cz_kp; omega) (by omega) (by omega)]
  exact ok.1.1.2.2.2
theorem cz_fa_c (s : Nat → Int32) (W : Nat) (R : Nat → List Nat) (r k : Nat) : cz_fa s W R r k = 0 ∨ cz_fa s W R r k = 2 ∨ cz_fa s W R r k = 3 ∨ cz_fa s W R r k = 4 ∨ cz_fa s W R r k = 5 := cz_fk_c _ _ _ _ _ _
/-- a letter that waits: what its fate makes of it -/
theorem cz_wK_t {s : Nat → Int32} {n W r : Nat} {R : Nat → List Nat} (ok : cz_ok s n W R) (hr : r < 2) {k f : Nat} (hf : f < 11) (hk : k < (R r).length) :
    cz_wK s n W R (111 + 11 * (R r)[k] + f) = if cz_fa s W R r k = 0 then (if f = 2 then nI 1 else if f = 4 then nI (W + 1) - s (111 + 11 * (R r)[k] + 3) else if f = 5 then nI (cz_ms s (cz_no s (5 + 2 * (W % 4) + r)) (R r)[k]) else if f = 7 then nI (cz_no s (5 + 2 * (W % 4) + r)) else s (111 + 11 * (R r)[k] + f)) else if cz_fa s W R r k = 4 then (if f = 6 then s (111 + 11 * (R r)[k] + 6) + nI 1 else s (111 + 11 * (R r)[k] + f)) else if cz_fa s W R r k = 5 then (if f = 2 then nI 2 else if f = 6 then s (111 + 11 * (R r)[k] + 6) + nI 1 else s (111 + 11 * (R r)[k] + f)) else s (111 + 11 * (R r)[k] + f) := by
  have h5 := (ok.1.2.2.2.2.1 r hr).2.2.2.2 (R r)[k] (List.getElem_mem hk)
  have e : ∀ f, f < 11 → upd (cz_wA s W R).1 3 ((cz_wA s W R).1 3 + nI 1) (111 + 11 * (R r)[k] + f) = cz_tl s (cz_no s (5 + 2 * (W % 4) + r)) (cz_fa s W R r k) (R r)[k] f := fun f hf => by
    rw [pk_un (by omega), cz_wA_t ok hr hf hk]
  unfold cz_wK
  rw [cz_fi_f h5.1 hf, e 2 (by decide), e f hf, e 3 (by decide), pk_us, cz_wA_3 ok, nI_add]
  have hT := cz_fa_c s W R r k
  generalize cz_fa s W R r k = T at hT ⊢
  have n0 : ¬ nI 0 = nI 3 := by decide
  have n2 : ¬ nI 2 = nI 3 := by decide
  unfold cz_tl
  rcases hT with rfl | rfl | rfl | rfl | rfl
  · by_cases f2 : f = 2
    · simp [f2]
    · by_cases f4 : f = 4
      · simp [f4]
      · simp [f2, f4]
  · simp [h5.2.2, n0]
  · simp [h5.2.2, n0]
  · by_cases f2 : f = 2
    · simp [f2, n0, h5.2.2]
    · simp [f2, n0]
  · by_cases f2 : f = 2
    · simp [f2, n2]
    · simp [f2, n2]
/-! what each censor has read, and turned back -/
theorem cz_ap_rc {s : Nat → Int32} {c t i x : Nat} (hc : c < 4) (hx : x < 4) (ht : t = 0 ∨ t = 4 ∨ t = 5) : ∃ d e, e ≤ d ∧ d ≤ 1 ∧ cz_ap s c t i (13 + 4 * x + 1) = s (13 + 4 * x + 1) + nI d ∧ cz_ap s c t i (13 + 4 * x + 3) = s (13 + 4 * x + 3) + nI e := by
  have z : ∀ y : Int32, y = y + nI 0 := fun y => (Int32.add_zero y).symm
  unfold cz_ap cz_th cz_tu
  by_cases hcx : x = c
  · subst hcx
    rcases ht with rfl | rfl | rfl
    · refine ⟨1, 0, by omega, by omega, ?_, ?_⟩
      · rw [if_pos rfl]; simp (disch := omega) only [pk_un, pk_us]
      · rw [if_pos rfl]; simp (disch := omega) only [pk_un]; exact z _
    · refine ⟨1, 1, by omega, by omega, ?_, ?_⟩
      · rw [if_neg (by decide), if_pos rfl]; simp (disch := omega) only [pk_un, pk_us]
      · rw [if_neg (by decide), if_pos rfl]; simp (disch := omega) only [pk_un, pk_us]
    · refine ⟨1, 1, by omega, by omega, ?_, ?_⟩
      · rw [if_neg (by decide), if_neg (by decide), if_pos rfl]; simp (disch := omega) only [pk_un, pk_us]
      · rw [if_neg (by decide), if_neg (by decide), if_pos rfl]; simp (disch := omega) only [pk_un, pk_us]
  · refine ⟨0, 0, by omega, by omega, ?_, ?_⟩
    · repeat' split
      all_goals first | exact z _ | (simp (disch := omega) only [pk_un]; exact z _)
    · repeat' split
      all_goals first | exact z _ | (simp (disch := omega) only [pk_un]; exact z _)
theorem cz_go_rc {w : Nat → Int32} {c rdm x : Nat} (hc : c < 4) (hx : x < 4) : ∀ (L : List Nat) (p : Nat × (Nat → Int32) × (Nat → Int32)), p.1 ≤ rdm → ∃ d e, e ≤ d ∧ d + p.1 ≤ rdm ∧ (cz_go w c rdm L p).2.1 (13 + 4 * x + 1) = p.2.1 (13 + 4 * x + 1) + nI d ∧ (cz_go w c rdm L p).2.1 (13 + 4 * x + 3) = p.2.1 (13 + 4 * x + 3) + nI e
  | [], p, h => ⟨0, 0, by omega, by omega, (Int32.add_zero _).symm, (Int32.add_zero _).symm⟩
  | i :: L, p, h => by
    show ∃ d e, e ≤ d ∧ d + p.1 ≤ rdm ∧ (cz_go w c rdm L (cz_s1 w c rdm p i)).2.1 (13 + 4 * x + 1) = p.2.1 (13 + 4 * x + 1) + nI d ∧ (cz_go w c rdm L (cz_s1 w c rdm p i)).2.1 (13 + 4 * x + 3) = p.2.1 (13 + 4 * x + 3) + nI e
    by_cases hq : p.1 < rdm ∧ ¬ cz_bar p.2.1 w i
    · have e : cz_s1 w c rdm p i = (p.1 + 1, cz_rd p.2.1 c i (cz_ms p.2.1 c i), upd p.2.2 i (nI 1)) := by
        unfold cz_s1
        rw [if_pos hq]
      rw [e]
      obtain ⟨d, e, he, hd, hd2, he2⟩ := cz_go_rc (w := w) (rdm := rdm) hc hx L (p.1 + 1, cz_rd p.2.1 c i (cz_ms p.2.1 c i), upd p.2.2 i (nI 1)) (by have := hq.1; dsimp only; omega)
      obtain ⟨d2, e2, h1, h2, h3, h4⟩ := cz_ap_rc (s := p.2.1) (t := cz_ft p.2.1 c i) (i := i) hc hx (cz_ft_c _ _ _)
      refine ⟨d2 + d, e2 + e, by omega, by dsimp only at hd; omega, ?_, ?_⟩
      · rw [hd2]
        dsimp only
        rw [cz_rd_ap, h3, Int32.add_assoc, nI_add]
      · rw [he2]
        dsimp only
        rw [cz_rd_ap, h4, Int32.add_assoc, nI_add]
    · have e : cz_s1 w c rdm p i = p := by
        unfold cz_s1
        rw [if_neg hq]
      rw [e]
      exact cz_go_rc hc hx L p h
theorem cz_rc_wk {s : Nat → Int32} {n W x : Nat} {R : Nat → List Nat} (ok : cz_ok s n W R) (hx : x < 4) : ∃ d e, e ≤ d ∧ d ≤ 18 ∧ cz_wK s n W R (13 + 4 * x + 1) = s (13 + 4 * x + 1) + nI d ∧ cz_wK s n W R (13 + 4 * x + 3) = s (13 + 4 * x + 3) + nI e := by
  obtain ⟨n0, n1, n2, q0, q1, q2⟩ := cz_ok_no ok.1
  obtain ⟨-, -, -, -, hrw, -⟩ := ok.1
  have l2 := (hrw 0 (by decide)).2.1
  have r2 := (hrw 1 (by decide)).2.1
  obtain ⟨d0, e0, h1, h2, h3, h4⟩ := cz_go_rc (w := cz_wt s) (rdm := cz_no s 0) n0 hx (R 0) (0, s, fun _ => nI 0) (Nat.zero_le _)
  obtain ⟨d1, e1, g1, g2, g3, g4⟩ := cz_go_rc (w := cz_wt s) (rdm := cz_no s 0) n1 hx (R 1) (0, (cz_gt (cz_wt s) 0 (cz_no s (5 + 2 * (W % 4))) (cz_no s 0) (R 0) (s, fun _ => nI 0)).1, (cz_gt (cz_wt s) 0 (cz_no s (5 + 2 * (W % 4))) (cz_no s 0) (R 0) (s, fun _ => nI 0)).2) (Nat.zero_le _)
  have hw1 : ∀ q, q < 29 → (cz_wA s W R).1 q = (cz_go (cz_wt s) (cz_no s (5 + 2 * (W % 4) + 1)) (cz_no s 0) (R 1) (0, (cz_gt (cz_wt s) 0 (cz_no s (5 + 2 * (W % 4))) (cz_no s 0) (R 0) (s, fun _ => nI 0)).1, (cz_gt (cz_wt s) 0 (cz_no s (5 + 2 * (W % 4))) (cz_no s 0) (R 0) (s, fun _ => nI 0)).2)).2.1 q := fun q hq => cz_gt_l (by decide) r2 (Or.inl hq)
  have h0l : ∀ q, q < 29 → (cz_gt (cz_wt s) 0 (cz_no s (5 + 2 * (W % 4))) (cz_no s 0) (R 0) (s, fun _ => nI 0)).1 q = (cz_go (cz_wt s) (cz_no s (5 + 2 * (W % 4))) (cz_no s 0) (R 0) (0, s, fun _ => nI 0)).2.1 q := fun q hq => cz_gt_l (by decide) l2 (Or.inl hq)
  refine ⟨d0 + d1, e0 + e1, by omega, by dsimp only at h2 g2; omega, ?_, ?_⟩
  · unfold cz_wK
    rw [cz_fi_o _ _ _ (by omega), pk_un (by omega), hw1 _ (by omega), g3]
    dsimp only
    rw [h0l _ (by omega), h3]
    dsimp only
    rw [Int32.add_assoc, nI_add]
  · unfold cz_wK
    rw [cz_fi_o _ _ _ (by omega), pk_un (by omega), hw1 _ (by omega), g4]
    dsimp only
    rw [h0l _ (by omega), h4]
    dsimp only
    rw [Int32.add_assoc, nI_add]
