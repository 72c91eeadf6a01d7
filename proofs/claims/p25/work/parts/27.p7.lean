/-! what a state of the reference is -/
/-- the letter i -/
def cz_le (s : Nat → Int32) (W : Nat) (R : Nat → List Nat) (i : Nat) : Prop :=
  cz_lw s i ∧ (∃ t, t < 5 ∧ s (111 + 11 * i) = nI t) ∧ (∃ r, r < 2 ∧ s (111 + 11 * i + 1) = nI r ∧ (s (111 + 11 * i + 2) = nI 0 → i ∈ R r)) ∧ (s (111 + 11 * i + 2) = nI 0 ∨ s (111 + 11 * i + 2) = nI 1 ∨ s (111 + 11 * i + 2) = nI 2 ∨ s (111 + 11 * i + 2) = nI 3) ∧ (∃ v, v ≤ W ∧ s (111 + 11 * i + 3) = nI v) ∧ (s (111 + 11 * i + 2) = nI 1 → ∃ d, d ≤ W ∧ s (111 + 11 * i + 4) = nI d) ∧ (s (111 + 11 * i + 2) ≠ nI 1 → s (111 + 11 * i + 4) = (-6 : Int32)) ∧ (∃ m, m < 256 ∧ s (111 + 11 * i + 5) = nI m) ∧ (∃ b, b ≤ 5 ∧ s (111 + 11 * i + 6) = nI b ∧ (s (111 + 11 * i + 2) = nI 0 → b ≤ 4)) ∧ (s (111 + 11 * i + 7) = (-6 : Int32) ∨ ∃ c, c < 4 ∧ s (111 + 11 * i + 7) = nI c)
/-- the row r -/
def cz_ro (s : Nat → Int32) (n r : Nat) (l : List Nat) : Prop :=
  s (29 + r) = nI l.length ∧ l.length ≤ 40 ∧ (∀ k (h : k < l.length), s (31 + 40 * r + k) = nI l[k]) ∧ l.Nodup ∧ ∀ i ∈ l, i < n ∧ s (111 + 11 * i + 1) = nI r ∧ s (111 + 11 * i + 2) = nI 0
/-- a state within a week: letters that were let through have the state 3; T bounds the turnings back of a censor -/
def cz_om (s : Nat → Int32) (n W T : Nat) (R : Nat → List Nat) : Prop :=
  (n ≤ 40 ∧ s 4 = nI n ∧ W < 2 ^ 20 ∧ s 3 = nI W) ∧ ((∃ k, k ≤ 9 ∧ s 0 = nI k) ∧ (∃ k, k ≤ 8 ∧ s 1 = nI k) ∧ (∃ k, k ≤ 5 ∧ s 2 = nI k)) ∧ (∀ k, k < 8 → ∃ c, c < 4 ∧ s (5 + k) = nI c) ∧ (∀ c, c < 4 → ∃ S, S < 2 ^ 26 ∧ s (13 + 4 * c) = nI S) ∧ (∀ r, r < 2 → cz_ro s n r (R r)) ∧ (∀ i, i < n → cz_le s W R i) ∧ ∀ c, c < 4 → ∃ t, t ≤ T ∧ s (13 + 4 * c + 3) = nI t
def cz_ok (s : Nat → Int32) (n W : Nat) (R : Nat → List Nat) : Prop := cz_om s n W (18 * W) R ∧ ∀ i, i < n → s (111 + 11 * i + 2) ≠ nI 3
/-- a place's number -/
def cz_no (s : Nat → Int32) (k : Nat) : Nat := (s k).toNatClampNeg
theorem cz_no_e {s : Nat → Int32} {k v : Nat} (h : s k = nI v) (hv : v < 2 ^ 31) : cz_no s k = v := by
  unfold cz_no
  rw [h, cz_cl hv]
def cz_wA (s : Nat → Int32) (W : Nat) (R : Nat → List Nat) : (Nat → Int32) × (Nat → Int32) := cz_wa s (cz_no s (5 + 2 * (W % 4))) (cz_no s (5 + 2 * (W % 4) + 1)) (cz_no s 0) (R 0) (R 1)
/-- the state a week later -/
def cz_wK (s : Nat → Int32) (n W : Nat) (R : Nat → List Nat) : Nat → Int32 := cz_fi (upd (cz_wA s W R).1 3 ((cz_wA s W R).1 3 + nI 1)) n
theorem cz_cn_3 (s : Nat → Int32) (v : Int32) : ∀ k, cz_cn (upd s 3 v) k = cz_cn s k
  | 0 => rfl
  | k + 1 => by rw [cz_cn, cz_cn, cz_cn_3 s v k, pk_un (by omega)]
theorem cz_gt_kp {w : Nat → Int32} {r c rdm : Nat} {L : List Nat} {p : (Nat → Int32) × (Nat → Int32)} {j : Nat} (hc : c < 4) (hL : L.length ≤ 40) (hj : cz_kp j) (h2 : j ≠ 29 + r) (h3 : j < 31 + 40 * r ∨ 31 + 40 * r + 40 ≤ j) : (cz_gt w r c rdm L p).1 j = p.1 j := by
  unfold cz_gt
  dsimp only
  rw [pk_un h2, cz_rw, if_neg (by omega)]
  exact cz_go_kp hc hj L _
theorem cz_gt_u {w : Nat → Int32} {r c rdm : Nat} {L : List Nat} {p : (Nat → Int32) × (Nat → Int32)} {j : Nat} (h : p.2 j = nI 0 ∨ p.2 j = nI 1) : (cz_gt w r c rdm L p).2 j = nI 0 ∨ (cz_gt w r c rdm L p).2 j = nI 1 := cz_go_u L _ h
set_option maxHeartbeats 2000000 in
theorem m_week (M : cz_M) (a : Nat) {n W : Nat} {R : Nat → List Nat} (ok : cz_ok (M.1 (a + 1)) n W R) (hw : ∀ j, j < 40 → M.1 (a + 7) j = nI 0 ∨ M.1 (a + 7) j = nI 1) (hu : ∀ j, j < 40 → M.1 (a + 8) j = nI 0 ∨ M.1 (a + 8) j = nI 1) :
    ∃ M', f_X5_week M a = some (nI (cz_cn (cz_wA (M.1 (a + 1)) W R).1 n), M') ∧ M'.1 (a + 1) = cz_wK (M.1 (a + 1)) n W R ∧ (∀ j, j < n → M'.1 (a + 7) j = cz_wt (M.1 (a + 1)) j) ∧ (∀ j, j < n → M'.1 (a + 8) j = (cz_wA (M.1 (a + 1)) W R).2 j) ∧ (∀ j, j < 40 → M'.1 (a + 7) j = nI 0 ∨ M'.1 (a + 7) j = nI 1) ∧ (∀ j, j < 40 → M'.1 (a + 8) j = nI 0 ∨ M'.1 (a + 8) j = nI 1) ∧ cz_fr (fun x => x = a + 1 ∨ x = a + 7 ∨ x = a + 8 ∨ x = a + 9) M M' := by
  obtain ⟨⟨⟨hn, hs4, hW, hs3⟩, ⟨⟨rdm, hrd, hs0⟩, -, -⟩, hro, hst, hrw, hle, -⟩, -⟩ := ok
  have h4 : W % 4 < 4 := Nat.mod_lt _ (by decide)
  obtain ⟨c0, hc0, hq0⟩ := hro (2 * (W % 4)) (by omega)
  obtain ⟨c1, hc1, hq1⟩ := hro (2 * (W % 4) + 1) (by omega)
  obtain ⟨l1, l2, l3, l4, l5⟩ := hrw 0 (by decide)
  obtain ⟨r1, r2, r3, r4, r5⟩ := hrw 1 (by decide)
  obtain ⟨S0, hS0, hT0⟩ := hst c0 hc0
  obtain ⟨S1, hS1, hT1⟩ := hst c1 hc1
  have n0 : cz_no (M.1 (a + 1)) (5 + 2 * (W % 4)) = c0 := cz_no_e hq0 (by omega)
  have n1 : cz_no (M.1 (a + 1)) (5 + 2 * (W % 4) + 1) = c1 := cz_no_e hq1 (by omega)
  have n2 : cz_no (M.1 (a + 1)) 0 = rdm := cz_no_e hs0 (by omega)
  unfold cz_wK cz_wA
  rw [n0, n1, n2]
  rw [f_X5_week]
  obtain ⟨M1, f1, w1, u1, o1, e1⟩ := m_wk1 M a hn hs4 (fun x16 M17 => (f_X5_goesThrough M17 a (nI 0)).bind fun M18 => (f_X5_goesThrough M18 a (nI 1)).bind fun M19 => cz_gd (cz_ib (nI 3) 551) (cz_gd (cz_ib (nI 3) 551) (cz_lt (cz_mI M19 (a + 1) (Int32.toNatClampNeg (nI 3)) ((M19.1 (a + 1) (Int32.toNatClampNeg (nI 3))) + (nI 1))) fun M21 => cz_it3 (f_X5_week_L69 a (fun x40 x41 M42 => some (x40, M42))) 4096 (nI 0) (nI 0) M21)))
  rw [f1]
  have hs1 : M1.1 (a + 1) = M.1 (a + 1) := (e1.1 (a + 1) (by omega)).1
  have hw1 : ∀ j, j < 40 → M1.1 (a + 7) j = nI 0 ∨ M1.1 (a + 7) j = nI 1 := fun j hj => by
    by_cases h : j < n
    · rw [w1 j h]; unfold cz_wt; split
      · exact Or.inr rfl
      · exact Or.inl rfl
    · rw [(o1 j (by omega)).1]; exact hw j hj
  have hu1 : ∀ j, j < 40 → M1.1 (a + 8) j = nI 0 ∨ M1.1 (a + 8) j = nI 1 := fun j hj => by
    by_cases h : j < n
    · rw [u1 j h]; exact Or.inl rfl
    · rw [(o1 j (by omega)).2]; exact hu j hj
  obtain ⟨M2, f2, g2, e2⟩ := m_goes M1 a (r := 0) (c := c0) (rdm := rdm) (S := S0) (W := W) (R 0) (by decide) (by rw [hs1]; exact hs3) (by omega) (by rw [hs1]; exact hq0) hc0 hrd (by rw [hs1]; exact hs0) (by rw [hs1]; exact hT0) hS0 l2 (by rw [hs1]; exact l1) (by rw [hs1]; exact l3) (fun i hi => ⟨by have := (l5 i hi).1; omega, by rw [hs1]; exact (hle i (l5 i hi).1).1⟩) hw1 hu1
  rw [f2, Option.bind_some]
  have k2 : ∀ j, cz_kp j → j ≠ 29 → (j < 31 ∨ 71 ≤ j) → M2.1 (a + 1) j = M.1 (a + 1) j := fun j h1 h2 h3 => by
    have h := congrArg Prod.fst g2
    dsimp only at h
    rw [h, cz_gt_kp hc0 l2 h1 h2 h3, hs1]
  have hw2 : M2.1 (a + 7) = M1.1 (a + 7) := (e2.1 (a + 7) (by omega)).1
  have hu2 : ∀ j, j < 40 → M2.1 (a + 8) j = nI 0 ∨ M2.1 (a + 8) j = nI 1 := fun j hj => by
    have h := congrArg Prod.snd g2
    dsimp only at h
    rw [h]
    exact cz_gt_u (hu1 j hj)
  have k3 : ∀ i, cz_lw (M.1 (a + 1)) i → cz_lw (M2.1 (a + 1)) i := fun i h => by
    unfold cz_lw at h ⊢
    rw [k2 (111 + 11 * i + 8) (by unfold cz_kp; omega) (by omega) (by omega), k2 (111 + 11 * i + 9) (by unfold cz_kp; omega) (by omega) (by omega), k2 (111 + 11 * i + 10) (by unfold cz_kp; omega) (by omega) (by omega)]
    exact h
  obtain ⟨M3, f3, g3, e3⟩ := m_goes M2 a (r := 1) (c := c1) (rdm := rdm) (S := S1) (W := W) (R 1) (by decide) (by rw [k2 3 (by unfold cz_kp; omega) (by omega) (by omega)]; exact hs3) (by omega) (by rw [k2 (5 + 2 * (W % 4) + 1) (by unfold cz_kp; omega) (by omega) (by omega)]; exact hq1) hc1 hrd (by rw [k2 0 (by unfold cz_kp; omega) (by omega) (by omega)]; exact hs0) (by rw [k2 (13 + 4 * c1) (by unfold cz_kp; omega) (by omega) (by omega)]; exact hT1) hS1 r2 (by rw [k2 (29 + 1) (by unfold cz_kp; omega) (by omega) (by omega)]; exact r1) (fun k h => by rw [k2 (31 + 40 * 1 + k) (by unfold cz_kp; omega) (by omega) (by omega)]; exact r3 k h) (fun i hi => ⟨by have := (r5 i hi).1; omega, k3 i (hle i (r5 i hi).1).1⟩) (by rw [hw2]; exact hw1) hu2
  rw [f3, Option.bind_some, cz_gdn (by decide) (by decide), cz_gdn (by decide) (by decide), cz_lt_e, cz_cl (by decide)]
  -- the ideal run
  have i1 := cz_gt_congr (w := M1.1 (a + 7)) (w' := cz_wt (M.1 (a + 1))) (r := 0) (c := c0) (rdm := rdm) (n := n) w1 (L := R 0) (s := M.1 (a + 1)) (u := M1.1 (a + 8)) (u' := fun _ => nI 0) (fun i hi => (l5 i hi).1) u1
  have g2a := congrArg Prod.fst g2
  have g2b := congrArg Prod.snd g2
  dsimp only at g2a g2b
  rw [hs1] at g2a g2b
  have i2 := cz_gt_congr (w := M2.1 (a + 7)) (w' := cz_wt (M.1 (a + 1))) (r := 1) (c := c1) (rdm := rdm) (n := n) (fun j hj => by rw [hw2]; exact w1 j hj) (L := R 1) (s := (cz_gt (cz_wt (M.1 (a + 1))) 0 c0 rdm (R 0) (M.1 (a + 1), fun _ => nI 0)).1) (u := M2.1 (a + 8)) (u' := (cz_gt (cz_wt (M.1 (a + 1))) 0 c0 rdm (R 0) (M.1 (a + 1), fun _ => nI 0)).2) (fun i hi => (r5 i hi).1) (fun j hj => by rw [g2b]; exact i1.2 j hj)
  have g3a := congrArg Prod.fst g3
  have g3b := congrArg Prod.snd g3
  dsimp only at g3a g3b
  rw [g2a, i1.1] at g3a g3b
  have ha : M3.1 (a + 1) = (cz_wa (M.1 (a + 1)) c0 c1 rdm (R 0) (R 1)).1 := g3a.trans i2.1
  have hb : ∀ j, j < n → M3.1 (a + 8) j = (cz_wa (M.1 (a + 1)) c0 c1 rdm (R 0) (R 1)).2 j := fun j hj => by rw [g3b]; exact i2.2 j hj
  have h34 : M3.1 (a + 1) 4 = nI n := by
    have h := congrArg Prod.fst g3
    dsimp only at h
    rw [h, cz_gt_kp hc1 r2 (by unfold cz_kp; omega) (by omega) (by omega)]
    exact (k2 4 (by unfold cz_kp; omega) (by omega) (by omega)).trans hs4
  have hu3 : ∀ j, j < 40 → M3.1 (a + 8) j = nI 0 ∨ M3.1 (a + 8) j = nI 1 := fun j hj => by
    rw [g3b]
    exact cz_gt_u (hu2 j hj)
  obtain ⟨M4, f4, g4, e4⟩ := m_wk2 (cz_mI M3 (a + 1) 3 (M3.1 (a + 1) 3 + nI 1)) a hn (by rw [cz_mI_s, pk_un (by decide)]; exact h34) (fun x40 x41 M42 => some (x40, M42))
  rw [f4]
  have e5 : cz_fr (fun x => x = a + 1) M3 M4 := (cz_fr.mI (D := fun x => x = a + 1) rfl).tr e4
  have w4 : M4.1 (a + 7) = M1.1 (a + 7) := ((e5.1 (a + 7) (by omega)).1).trans (((e3.1 (a + 7) (by omega)).1).trans hw2)
  have u4 : M4.1 (a + 8) = M3.1 (a + 8) := (e5.1 (a + 8) (by omega)).1
  refine ⟨M4, ?_, ?_, fun j hj => by rw [w4]; exact w1 j hj, fun j hj => by rw [u4]; exact hb j hj, by rw [w4]; exact hw1, by rw [u4]; exact hu3, ?_⟩
  · rw [cz_mI_s, cz_cn_3, ha]
  · rw [g4, cz_mI_s, ha]
  · exact (((e1.mono (fun x hx => by omega)).tr (e2.mono (fun x hx => by omega))).tr (e3.mono (fun x hx => by omega))).tr (e5.mono (fun x hx => by omega))
