/-! the law's counts: members of a list among the first numbers, and their places -/
def cz_ix : List Nat → Nat → Nat
  | [], _ => 0
  | a :: l, i => if i = a then 0 else cz_ix l i + 1
theorem cz_ix_e : ∀ (L : List Nat), L.Nodup → ∀ k (h : k < L.length), cz_ix L L[k] = k
  | [], _, k, h => by simp at h
  | a :: l, hd, 0, h => by simp [cz_ix]
  | a :: l, hd, k + 1, h => by
    have h1 := List.nodup_cons.mp hd
    have hk : k < l.length := by simpa using h
    have hne : l[k] ≠ a := fun z => h1.1 (z ▸ List.getElem_mem hk)
    show cz_ix (a :: l) l[k] = k + 1
    rw [cz_ix, if_neg hne, cz_ix_e l h1.2 k hk]
def cz_mq (P : Nat → Nat) (L : List Nat) : Nat → Nat
  | 0 => 0
  | k + 1 => cz_mq P L k + (if k ∈ L then P k else 0)
theorem cz_mq_a {P : Nat → Nat} {L : List Nat} {a : Nat} (ha : a ∉ L) : ∀ k, cz_mq P (L ++ [a]) k = cz_mq P L k + (if a < k then P a else 0)
  | 0 => by simp [cz_mq]
  | k + 1 => by
    rw [cz_mq, cz_mq, cz_mq_a ha k]
    by_cases hk : k = a
    · subst hk
      simp [ha]
    · by_cases h2 : a < k
      · have h3 : a < k + 1 := by omega
        by_cases hm : k ∈ L
        · simp [hm, h2, h3]; omega
        · simp [hm, hk, h2, h3]
      · have h3 : ¬ a < k + 1 := by omega
        by_cases hm : k ∈ L
        · simp [hm, h2, h3]
        · simp [hm, hk, h2, h3]
def cz_t3 : Nat → Nat
  | 0 => 0
  | k + 1 => cz_t3 k + k
theorem cz_mq_t {L : List Nat} {n : Nat} (hd : L.Nodup) (hn : ∀ i ∈ L, i < n) : ∀ k, k ≤ L.length → cz_mq (fun _ => 1) (L.take k) n = k ∧ cz_mq (cz_ix L) (L.take k) n = cz_t3 k
  | 0, _ => by
    have e : ∀ (P : Nat → Nat) k, cz_mq P [] k = 0 := fun P k => by
      induction k with
      | zero => rfl
      | succ k ih => rw [cz_mq, ih]; simp
    rw [List.take_zero, e, e]
    exact ⟨rfl, rfl⟩
  | k + 1, h => by
    have hk : k < L.length := h
    obtain ⟨h1, h2⟩ := cz_mq_t hd hn k (by omega)
    have hno := cz_nt hd hk
    have hlt := hn L[k] (List.getElem_mem hk)
    rw [cz_take hk, cz_mq_a hno, cz_mq_a hno, h1, h2, if_pos hlt, if_pos hlt, cz_ix_e L hd k hk]
    exact ⟨rfl, rfl⟩
theorem cz_mq_n {L : List Nat} {n : Nat} (hd : L.Nodup) (hn : ∀ i ∈ L, i < n) : cz_mq (fun _ => 1) L n = L.length ∧ cz_mq (cz_ix L) L n = cz_t3 L.length := by
  have h := cz_mq_t hd hn L.length (Nat.le_refl _)
  rw [List.take_length] at h
  exact h
theorem cz_tri : ∀ k, k ≤ 40 → (nI k * (nI k - nI 1)) / nI 2 = nI (cz_t3 k) := by decide +kernel
theorem cz_ct_u {s : Nat → Int32} {f : Nat → Int32} {k t : Nat} (h : ∀ q, q < 3 → f q = nI (cz_ct s q k)) (ht : t < 3) (hs : s (111 + 11 * k + 2) = nI t) : ∀ q, q < 3 → upd f t (f t + nI 1) q = nI (cz_ct s q (k + 1)) := fun q hq => by
  have e : cz_ct s q (k + 1) = cz_ct s q k + (if s (111 + 11 * k + 2) = nI q then 1 else 0) := rfl
  rw [e, hs]
  by_cases hqt : q = t
  · subst hqt
    rw [pk_us, h q hq, nI_add, if_pos rfl]
  · rw [pk_un hqt, h q hq, if_neg (fun z => hqt (cz_nI_inj (by omega) (by omega) z).symm), Nat.add_zero]
theorem cz_mc_u {R : Nat → List Nat} {f : Nat → Int32} {k r e : Nat} (h : ∀ q, q < 2 → f q = nI (cz_mq (fun _ => 1) (R q) k)) (hr : r < 2) (he : e = if k ∈ R r then 1 else 0) (ho : ∀ q, q < 2 → q ≠ r → k ∉ R q) : ∀ q, q < 2 → upd f r (f r + nI e) q = nI (cz_mq (fun _ => 1) (R q) (k + 1)) := fun q hq => by
  have e1 : cz_mq (fun _ => 1) (R q) (k + 1) = cz_mq (fun _ => 1) (R q) k + (if k ∈ R q then 1 else 0) := rfl
  rw [e1]
  by_cases hqr : q = r
  · subst hqr
    rw [pk_us, h q hq, nI_add, he]
  · rw [pk_un hqr, h q hq, if_neg (ho q hq hqr), Nat.add_zero]
section LB
variable {b : Nat} {M : cz_M} {s : Nat → Int32} {n W : Nat} {R : Nat → List Nat} {hist : Nat → cz_S} {pc : Nat} {slot : Nat → cz_S} {used pad : Nat → Nat} {len : Nat}
abbrev cz_pR (R : Nat → List Nat) (k : Nat) : Nat := cz_mq (cz_ix (R 0)) (R 0) k + cz_mq (cz_ix (R 1)) (R 1) k
set_option maxHeartbeats 2000000 in
theorem l_holdsS {k : Nat} {f0 f1 : Nat → Int32} (J : cz_J b M (s, n, W, R) hist pc slot used pad len) (hg : cz_gx (s, n, W, R)) (hk : k < n) (h0 : ∀ q, q < 3 → f0 q = nI (cz_ct s q k)) (h1 : ∀ q, q < 2 → f1 q = nI (cz_mq (fun _ => 1) (R q) k)) :
    ∃ M' g0 g1, cz_J b M' (s, n, W, R) hist pc slot used pad len ∧ (∀ q, q < 3 → g0 q = nI (cz_ct s q (k + 1))) ∧ (∀ q, q < 2 → g1 q = nI (cz_mq (fun _ => 1) (R q) (k + 1))) ∧ ∀ K rec, f_L_holds_L55 b (nI n) K rec (cz_sd s k) (cz_sM s k) (nI (cz_sw s k)) (nI (cz_tw s k)) (nI (cz_pR R k)) (nI k) f0 f1 M = rec (cz_sd s (k + 1)) (cz_sM s (k + 1)) (nI (cz_sw s (k + 1))) (nI (cz_tw s (k + 1))) (nI (cz_pR R (k + 1))) (nI (k + 1)) g0 g1 M' := by
  have ok := k_ok J
  have hn := ok.1.1.1
  obtain ⟨M1, f1', J1⟩ := l_isLetter J hg hk
  obtain ⟨⟨q0, q1, q2⟩, ⟨q4, q5, q6, q8, q9, q10⟩, q3, q3n⟩ := k_letter J1 hk
  have hle := ok.1.2.2.2.2.2.1 k hk
  have hgi : cz_gl s W k := hg.1 k hk
  obtain ⟨l, m, hl1, hl8, hl, hml, hm, hg1, hg2⟩ := hgi
  have hm256 : m < 2 ^ 31 := Nat.lt_of_lt_of_le hml (Nat.pow_le_pow_right (by decide) (by omega))
  have hno : cz_no s (111 + 11 * k + 5) = m := cz_no_e hm hm256
  obtain ⟨t, ht, hte⟩ := hle.2.1
  have htn : cz_no s (111 + 11 * k) = t := cz_no_e hte (by omega)
  obtain ⟨r, hr, hr1, hr2⟩ := hle.2.2.1
  have hmem : ∀ q, q < 2 → k ∈ R q → s (111 + 11 * k + 1) = nI q ∧ s (111 + 11 * k + 2) = nI 0 := fun q hq z => ((ok.1.2.2.2.2.1 q hq).2.2.2.2 k z).2
  have hot : ∀ q, q < 2 → q ≠ r → k ∉ R q := fun q hq hqr z => hqr (cz_nI_inj (by omega) (by omega) ((hmem q hq z).1.symm.trans hr1))
  obtain ⟨vM, hvM, hvMe⟩ := cz_sM_0 ok k (by omega)
  obtain ⟨vM1, hvM1, hvMe1⟩ := cz_sM_0 ok (k + 1) (by omega)
  have htw := (cz_tw_p ok k (by omega)).1
  have esd : cz_sd s (k + 1) = cz_sd s k + (if s (111 + 11 * k + 2) = nI 1 then s (111 + 11 * k + 4) else nI 0) := rfl
  have esM : cz_sM s (k + 1) = if s (111 + 11 * k + 2) = nI 1 then (if cz_sM s k < s (111 + 11 * k + 4) then s (111 + 11 * k + 4) else cz_sM s k) else cz_sM s k := rfl
  have esw : cz_sw s (k + 1) = cz_sw s k + (if s (111 + 11 * k + 2) = nI 1 then cz_pc (cz_no s (111 + 11 * k + 5)) else 0) := rfl
  have etw : cz_tw s (k + 1) = if s (111 + 11 * k + 2) = nI 0 then cz_tw s k ||| 2 ^ cz_no s (111 + 11 * k) else cz_tw s k := rfl
  have epR : cz_pR R (k + 1) = cz_pR R k + ((if k ∈ R 0 then cz_ix (R 0) k else 0) + (if k ∈ R 1 then cz_ix (R 1) k else 0)) := by
    show (cz_mq (cz_ix (R 0)) (R 0) k + (if k ∈ R 0 then cz_ix (R 0) k else 0)) + (cz_mq (cz_ix (R 1)) (R 1) k + (if k ∈ R 1 then cz_ix (R 1) k else 0)) = _
    unfold cz_pR
    omega
  have hcl0 : Int32.toNatClampNeg (nI 0) = 0 := cz_cl (by decide)
  have hcl1 : Int32.toNatClampNeg (nI 1) = 1 := cz_cl (by decide)
  have hcl2 : Int32.toNatClampNeg (nI 2) = 2 := cz_cl (by decide)
  have hclr : Int32.toNatClampNeg (nI r) = r := cz_cl (by omega)
  have hW : W < 2 ^ 20 := ok.1.1.2.2.1
  rcases hle.2.2.2.1 with hs | hs | hs | hs
  · -- it waits
    obtain ⟨rfl, -⟩ := hg2 (by rw [hs]; decide)
    obtain ⟨p, hp, hpe⟩ := List.mem_iff_getElem.mp (hr2 hs)
    have hnd := (ok.1.2.2.2.2.1 r hr).2.2.2.1
    have hix : cz_ix (R r) k = p := by rw [← hpe]; exact cz_ix_e _ hnd p hp
    have hpl : (if k ∈ R 0 then cz_ix (R 0) k else 0) + (if k ∈ R 1 then cz_ix (R 1) k else 0) = p := by
      rcases (show r = 0 ∨ r = 1 by omega) with rfl | rfl
      · rw [if_pos (hr2 hs), if_neg (hot 1 (by decide) (by decide)), hix, Nat.add_zero]
      · rw [if_neg (hot 0 (by decide) (by decide)), if_pos (hr2 hs), hix, Nat.zero_add]
    refine ⟨M1, upd f0 0 (f0 0 + nI 1), upd f1 r (f1 r + nI 1), J1, cz_ct_u h0 (by decide) hs, cz_mc_u h1 hr (by rw [if_pos (hr2 hs)]) hot, fun K rec => ?_⟩
    rw [f_L_holds_L55, if_neg (nI_ge hk (by omega)), f1', cz_b2_s, if_pos rfl, q2, hs, Option.bind_some, if_pos rfl, cz_gdn (by decide) (by decide), cz_gdn (by decide) (by decide), cz_lt_e, q1, hr1, Option.bind_some, cz_gdn hr (by decide), cz_gdn hr (by decide), cz_lt_e, q3 r hr p hp hpe, Option.bind_some, cz_lt_e, cz_lt_e, hvMe, if_pos (nI_le (Nat.zero_le _) hvM), q6, hno, Option.bind_some, cz_lt_e, q0, hte, Option.bind_some, cz_lt_e, cz_lt_e, cz_tm1 _ htw t ht, nI_add, nI_add, nI_add, hcl0, hclr, esd, esM, esw, etw, epR, hpl]
    rw [if_neg (show ¬ s (111 + 11 * k + 2) = nI 1 by rw [hs]; decide), if_neg (show ¬ s (111 + 11 * k + 2) = nI 1 by rw [hs]; decide), if_neg (show ¬ s (111 + 11 * k + 2) = nI 1 by rw [hs]; decide), if_pos hs, htn, hvMe]
    rfl
  · -- it has come
    obtain ⟨⟨v, d, hd1, hd2, hv, hd⟩, c, hc, h7⟩ := hg1 hs
    have hno0 : ∀ q, q < 2 → k ∉ R q := fun q hq z => absurd (hs.symm.trans (hmem q hq z).2) (by decide)
    refine ⟨M1, upd f0 1 (f0 1 + nI 1), upd f1 r (f1 r + nI 0), J1, cz_ct_u h0 (by decide) hs, cz_mc_u h1 hr (by rw [if_neg (hno0 r hr)]) hot, fun K rec => ?_⟩
    have eM : (if nI d ≤ nI vM then cz_sM s k else nI d) = cz_sM s (k + 1) := by
      rw [esM, if_pos hs, hd, hvMe]
      by_cases hdv : d ≤ vM
      · rw [if_pos (nI_le hdv hvM), if_neg (nI_nlt hdv hvM)]
      · rw [if_neg (nI_ge (by omega) (by omega)), if_pos (nI_lt (by omega) (by omega))]
    have hfin : f_L_holds_L55 b (nI n) K rec (cz_sd s k) (cz_sM s k) (nI (cz_sw s k)) (nI (cz_tw s k)) (nI (cz_pR R k)) (nI k) f0 f1 M = rec (cz_sd s k + nI d) (if nI d ≤ nI vM then cz_sM s k else nI d) (nI (cz_sw s k + cz_pc m)) (nI (cz_tw s k)) (nI (cz_pR R k)) (nI (k + 1)) (upd f0 1 (f0 1 + nI 1)) (upd f1 r (f1 r + nI 0)) M1 := by
      rw [f_L_holds_L55, if_neg (nI_ge hk (by omega)), f1', cz_b2_s, if_pos rfl, q2, hs, Option.bind_some, if_neg (by decide), if_pos rfl, q5, hd, Option.bind_some, cz_gdn (by decide) (by decide), cz_gdn (by decide) (by decide), cz_lt_e, q1, hr1, Option.bind_some, cz_gdn hr (by decide), cz_gdn hr (by decide), cz_lt_e, cz_lt_e, cz_lt_e, q6, hno, Option.bind_some, Option.bind_some, cz_lt_e, cz_lt_e, cz_lt_e, cz_lt_e, cz_lt_e, cz_lt_e, cz_tm0 _ htw, nI_add, nI_add, nI_add, hcl1, hclr, Nat.add_zero (cz_pR R k), hvMe]
      split <;> rfl
    rw [hfin, eM, esd, esw, etw, epR, if_pos hs, if_pos hs, hno, if_neg (show ¬ s (111 + 11 * k + 2) = nI 0 by rw [hs]; decide), if_neg (hno0 0 (by decide)), if_neg (hno0 1 (by decide)), hd]
    rfl
  · -- it is burnt
    obtain ⟨rfl, -⟩ := hg2 (by rw [hs]; decide)
    have hno0 : ∀ q, q < 2 → k ∉ R q := fun q hq z => absurd (hs.symm.trans (hmem q hq z).2) (by decide)
    refine ⟨M1, upd f0 2 (f0 2 + nI 1), upd f1 r (f1 r + nI 0), J1, cz_ct_u h0 (by decide) hs, cz_mc_u h1 hr (by rw [if_neg (hno0 r hr)]) hot, fun K rec => ?_⟩
    rw [f_L_holds_L55, if_neg (nI_ge hk (by omega)), f1', cz_b2_s, if_pos rfl, q2, hs, Option.bind_some, if_neg (by decide), if_neg (by decide), if_pos rfl, cz_gdn (by decide) (by decide), cz_gdn (by decide) (by decide), cz_lt_e, q1, hr1, Option.bind_some, cz_gdn hr (by decide), cz_gdn hr (by decide), cz_lt_e, cz_lt_e, cz_lt_e, hvMe, if_pos (nI_le (Nat.zero_le _) hvM), q6, hno, Option.bind_some, cz_lt_e, cz_lt_e, cz_lt_e, cz_tm0 _ htw, nI_add, nI_add, nI_add, hcl2, hclr, Nat.add_zero (cz_pR R k), esd, esM, esw, etw, epR]
    rw [if_neg (show ¬ s (111 + 11 * k + 2) = nI 1 by rw [hs]; decide), if_neg (show ¬ s (111 + 11 * k + 2) = nI 1 by rw [hs]; decide), if_neg (show ¬ s (111 + 11 * k + 2) = nI 1 by rw [hs]; decide), if_neg (show ¬ s (111 + 11 * k + 2) = nI 0 by rw [hs]; decide), if_neg (hno0 0 (by decide)), if_neg (hno0 1 (by decide)), hvMe]
    rfl
  · exact absurd hs (ok.2 k hk)
theorem l_holdsL (hg : cz_gx (s, n, W, R)) :
    ∀ (d k fuel : Nat) (M : cz_M) (f0 f1 : Nat → Int32), k + d = n → d < fuel → cz_J b M (s, n, W, R) hist pc slot used pad len → (∀ q, q < 3 → f0 q = nI (cz_ct s q k)) → (∀ q, q < 2 → f1 q = nI (cz_mq (fun _ => 1) (R q) k)) →
    ∃ M' g0 g1, cz_J b M' (s, n, W, R) hist pc slot used pad len ∧ (∀ q, q < 3 → g0 q = nI (cz_ct s q n)) ∧ (∀ q, q < 2 → g1 q = nI (cz_mq (fun _ => 1) (R q) n)) ∧ ∀ K, cz_it9 (f_L_holds_L55 b (nI n) K) fuel (cz_sd s k) (cz_sM s k) (nI (cz_sw s k)) (nI (cz_tw s k)) (nI (cz_pR R k)) (nI k) f0 f1 M = K (cz_sd s n) (cz_sM s n) (nI (cz_sw s n)) (nI (cz_tw s n)) (nI (cz_pR R n)) (nI n) g0 g1 M' := by
  intro d
  induction d with
  | zero =>
    intro k fuel M f0 f1 hk hf J h0 h1
    obtain rfl : k = n := by omega
    obtain ⟨g, rfl⟩ : ∃ g, fuel = g + 1 := ⟨fuel - 1, by omega⟩
    have hn := (k_ok J).1.1.1
    refine ⟨M, f0, f1, J, h0, h1, fun K => ?_⟩
    show f_L_holds_L55 b (nI k) K (cz_it9 (f_L_holds_L55 b (nI k) K) g) _ _ _ _ _ _ _ _ _ = _
    rw [f_L_holds_L55, if_pos (nI_le (Nat.le_refl _) (by omega))]
  | succ d ih =>
    intro k fuel M f0 f1 hk hf J h0 h1
    obtain ⟨g, rfl⟩ : ∃ g, fuel = g + 1 := ⟨fuel - 1, by omega⟩
    obtain ⟨M1, g0, g1, J1, e0, e1, st⟩ := l_holdsS J hg (show k < n by omega) h0 h1
    obtain ⟨M2, i0, i1, J2, a0, a1, a2⟩ := ih (k + 1) g M1 g0 g1 (by omega) (by omega) J1 e0 e1
    exact ⟨M2, i0, i1, J2, a0, a1, fun K => (st K _).trans (a2 K)⟩
end LB
