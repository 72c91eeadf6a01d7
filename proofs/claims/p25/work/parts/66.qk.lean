/-! put, on both sides -/
theorem cz_pad {b : Nat} {M M' : cz_M} {now : cz_S} {hist : Nat → cz_S} {pc : Nat} {slot : Nat → cz_S} {used pad pad' : Nat → Nat} {len len' : Nat} (wf : cz_wq now hist pc slot used pad len) (cv : cz_cv b M now hist pc slot used pad len) (rv : cz_rv (b + 461) M now hist pc slot used pad len)
    (h : cz_fr (fun x => x = b ∨ x = b + 118 ∨ x = b + 461 ∨ x = b + 461 + 6) M M') (h6 : M'.1 b 6 = M.1 b 6) (h3 : M'.1 (b + 461) 3 = M.1 (b + 461) 3) (hl : len' ≤ 60) (hp : ∀ k, k < len' → 33 ≤ pad' k ∧ pad' k ≤ 126) (c6' : M'.1 b 7 = nI len') (c7' : ∀ k, k < len' → M'.1 (b + 118) k = nI (pad' k)) (r6' : M'.1 (b + 461) 7 = nI len') (r7' : ∀ k, k < len' → M'.1 (b + 461 + 6) k = nI (pad' k)) :
    cz_wq now hist pc slot used pad' len' ∧ cz_cv b M' now hist pc slot used pad' len' ∧ cz_rv (b + 461) M' now hist pc slot used pad' len' := by
  obtain ⟨c1, c2, ⟨π, hp1, hp2⟩, c4, c5, c6, c7⟩ := cv
  obtain ⟨v1, v2, v3, v4, v5, v6, v7⟩ := rv
  have hx : ∀ x, x ≠ b → x ≠ b + 118 → x ≠ b + 461 → x ≠ b + 461 + 6 → M'.1 x = M.1 x ∧ M'.2.1 x = M.2.1 x := fun x h1 h2 h3 h4 => h.1 x (by omega)
  refine ⟨⟨wf.1, wf.2.1, wf.2.2.1, hl, hp⟩, ⟨?_, ?_, ⟨π, fun i hi => ?_, hp2⟩, fun i hi => ?_, fun i hi => ?_, c6', c7'⟩, ⟨?_, ?_, ?_, ?_, r6', r7', ?_⟩⟩
  · exact cz_srp_w (fun x h1 h2 => hx x (by omega) (by omega) (by omega) (by omega)) wf.1.1.1.1.1 c1
  · rw [h6, c2]
  · rw [h.2]; exact hp1 i hi
  · rw [h.2]
    have hpi := hp1 i (by have := wf.2.1.1; omega)
    exact cz_srp_w (fun x h1 h2 => hx x (by rw [hpi.2] at h1; omega) (by rw [hpi.2] at h1; omega) (by rw [hpi.2] at h2; omega) (by rw [hpi.2] at h2; omega)) (wf.2.1.2 i hi).1.1.1.1 (c4 i hi)
  · rw [(hx (b + 117) (by omega) (by omega) (by omega) (by omega)).1]
    exact ⟨(c5 i hi).1, fun hu => cz_srp_w (fun x h1 h2 => hx x (by omega) (by omega) (by omega) (by omega)) ((wf.2.2.1 i hi).2 hu).1.1.1.1 ((c5 i hi).2 hu)⟩
  · rw [(hx _ (by omega) (by omega) (by omega) (by omega)).1]; exact v1
  · rw [h3]; exact v2
  · rw [(hx _ (by omega) (by omega) (by omega) (by omega)).1]; exact v3
  · rw [(hx (b + 461 + 5) (by omega) (by omega) (by omega) (by omega)).1, (hx (b + 461 + 4) (by omega) (by omega) (by omega) (by omega)).1]; exact v4
  · unfold cz_fg at v7 ⊢
    rw [(hx (b + 461 + 7) (by omega) (by omega) (by omega) (by omega)).1, (hx (b + 461 + 8) (by omega) (by omega) (by omega) (by omega)).1]
    exact v7
/-- the pad with the characters behind it -/
def cz_pp (pad : Nat → Nat) (len N L : Nat) : Nat → Nat := fun k => if k < len then pad k else cz_by N (len + L - 1 - k)
theorem cz_chrN : ∀ c, c < 256 → cz_chr (nI c) = nI c ∧ cz_hb (nI c) = true := by decide +kernel
theorem cz_m1 (j : Nat) : nI j + (-1) = nI j - nI 1 := by
  rw [Int32.sub_eq_add_neg]
  rfl
theorem c_putL {M : cz_M} {b N L len : Nat} {pad : Nat → Nat} (hN : N < 2 ^ 64) (hL : L ≤ 8) (h60 : len + L ≤ 60) (h7 : M.1 b 7 = nI len) (hpad : ∀ k, k < len → M.1 (b + 118) k = nI (pad k)) :
    ∃ M', cz_it2 (f_X4_put_L31 b (cz_L N) (fun x11 M12 => some ((M12.1 b 7), M12))) 4096 (nI L - nI 1) M = some (nI (len + L), M') ∧ cz_fr (fun x => x = b ∨ x = b + 118) M M' ∧ M'.1 b 6 = M.1 b 6 ∧ M'.1 b 7 = nI (len + L) ∧ ∀ k, k < len + L → M'.1 (b + 118) k = nI (cz_pp pad len N L k) := by
  have key : ∀ (j : Nat) (m : cz_M) (fuel : Nat), j ≤ L → j < fuel → cz_fr (fun x => x = b ∨ x = b + 118) M m → m.1 b 6 = M.1 b 6 → m.1 b 7 = nI (len + (L - j)) → (∀ k, k < len + (L - j) → m.1 (b + 118) k = nI (cz_pp pad len N L k)) → ∃ M', cz_it2 (f_X4_put_L31 b (cz_L N) (fun x11 M12 => some ((M12.1 b 7), M12))) fuel (nI j - nI 1) m = some (nI (len + L), M') ∧ cz_fr (fun x => x = b ∨ x = b + 118) M M' ∧ M'.1 b 6 = M.1 b 6 ∧ M'.1 b 7 = nI (len + L) ∧ ∀ k, k < len + L → M'.1 (b + 118) k = nI (cz_pp pad len N L k) := by
    intro j
    induction j with
    | zero =>
      intro m fuel _ hf e h6 h7 hk
      obtain ⟨g, rfl⟩ : ∃ g, fuel = g + 1 := ⟨fuel - 1, by omega⟩
      rw [Nat.sub_zero] at h7 hk
      refine ⟨m, ?_, e, h6, h7, hk⟩
      show f_X4_put_L31 b (cz_L N) (fun x11 M12 => some ((M12.1 b 7), M12)) (cz_it2 (f_X4_put_L31 b (cz_L N) (fun x11 M12 => some ((M12.1 b 7), M12))) g) (nI 0 - nI 1) m = _
      rw [f_X4_put_L31, if_pos (by decide), h7]
    | succ j ih =>
      intro m fuel hj hf e h6 h7 hk
      obtain ⟨g, rfl⟩ : ∃ g, fuel = g + 1 := ⟨fuel - 1, by omega⟩
      rw [cz_subN (by omega), Nat.add_sub_cancel]
      have hb : cz_by N j < 256 := Nat.mod_lt _ (by decide)
      have hv : cz_chr (Int64.toInt32 (cz_usl (cz_L N) (nI 8 * nI j) &&& (255 : Int64))) = nI (cz_by N j) := by rw [cz_by_v hN (by omega), (cz_chrN _ hb).1]
      have hq : len + (L - (j + 1)) < 60 := by omega
      show ∃ M', f_X4_put_L31 b (cz_L N) (fun x11 M12 => some ((M12.1 b 7), M12)) (cz_it2 (f_X4_put_L31 b (cz_L N) (fun x11 M12 => some ((M12.1 b 7), M12))) g) (nI j) m = _ ∧ _
      rw [f_X4_put_L31, if_neg (nI_nlt (Nat.zero_le _) (by omega)), hv, (cz_chrN _ hb).2, cz_gd_t1, h7, cz_gdn hq (by decide), cz_cl (by omega), cz_lt_e, cz_lt_e, cz_lt_e, cz_m1, cz_mI_o (by omega), h7, nI_add]
      have hmm : cz_fr (fun x => x = b ∨ x = b + 118) m (cz_mI (cz_mI m (b + 118) (len + (L - (j + 1))) (nI (cz_by N j))) b 7 (nI (len + (L - (j + 1)) + 1))) := (cz_fr.mI (D := fun x => x = b ∨ x = b + 118) (Or.inr rfl)).tr (cz_fr.mI (Or.inl rfl))
      refine ih _ g (by omega) (by omega) (e.tr hmm) ?_ ?_ (fun k hkk => ?_)
      · rw [cz_mI_s, pk_un (by decide), cz_mI_o (by omega), h6]
      · rw [cz_mI_s, pk_us]
        congr 1
        omega
      · rw [cz_mI_o (by omega), cz_mI_s]
        by_cases hkq : k = len + (L - (j + 1))
        · subst hkq
          rw [pk_us]
          unfold cz_pp
          rw [if_neg (by omega)]
          congr 2
          omega
        · rw [pk_un hkq]; exact hk k (by omega)
  exact key L M 4096 (Nat.le_refl _) (by omega) cz_fr.rf rfl (by rw [Nat.sub_self, Nat.add_zero]; exact h7) (fun k hk => by
    rw [Nat.sub_self, Nat.add_zero] at hk
    unfold cz_pp
    rw [if_pos hk]
    exact hpad k hk)
theorem m_putL {M : cz_M} {a N L len : Nat} {pad : Nat → Nat} (hN : N < 2 ^ 64) (hL : L ≤ 8) (hL1 : 1 ≤ L) (h60 : len + L ≤ 60) (h7 : M.1 a 7 = nI len) (hpad : ∀ k, k < len → M.1 (a + 6) k = nI (pad k)) :
    ∃ M', cz_it2 (f_X5_put_L126 a (cz_L N) (nI L) (fun x111 M112 => cz_lt (cz_mI M112 a 7 ((M112.1 a 7) + nI L)) fun M113 => some ((M113.1 a 7), M113))) 4096 (nI 0) M = some (nI (len + L), M') ∧ cz_fr (fun x => x = a ∨ x = a + 6) M M' ∧ M'.1 a 3 = M.1 a 3 ∧ M'.1 a 7 = nI (len + L) ∧ ∀ k, k < len + L → M'.1 (a + 6) k = nI (cz_pp pad len N L k) := by
  obtain ⟨m, ⟨i1, i2, i3⟩, h⟩ := cz_for2 (F := f_X5_put_L126 a (cz_L N) (nI L) (fun x111 M112 => cz_lt (cz_mI M112 a 7 ((M112.1 a 7) + nI L)) fun M113 => some ((M113.1 a 7), M113))) (fun k (m : cz_M) => (∀ j, j < len → m.1 (a + 6) j = nI (pad j)) ∧ (∀ j, len + L - k ≤ j → j < len + L → m.1 (a + 6) j = nI (cz_pp pad len N L j)) ∧ cz_fr (fun x => x = a + 6) M m) (fun m => some (nI len + nI L, cz_mI m a 7 (nI len + nI L))) L
    (fun k m hk ⟨i1, i2, i3⟩ => by
      have ea : m.1 a = M.1 a := (i3.1 a (by omega)).1
      refine ⟨cz_mI m (a + 6) (len + L - 1 - k) (nI (cz_by N k)), fun rec => ?_, fun j hj => ?_, fun j h1 h2 => ?_, i3.tr (cz_fr.mI rfl)⟩
      · rw [f_X5_put_L126, if_neg (nI_ge hk (by omega)), ea, h7, nI_add, cz_subN (by omega), cz_subN (by omega), cz_gdn (by omega) (by decide), cz_cl (by omega), cz_by_v hN (by omega), cz_lt_e, cz_lt_e, nI_add]
      · rw [cz_mI_s, pk_un (by omega)]; exact i1 j hj
      · rw [cz_mI_s]
        by_cases hjk : j = len + L - 1 - k
        · subst hjk
          rw [pk_us]
          unfold cz_pp
          rw [if_neg (by omega)]
          congr 2
          omega
        · rw [pk_un hjk]; exact i2 j (by omega) h2)
    (fun m ⟨i1, i2, i3⟩ rec => by
      rw [f_X5_put_L126, if_pos (nI_le (Nat.le_refl _) (by omega)), cz_lt_e, (i3.1 a (by omega)).1, h7, cz_mI_s, pk_us]) L 0 M 4096 (by omega) (by omega) ⟨hpad, fun j h1 h2 => by omega, cz_fr.rf⟩
  rw [nI_add] at h
  have ea : m.1 a = M.1 a := (i3.1 a (by omega)).1
  refine ⟨_, h, (i3.mono (fun x hx => Or.inr hx)).tr (cz_fr.mI (Or.inl rfl)), ?_, ?_, fun k hk => ?_⟩
  · rw [cz_mI_s, pk_un (by decide), ea]
  · rw [cz_mI_s, pk_us]
  · rw [cz_mI_o (by omega)]
    by_cases hkl : k < len
    · rw [i1 k hkl]
      unfold cz_pp
      rw [if_pos hkl]
    · exact i2 k (by omega) hk
theorem o_put (M : cz_M) (b : Nat) (x : Int64) (iv : cz_iv b M) : ∃ v M1 M2, f_X4_put M b x = some (v, M1) ∧ f_X5_put M1 (b + 461) x = some (v, M2) ∧ cz_iv b M2 := by
  obtain ⟨now, hist, pc, slot, used, pad, len, wf, cv, rv⟩ := id iv
  obtain ⟨N, hN, rfl⟩ := cz_L_of x
  obtain ⟨L, hL, h1, h2⟩ := cz_len_of N 8
  have hlen : len ≤ 60 := wf.2.2.2.1
  have c6 : M.1 b 7 = nI len := cv.2.2.2.2.2.1
  have v5 : M.1 (b + 461) 7 = nI len := rv.2.2.2.2.1
  have hcl := c_lengthOf hN hL h1 h2
  by_cases hL0 : L = 0
  · subst hL0
    have hN0 : ∀ k, k < 8 → N / 2 ^ (8 * k) = 0 := fun k hk => h2 k (Nat.zero_le _) hk
    have hgc : cz_gc N 0 := fun k hk => by omega
    have hm := m_putL8 (M := M) (a := b + 461) (L := 1) hN (by decide) (Nat.le_refl _) (fun k k1 k2 => by omega) (fun k k1 k2 => hN0 k k2) (fun x101 x102 x103 => if x102 = nI 0 then (if ((M.1 (b + 461) 7) + x101) ≤ (nI 60) then (cz_it2 (f_X5_put_L126 (b + 461) (cz_L N) x101 (fun x111 M112 => cz_lt (cz_mI M112 (b + 461) 7 ((M112.1 (b + 461) 7) + x101)) fun M113 => some ((M113.1 (b + 461) 7), M113))) 4096 (nI 0) M) else (some ((-4 : Int32), M))) else (some ((-2 : Int32), M)))
    have hg1 : ¬ cz_gc N 1 := fun z => by
      have h3 := (z 0 (by decide)).1
      unfold cz_by at h3
      rw [hN0 0 (by decide)] at h3
      exact absurd h3 (by decide)
    refine ⟨(-2 : Int32), M, M, ?_, ?_, iv⟩
    · rw [f_X4_put, hcl.1 hgc, Option.bind_some, if_pos rfl]
    · rw [f_X5_put, hm.2 hg1, if_neg (by decide)]
  · have hm := fun (A : cz_M) => m_putL8 (M := A) (a := b + 461) (L := L) hN hL (by omega) (fun k _ k2 => h1 k k2) h2 (fun x101 x102 x103 => if x102 = nI 0 then (if ((A.1 (b + 461) 7) + x101) ≤ (nI 60) then (cz_it2 (f_X5_put_L126 (b + 461) (cz_L N) x101 (fun x111 M112 => cz_lt (cz_mI M112 (b + 461) 7 ((M112.1 (b + 461) 7) + x101)) fun M113 => some ((M113.1 (b + 461) 7), M113))) 4096 (nI 0) A) else (some ((-4 : Int32), A))) else (some ((-2 : Int32), A)))
    by_cases hg : cz_gc N L
    · have hne : ¬ nI L = nI 0 := fun z => hL0 (cz_nI_inj (by omega) (by omega) z)
      by_cases h60 : len + L ≤ 60
      · obtain ⟨M1, f1, e1, a6, a7, a8⟩ := c_putL (M := M) (b := b) hN hL h60 c6 cv.2.2.2.2.2.2
        have v5' : M1.1 (b + 461) 7 = nI len := by rw [(e1.1 _ (by omega)).1]; exact v5
        obtain ⟨M2, f2, e2, q3, q7, q8⟩ := m_putL (M := M1) (a := b + 461) (pad := pad) hN hL (by omega) h60 v5' (fun k hk => by rw [(e1.1 _ (by omega)).1]; exact rv.2.2.2.2.2.1 k hk)
        obtain ⟨w', c', r'⟩ := cz_pad (M' := M2) (pad' := cz_pp pad len N L) (len' := len + L) wf cv rv ((e1.mono (fun x hx => by omega)).tr (e2.mono (fun x hx => by omega))) (by rw [(e2.1 _ (by omega)).1, a6]) (by rw [q3, (e1.1 _ (by omega)).1]) h60 (fun k hk => by
          unfold cz_pp
          by_cases hkl : k < len
          · rw [if_pos hkl]; exact wf.2.2.2.2 k hkl
          · rw [if_neg hkl]; exact hg _ (by omega)) (by rw [(e2.1 _ (by omega)).1, a7]) (fun k hk => by rw [(e2.1 _ (by omega)).1]; exact a8 k hk) q7 q8
        refine ⟨nI (len + L), M1, M2, ?_, ?_, now, hist, pc, slot, used, _, _, w', c', r'⟩
        · rw [f_X4_put, hcl.1 hg, Option.bind_some, if_neg hne, c6, nI_add, if_pos (nI_le h60 (by decide)), cz_lt_e]
          exact f1
        · rw [f_X5_put, (hm M1).1 hg, if_pos rfl, v5', nI_add, if_pos (nI_le h60 (by decide))]
          exact f2
      · refine ⟨(-4 : Int32), M, M, ?_, ?_, iv⟩
        · rw [f_X4_put, hcl.1 hg, Option.bind_some, if_neg hne, c6, nI_add, if_neg (nI_ge (by omega) (by omega))]
        · rw [f_X5_put, (hm M).1 hg, if_pos rfl, v5, nI_add, if_neg (nI_ge (by omega) (by omega))]
    · refine ⟨(-2 : Int32), M, M, ?_, ?_, iv⟩
      · rw [f_X4_put, hcl.2 hg, Option.bind_some, if_pos rfl]
      · rw [f_X5_put, (hm M).2 hg, if_neg (by decide)]
