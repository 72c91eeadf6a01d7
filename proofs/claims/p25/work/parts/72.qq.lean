/-! the reference writes a letter -/
theorem m_clr {M : cz_M} {a n : Nat} (hn : n < 40) (x1 x2 x4 : Int32) (K : Int32 → cz_M → Option cz_M) : ∃ M', cz_it2 (f_X5_writes_L39 a x1 x2 (nI n) x4 K) 4096 (nI 0) M = K (nI 11) M' ∧ (M'.1 (a + 1) = fun j => if 111 + 11 * n ≤ j ∧ j < 111 + 11 * n + 11 then nI 0 else M.1 (a + 1) j) ∧ cz_fr (fun x => x = a + 1) M M' := by
  obtain ⟨M', ⟨i1, i2⟩, h⟩ := cz_for2 (F := f_X5_writes_L39 a x1 x2 (nI n) x4 K) (fun k (m : cz_M) => (∀ j, m.1 (a + 1) j = if 111 + 11 * n ≤ j ∧ j < 111 + 11 * n + k then nI 0 else M.1 (a + 1) j) ∧ cz_fr (fun x => x = a + 1) M m) (fun m => K (nI 11) m) 11
    (fun k m hk ⟨i1, i2⟩ => by
      refine ⟨cz_mI m (a + 1) (111 + 11 * n + k) (nI 0), fun rec => ?_, fun j => ?_, i2.tr (cz_fr.mI rfl)⟩
      · rw [f_X5_writes_L39, if_neg (nI_ge hk (by decide)), m_at, Option.bind_some, cz_gdn (by omega) (by decide), cz_cl (by omega), cz_lt_e, cz_lt_e, nI_add]
      · rw [cz_mI_s]
        by_cases hj : j = 111 + 11 * n + k
        · subst hj; rw [pk_us, if_pos (by omega)]
        · rw [pk_un hj, i1]
          by_cases h1 : 111 + 11 * n ≤ j ∧ j < 111 + 11 * n + k
          · rw [if_pos h1, if_pos (by omega)]
          · rw [if_neg h1, if_neg (by omega)])
    (fun m hI rec => by rw [f_X5_writes_L39, if_pos (nI_le (Nat.le_refl _) (by decide))]) 11 0 M 4096 (by omega) (by omega) ⟨fun j => by rw [if_neg (by omega)], cz_fr.rf⟩
  exact ⟨M', h, funext i1, i2⟩
theorem m_digs {M : cz_M} {a n p len : Nat} {r : Int32} {S : Nat → Int32} {pad : Nat → Nat} (hl : len ≤ 60) (hn : n < 40) (hp : p ≤ len) (h3 : 3 ≤ cz_rt pad len p) (h7 : M.1 a 7 = nI len) (hpad : ∀ k, k < len → M.1 (a + 6) k = nI (pad k)) (hM : M.1 (a + 1) = S) (h9 : S (111 + 11 * n + 9) = nI 0) (h10 : S (111 + 11 * n + 10) = nI 0) (K : Int32 → cz_M → Option cz_M) :
    ∃ M', cz_it2 (f_X5_writes_L154 a (nI p) (nI n) r K) 4096 (nI (cz_pm pad len p) - nI 1) M = K (nI 0 - nI 1) M' ∧ M'.1 (a + 1) = upd (upd S (111 + 11 * n + 9) (nI (cz_hr (cz_pw pad p) (min (cz_pm pad len p) 4) 0))) (111 + 11 * n + 10) (nI (cz_hr (cz_pw pad p) (cz_pm pad len p - 4) 4)) ∧ cz_fr (fun x => x = a + 1) M M' := by
  obtain ⟨pm1, pm8⟩ := cz_pm_8 h3
  have hw := cz_pw_26 hp h3
  have hch := cz_rt_ch hp h3
  have key : ∀ (j : Nat) (m : cz_M) (fuel : Nat), j ≤ cz_pm pad len p → j < fuel → m.1 (a + 1) = upd (upd S (111 + 11 * n + 9) (nI (cz_hr (cz_pw pad p) (min (cz_pm pad len p) 4 - j) j))) (111 + 11 * n + 10) (nI (cz_hr (cz_pw pad p) (cz_pm pad len p - max j 4) (max j 4))) → cz_fr (fun x => x = a + 1) M m → ∃ M', cz_it2 (f_X5_writes_L154 a (nI p) (nI n) r K) fuel (nI j - nI 1) m = K (nI 0 - nI 1) M' ∧ M'.1 (a + 1) = upd (upd S (111 + 11 * n + 9) (nI (cz_hr (cz_pw pad p) (min (cz_pm pad len p) 4) 0))) (111 + 11 * n + 10) (nI (cz_hr (cz_pw pad p) (cz_pm pad len p - 4) 4)) ∧ cz_fr (fun x => x = a + 1) M M' := by
    intro j
    induction j with
    | zero =>
      intro m fuel _ hf hm e
      obtain ⟨g, rfl⟩ : ∃ g, fuel = g + 1 := ⟨fuel - 1, by omega⟩
      refine ⟨m, ?_, hm, e⟩
      show f_X5_writes_L154 a (nI p) (nI n) r K (cz_it2 (f_X5_writes_L154 a (nI p) (nI n) r K) g) (nI 0 - nI 1) m = _
      rw [f_X5_writes_L154, if_pos (by decide)]
    | succ j ih =>
      intro m fuel hj hf hm e
      obtain ⟨g, rfl⟩ : ∃ g, fuel = g + 1 := ⟨fuel - 1, by omega⟩
      rw [cz_subN (by omega), Nat.add_sub_cancel]
      have hwj := hw j (by omega)
      have hlt : p + 2 + j < len := by unfold cz_pm at hj; omega
      have hnx : f_X5_next m a (nI p + nI 2 + nI j) = some (nI (97 + cz_pw pad p j)) := by
        rw [nI_add, nI_add, m_next hl (by rw [(e.1 a (by omega)).1]; exact h7) (fun k hk => by rw [(e.1 (a + 6) (by omega)).1]; exact hpad k hk) (by omega)]
        unfold cz_nx
        rw [if_pos hlt, hwj.2]
      have hat : f_X5_at (nI n) (nI 9 + nI j / nI 4) = some (nI (111 + 11 * n + (9 + j / 4))) := by rw [pk_div (by omega) (by decide) (by decide), nI_add, m_at]
      have hst : ∀ c, m.1 (a + 1) (111 + 11 * n + (9 + j / 4)) = nI c → f_X5_writes_L154 a (nI p) (nI n) r K (cz_it2 (f_X5_writes_L154 a (nI p) (nI n) r K) g) (nI j) m = cz_it2 (f_X5_writes_L154 a (nI p) (nI n) r K) g (nI j - nI 1) (cz_mI m (a + 1) (111 + 11 * n + (9 + j / 4)) (nI (cz_pw pad p j + 26 * c))) := fun c hc => by
        rw [f_X5_writes_L154, if_neg (nI_nlt (Nat.zero_le _) (by omega)), hat, Option.bind_some, cz_gdn (by omega) (by decide), hnx, Option.bind_some, cz_gdn (by omega) (by decide), cz_cl (by omega), hc, pk_mul, nI_add, cz_subN (by omega), cz_lt_e, cz_lt_e, cz_m1, show 26 * c + (97 + cz_pw pad p j) - 97 = cz_pw pad p j + 26 * c by omega]
      show ∃ M', f_X5_writes_L154 a (nI p) (nI n) r K (cz_it2 (f_X5_writes_L154 a (nI p) (nI n) r K) g) (nI j) m = _ ∧ _
      by_cases h4 : j < 4
      · have ej : j / 4 = 0 := Nat.div_eq_of_lt h4
        rw [hst (cz_hr (cz_pw pad p) (min (cz_pm pad len p) 4 - (j + 1)) (j + 1)) (by rw [hm, ej, pk_un (by omega), pk_us])]
        refine ih _ g (by omega) (by omega) ?_ (e.tr (cz_fr.mI rfl))
        have e1 : min (cz_pm pad len p) 4 - j = (min (cz_pm pad len p) 4 - (j + 1)) + 1 := by omega
        have e2 : max (j + 1) 4 = 4 := by omega
        have e3 : max j 4 = 4 := by omega
        rw [cz_mI_s, hm, ej, e1, e2, e3, cz_hr]
        funext k
        by_cases k10 : k = 111 + 11 * n + 10
        · subst k10; rw [pk_un (by omega), pk_us, pk_us]
        · by_cases k9 : k = 111 + 11 * n + 9
          · subst k9; rw [pk_us, pk_un (by omega), pk_us]
          · rw [pk_un k9, pk_un k10, pk_un k9, pk_un k10, pk_un k9]
      · have ej : j / 4 = 1 := by omega
        have e2 : max (j + 1) 4 = j + 1 := by omega
        have e3 : max j 4 = j := by omega
        rw [hst (cz_hr (cz_pw pad p) (cz_pm pad len p - (j + 1)) (j + 1)) (by rw [hm, ej, e2, pk_us])]
        refine ih _ g (by omega) (by omega) ?_ (e.tr (cz_fr.mI rfl))
        have e1 : min (cz_pm pad len p) 4 - j = 0 := by omega
        have e0 : min (cz_pm pad len p) 4 - (j + 1) = 0 := by omega
        have e4 : cz_pm pad len p - j = (cz_pm pad len p - (j + 1)) + 1 := by omega
        rw [cz_mI_s, hm, ej, e0, e1, e2, e3, e4, cz_hr, cz_hr, cz_hr]
        funext k
        by_cases k10 : k = 111 + 11 * n + 10
        · subst k10; rw [pk_us, pk_us]
        · rw [pk_un k10, pk_un k10, pk_un k10]
  refine key (cz_pm pad len p) M 4096 (Nat.le_refl _) (by omega) ?_ cz_fr.rf
  have e1 : min (cz_pm pad len p) 4 - cz_pm pad len p = 0 := by omega
  have e2 : cz_pm pad len p - max (cz_pm pad len p) 4 = 0 := by omega
  rw [hM, e1, e2, cz_hr, cz_hr]
  funext k
  by_cases k10 : k = 111 + 11 * n + 10
  · subst k10; rw [pk_us, h10]
  · rw [pk_un k10]
    by_cases k9 : k = 111 + 11 * n + 9
    · subst k9; rw [pk_us, h9]
    · rw [pk_un k9]
set_option maxHeartbeats 2000000 in
theorem m_wrB {M6 : cz_M} {a n W p r l len : Nat} {s : Nat → Int32} {pad : Nat → Nat} (hl : len ≤ 60) (hn : n < 40) (hr : r < 2) (hp : p ≤ len) (h3 : 3 ≤ cz_rt pad len p) (h7 : M6.1 a 7 = nI len) (hpad : ∀ k, k < len → M6.1 (a + 6) k = nI (pad k)) (hs3 : s 3 = nI W) (hsl : s (29 + r) = nI l) (hl40 : l < 40) (hM : M6.1 (a + 1) = upd s 4 (nI (n + 1))) :
    ∃ M', cz_it2 (f_X5_writes_L39 a (nI p) (nI (cz_rt pad len p)) (nI n) (nI r) (fun x13 M14 => (f_X5_at (nI n) (nI 0)).bind fun v16 => (f_X5_next M14 a (nI p)).bind fun v17 => cz_gd (cz_ib v16 551) (cz_lt (cz_mI M14 (a + 1) (Int32.toNatClampNeg v16) (v17 - (nI 48))) fun M18 => (f_X5_at (nI n) (nI 1)).bind fun v20 => cz_gd (cz_ib v20 551) (cz_lt (cz_mI M18 (a + 1) (Int32.toNatClampNeg v20) (nI r)) fun M21 => (f_X5_at (nI n) (nI 3)).bind fun v23 => cz_gd (cz_ib (nI 3) 551) (cz_gd (cz_ib v23 551) (cz_lt (cz_mI M21 (a + 1) (Int32.toNatClampNeg v23) (M21.1 (a + 1) (Int32.toNatClampNeg (nI 3)))) fun M25 => (f_X5_at (nI n) (nI 4)).bind fun v27 => cz_gd (cz_ib v27 551) (cz_lt (cz_mI M25 (a + 1) (Int32.toNatClampNeg v27) (-6 : Int32)) fun M28 => (f_X5_at (nI n) (nI 7)).bind fun v30 => cz_gd (cz_ib v30 551) (cz_lt (cz_mI M28 (a + 1) (Int32.toNatClampNeg v30) (-6 : Int32)) fun M31 => (f_X5_at (nI n) (nI 8)).bind fun v33 => cz_gd (cz_ib v33 551) (cz_lt (cz_mI M31 (a + 1) (Int32.toNatClampNeg v33) (nI (cz_rt pad len p) - (nI 2))) fun M34 => cz_lt (nI (cz_rt pad len p) - (nI 3)) fun v35 => cz_it2 (f_X5_writes_L154 a (nI p) (nI n) (nI r) (fun x44 M45 => cz_gd (cz_ib ((nI 29) + (nI r)) 551) ((f_X5_inRow (nI r) (M45.1 (a + 1) (Int32.toNatClampNeg ((nI 29) + (nI r))))).bind fun v48 => cz_gd (cz_ib v48 551) (cz_lt (cz_mI M45 (a + 1) (Int32.toNatClampNeg v48) (nI n)) fun M49 => cz_gd (cz_ib ((nI 29) + (nI r)) 551) (cz_gd (cz_ib ((nI 29) + (nI r)) 551) (cz_lt (cz_mI M49 (a + 1) (Int32.toNatClampNeg ((nI 29) + (nI r))) ((M49.1 (a + 1) (Int32.toNatClampNeg ((nI 29) + (nI r)))) + (nI 1))) fun M51 => some M51)))))) 4096 v35 M34))))))))) 4096 (nI 0) M6 = some M' ∧ M'.1 (a + 1) = cz_wr s n (cz_pt pad p) r (cz_pm pad len p) (cz_hr (cz_pw pad p) (min (cz_pm pad len p) 4) 0) (cz_hr (cz_pw pad p) (cz_pm pad len p - 4) 4) l ∧ cz_fr (fun x => x = a + 1) M6 M' := by
  obtain ⟨pm1, pm8⟩ := cz_pm_8 h3
  obtain ⟨k1, k2, k3, k4, k5⟩ := cz_rt_ch hp h3
  have epm : nI (cz_rt pad len p) - nI 2 = nI (cz_pm pad len p) := by rw [cz_subN (by omega)]; rfl
  have epm1 : nI (cz_rt pad len p) - nI 3 = nI (cz_pm pad len p) - nI 1 := by
    rw [cz_subN (by omega), cz_subN (by omega)]
    unfold cz_pm
    congr 1
  have at0 : f_X5_at (nI n) (nI 0) = some (nI (111 + 11 * n)) := m_at n 0
  obtain ⟨M1, f1, g1, e1⟩ := m_clr (M := M6) (a := a) hn (nI p) (nI (cz_rt pad len p)) (nI r) (fun x13 M14 => (f_X5_at (nI n) (nI 0)).bind fun v16 => (f_X5_next M14 a (nI p)).bind fun v17 => cz_gd (cz_ib v16 551) (cz_lt (cz_mI M14 (a + 1) (Int32.toNatClampNeg v16) (v17 - (nI 48))) fun M18 => (f_X5_at (nI n) (nI 1)).bind fun v20 => cz_gd (cz_ib v20 551) (cz_lt (cz_mI M18 (a + 1) (Int32.toNatClampNeg v20) (nI r)) fun M21 => (f_X5_at (nI n) (nI 3)).bind fun v23 => cz_gd (cz_ib (nI 3) 551) (cz_gd (cz_ib v23 551) (cz_lt (cz_mI M21 (a + 1) (Int32.toNatClampNeg v23) (M21.1 (a + 1) (Int32.toNatClampNeg (nI 3)))) fun M25 => (f_X5_at (nI n) (nI 4)).bind fun v27 => cz_gd (cz_ib v27 551) (cz_lt (cz_mI M25 (a + 1) (Int32.toNatClampNeg v27) (-6 : Int32)) fun M28 => (f_X5_at (nI n) (nI 7)).bind fun v30 => cz_gd (cz_ib v30 551) (cz_lt (cz_mI M28 (a + 1) (Int32.toNatClampNeg v30) (-6 : Int32)) fun M31 => (f_X5_at (nI n) (nI 8)).bind fun v33 => cz_gd (cz_ib v33 551) (cz_lt (cz_mI M31 (a + 1) (Int32.toNatClampNeg v33) (nI (cz_rt pad len p) - (nI 2))) fun M34 => cz_lt (nI (cz_rt pad len p) - (nI 3)) fun v35 => cz_it2 (f_X5_writes_L154 a (nI p) (nI n) (nI r) (fun x44 M45 => cz_gd (cz_ib ((nI 29) + (nI r)) 551) ((f_X5_inRow (nI r) (M45.1 (a + 1) (Int32.toNatClampNeg ((nI 29) + (nI r))))).bind fun v48 => cz_gd (cz_ib v48 551) (cz_lt (cz_mI M45 (a + 1) (Int32.toNatClampNeg v48) (nI n)) fun M49 => cz_gd (cz_ib ((nI 29) + (nI r)) 551) (cz_gd (cz_ib ((nI 29) + (nI r)) 551) (cz_lt (cz_mI M49 (a + 1) (Int32.toNatClampNeg ((nI 29) + (nI r))) ((M49.1 (a + 1) (Int32.toNatClampNeg ((nI 29) + (nI r)))) + (nI 1))) fun M51 => some M51)))))) 4096 v35 M34))))))))
  have hnx : f_X5_next M1 a (nI p) = some (nI (pad p)) := by
    rw [m_next hl (by rw [(e1.1 a (by omega)).1]; exact h7) (fun k hk => by rw [(e1.1 (a + 6) (by omega)).1]; exact hpad k hk) (by omega)]
    unfold cz_nx
    rw [if_pos (by omega)]
  have hw3 : M1.1 (a + 1) 3 = s 3 := by
    rw [g1]
    dsimp only
    rw [if_neg (by omega), hM, pk_un (by decide)]
  have hwl : M1.1 (a + 1) (29 + r) = nI l := by
    rw [g1]
    dsimp only
    rw [if_neg (by omega), hM, pk_un (by omega), hsl]
  have hz : ∀ f, f < 11 → M1.1 (a + 1) (111 + 11 * n + f) = nI 0 := fun f hf => by
    rw [g1]
    dsimp only
    rw [if_pos (by omega)]
  generalize hm9 : cz_mI (cz_mI (cz_mI (cz_mI (cz_mI (cz_mI M1 (a + 1) (111 + 11 * n) (nI (pad p - 48))) (a + 1) (111 + 11 * n + 1) (nI r)) (a + 1) (111 + 11 * n + 3) (s 3)) (a + 1) (111 + 11 * n + 4) (-6 : Int32)) (a + 1) (111 + 11 * n + 7) (-6 : Int32)) (a + 1) (111 + 11 * n + 8) (nI (cz_pm pad len p)) = m9
  have e9 : cz_fr (fun x => x = a + 1) M1 m9 := by
    rw [← hm9]
    exact (((((cz_fr.mI (D := fun x => x = a + 1) rfl).tr (cz_fr.mI rfl)).tr (cz_fr.mI rfl)).tr (cz_fr.mI rfl)).tr (cz_fr.mI rfl)).tr (cz_fr.mI rfl)
  have s9 : m9.1 (a + 1) = upd (upd (upd (upd (upd (upd (M1.1 (a + 1)) (111 + 11 * n) (nI (pad p - 48))) (111 + 11 * n + 1) (nI r)) (111 + 11 * n + 3) (s 3)) (111 + 11 * n + 4) (-6 : Int32)) (111 + 11 * n + 7) (-6 : Int32)) (111 + 11 * n + 8) (nI (cz_pm pad len p)) := by
    rw [← hm9]
    simp only [cz_mI_s]
  obtain ⟨M2, f2, g2, e2⟩ := m_digs (M := m9) (a := a) (r := nI r) hl hn hp h3 (by rw [(e9.1 a (by omega)).1, (e1.1 a (by omega)).1]; exact h7) (fun k hk => by rw [(e9.1 (a + 6) (by omega)).1, (e1.1 (a + 6) (by omega)).1]; exact hpad k hk) s9 (by rw [pk_un (by omega), pk_un (by omega), pk_un (by omega), pk_un (by omega), pk_un (by omega), pk_un (by omega)]; exact hz 9 (by decide)) (by rw [pk_un (by omega), pk_un (by omega), pk_un (by omega), pk_un (by omega), pk_un (by omega), pk_un (by omega)]; exact hz 10 (by decide)) (fun x44 M45 => cz_gd (cz_ib ((nI 29) + (nI r)) 551) ((f_X5_inRow (nI r) (M45.1 (a + 1) (Int32.toNatClampNeg ((nI 29) + (nI r))))).bind fun v48 => cz_gd (cz_ib v48 551) (cz_lt (cz_mI M45 (a + 1) (Int32.toNatClampNeg v48) (nI n)) fun M49 => cz_gd (cz_ib ((nI 29) + (nI r)) 551) (cz_gd (cz_ib ((nI 29) + (nI r)) 551) (cz_lt (cz_mI M49 (a + 1) (Int32.toNatClampNeg ((nI 29) + (nI r))) ((M49.1 (a + 1) (Int32.toNatClampNeg ((nI 29) + (nI r)))) + (nI 1))) fun M51 => some M51)))))
  have hl2 : M2.1 (a + 1) (29 + r) = nI l := by
    rw [g2, pk_un (by omega), pk_un (by omega), pk_un (by omega), pk_un (by omega), pk_un (by omega), pk_un (by omega), pk_un (by omega), pk_un (by omega)]
    exact hwl
  refine ⟨cz_mI (cz_mI M2 (a + 1) (31 + 40 * r + l) (nI n)) (a + 1) (29 + r) (nI (l + 1)), ?_, ?_, ((e1.tr e9).tr e2).tr ((cz_fr.mI (D := fun x => x = a + 1) rfl).tr (cz_fr.mI rfl))⟩
  · refine f1.trans ?_
    rw [at0, Option.bind_some, hnx, Option.bind_some, cz_gdn (by omega) (by decide), cz_cl (show 111 + 11 * n < 2 ^ 31 by omega), cz_subN (by omega), cz_lt_e, m_at, Option.bind_some, cz_gdn (by omega) (by decide), cz_cl (show 111 + 11 * n + 1 < 2 ^ 31 by omega), cz_lt_e, m_at, Option.bind_some, cz_gdn (by decide) (by decide), cz_gdn (by omega) (by decide), cz_cl (show 111 + 11 * n + 3 < 2 ^ 31 by omega), cz_cl (show 3 < 2 ^ 31 by decide), cz_mI_s, pk_un (by omega), cz_mI_s, pk_un (by omega), hw3, cz_lt_e, m_at, Option.bind_some, cz_gdn (by omega) (by decide), cz_cl (show 111 + 11 * n + 4 < 2 ^ 31 by omega), cz_lt_e, m_at, Option.bind_some, cz_gdn (by omega) (by decide), cz_cl (show 111 + 11 * n + 7 < 2 ^ 31 by omega), cz_lt_e, m_at, Option.bind_some, cz_gdn (by omega) (by decide), cz_cl (show 111 + 11 * n + 8 < 2 ^ 31 by omega), epm, cz_lt_e, epm1, cz_lt_e, hm9]
    refine f2.trans ?_
    rw [nI_add, cz_gdn (by omega) (by decide), cz_cl (show 29 + r < 2 ^ 31 by omega), hl2, m_inRow, Option.bind_some, cz_gdn (by omega) (by decide), cz_cl (show 31 + 40 * r + l < 2 ^ 31 by omega), cz_lt_e, cz_gdn (by omega) (by decide), cz_gdn (by omega) (by decide), cz_mI_s, pk_un (by omega), hl2, nI_add, cz_lt_e]
  · rw [cz_mI_s, cz_mI_s, g2]
    have hf := fun f (h : f < 11) => cz_wr_f (s := s) (n := n) (t := cz_pt pad p) (m := cz_pm pad len p) (u := cz_hr (cz_pw pad p) (min (cz_pm pad len p) 4) 0) (v := cz_hr (cz_pw pad p) (cz_pm pad len p - 4) 4) hr hl40 f h
    funext j
    by_cases j1 : j = 29 + r
    · subst j1; rw [pk_us, cz_wr_r]
    · rw [pk_un j1]
      by_cases j2 : j = 31 + 40 * r + l
      · subst j2; rw [pk_us, cz_wr_n hr]
      · rw [pk_un j2]
        by_cases j3 : 111 + 11 * n ≤ j ∧ j < 111 + 11 * n + 11
        · obtain ⟨f, hfl, rfl⟩ : ∃ f, f < 11 ∧ j = 111 + 11 * n + f := ⟨j - (111 + 11 * n), by omega, by omega⟩
          rw [hf f hfl]
          rcases (show f = 0 ∨ f = 1 ∨ f = 2 ∨ f = 3 ∨ f = 4 ∨ f = 5 ∨ f = 6 ∨ f = 7 ∨ f = 8 ∨ f = 9 ∨ f = 10 by omega) with rfl | rfl | rfl | rfl | rfl | rfl | rfl | rfl | rfl | rfl | rfl
          · rw [pk_un (by omega), pk_un (by omega), pk_un (by omega), pk_un (by omega), pk_un (by omega), pk_un (by omega), pk_un (by omega)]
            exact pk_us
          · rw [pk_un (by omega), pk_un (by omega), pk_un (by omega), pk_un (by omega), pk_un (by omega), pk_un (by omega), pk_us]; rfl
          · rw [pk_un (by omega), pk_un (by omega), pk_un (by omega), pk_un (by omega), pk_un (by omega), pk_un (by omega), pk_un (by omega), pk_un (by omega)]; exact hz 2 (by decide)
          · rw [pk_un (by omega), pk_un (by omega), pk_un (by omega), pk_un (by omega), pk_un (by omega), pk_us]; rfl
          · rw [pk_un (by omega), pk_un (by omega), pk_un (by omega), pk_un (by omega), pk_us]; rfl
          · rw [pk_un (by omega), pk_un (by omega), pk_un (by omega), pk_un (by omega), pk_un (by omega), pk_un (by omega), pk_un (by omega), pk_un (by omega)]; exact hz 5 (by decide)
          · rw [pk_un (by omega), pk_un (by omega), pk_un (by omega), pk_un (by omega), pk_un (by omega), pk_un (by omega), pk_un (by omega), pk_un (by omega)]; exact hz 6 (by decide)
          · rw [pk_un (by omega), pk_un (by omega), pk_un (by omega), pk_us]; rfl
          · rw [pk_un (by omega), pk_un (by omega), pk_us]; rfl
          · rw [pk_un (by omega), pk_us]; rfl
          · rw [pk_us]; rfl
        · rw [pk_un (by omega), pk_un (by omega), pk_un (by omega), pk_un (by omega), pk_un (by omega), pk_un (by omega), pk_un (by omega), pk_un (by omega), g1]
          dsimp only
          rw [if_neg j3, hM]
          by_cases j4 : j = 4
          · subst j4; rw [pk_us, cz_wr_4]
          · rw [pk_un j4, cz_wr_o j1 j2 j4 (by omega)]
