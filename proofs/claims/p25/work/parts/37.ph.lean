/-! the class copies a block -/
theorem cz_mL_s {M : cz_M} {a : Nat} {v : Int64} : (cz_mL M a v).2.1 a = v := if_pos rfl
theorem c_letCopy {M : cz_M} {q q1 i : Nat} {s : Nat → Int32} (hne : q1 ≠ q) (rl : cz_rl M q1 s i) : ∃ M', f_X1_copyFrom M q q1 = some M' ∧ cz_rl M' q s i ∧ cz_fr (fun x => x = q) M M' := by
  have hq : q = q := rfl
  rw [f_X1_copyFrom]
  simp (disch := omega) only [cz_lt_e, cz_mI_s, cz_mI_o, cz_mL_1, cz_mI_2]
  refine ⟨_, rfl, ?_, ?_⟩
  · unfold cz_rl at rl ⊢
    simp (disch := omega) only [cz_mI_s, cz_mL_1, cz_mI_2, cz_mL_s, pk_us, pk_un]
    exact rl
  · exact ((((((((cz_fr.mI (D := fun x => x = q) hq).tr (cz_fr.mI hq)).tr (cz_fr.mL hq)).tr (cz_fr.mI hq)).tr (cz_fr.mI hq)).tr (cz_fr.mI hq)).tr (cz_fr.mI hq)).tr (cz_fr.mI hq)).tr ((cz_fr.mI (D := fun x => x = q) hq).tr (cz_fr.mI hq))
theorem c_cenCopy {M : cz_M} {q q1 : Nat} (hne : q1 ≠ q) : ∃ M', f_X0_copyFrom M q q1 = some M' ∧ (∀ f, f < 4 → M'.1 q f = M.1 q1 f) ∧ cz_fr (fun x => x = q) M M' := by
  have hq : q = q := rfl
  rw [f_X0_copyFrom]
  simp (disch := omega) only [cz_lt_e, cz_mI_s, cz_mI_o]
  refine ⟨_, rfl, fun f hf => ?_, ((cz_fr.mI (D := fun x => x = q) hq).tr (cz_fr.mI hq)).tr ((cz_fr.mI (D := fun x => x = q) hq).tr (cz_fr.mI hq))⟩
  rcases (show f = 0 ∨ f = 1 ∨ f = 2 ∨ f = 3 by omega) with rfl | rfl | rfl | rfl <;> simp (disch := omega) only [cz_mI_s, pk_us, pk_un]
theorem cz_rl_fr {M M' : cz_M} {q i : Nat} {s : Nat → Int32} {D : Nat → Prop} (h : cz_fr D M M') (hq : ¬ D q) (rl : cz_rl M q s i) : cz_rl M' q s i := by
  unfold cz_rl at rl ⊢
  rw [(h.1 q hq).1, (h.1 q hq).2]
  exact rl
theorem cz_rp_out {M M' : cz_M} {p n : Nat} {s : Nat → Int32} {R : Nat → List Nat} {D : Nat → Prop} (h : cz_fr D M M') (hD : ∀ x, D x → x < p ∨ p + 57 ≤ x) (hn : n ≤ 40) (rp : cz_rp M p s n R) : cz_rp M' p s n R := cz_rp_fr h (fun x hx => Or.inr (hD x hx)) hn rp
theorem va_c0 {f g : Nat → Int32} {n k : Nat} (h : k < n) : va_cpy f g 0 0 n k = f k := by
  unfold va_cpy
  rw [if_pos (by omega), show 0 + (k - 0) = k by omega]
set_option maxHeartbeats 2000000 in
theorem c_copy (M : cz_M) (a a1 : Nat) {n : Nat} {s : Nat → Int32} {R : Nat → List Nat} (hd : a + 57 ≤ a1 ∨ a1 + 57 ≤ a) (hn : n ≤ 40) (hs4 : s 4 = nI n) (hRl : ∀ r, r < 2 → (R r).length ≤ 40) (rp : cz_rp M a1 s n R) :
    ∃ M', f_X2_copyFrom M a a1 = some M' ∧ cz_rp M' a s n R ∧ cz_fr (fun x => a ≤ x ∧ x < a + 57) M M' := by
  have hout : ∀ {D : Nat → Prop} {A B : cz_M}, cz_fr D A B → (∀ x, D x → a ≤ x ∧ x < a + 57) → cz_rp A a1 s n R → cz_rp B a1 s n R := fun h hD r => cz_rp_out h (fun x hx => by have := hD x hx; omega) hn r
  have g3 : ∀ (A : cz_M) (K : Option cz_M), cz_gd (cz_cb (nI 0) (nI 0) (nI 3) 3 3) K = K := fun A K => cz_cbn (Nat.le_refl _) (by decide)
  have g8 : ∀ (A : cz_M) (K : Option cz_M), cz_gd (cz_cb (nI 0) (nI 0) (nI 8) 8 8) K = K := fun A K => cz_cbn (Nat.le_refl _) (by decide)
  rw [f_X2_copyFrom, g3 M, cz_lt_e, g8 M, cz_lt_e, cz_cl (show 0 < 2 ^ 31 by decide), cz_cl (show 3 < 2 ^ 31 by decide), cz_cl (show 8 < 2 ^ 31 by decide)]
  generalize hM2 : (cz_mA (cz_mA M (a + 1) (va_cpy (M.1 (a1 + 1)) (M.1 (a + 1)) 0 0 3)) (a + 3) (va_cpy ((cz_mA M (a + 1) (va_cpy (M.1 (a1 + 1)) (M.1 (a + 1)) 0 0 3)).1 (a1 + 3)) ((cz_mA M (a + 1) (va_cpy (M.1 (a1 + 1)) (M.1 (a + 1)) 0 0 3)).1 (a + 3)) 0 0 8)) = M2
  have e2 : cz_fr (fun x => x = a + 1 ∨ x = a + 3) M M2 := by rw [← hM2]; exact (cz_fr.mA (Or.inl rfl)).tr (cz_fr.mA (Or.inr rfl))
  have s2 : ∀ k, k < 3 → M2.1 (a + 1) k = s k := fun k hk => by
    rw [← hM2, cz_mA_1, if_neg (by omega), cz_mA_1, if_pos rfl, va_c0 hk]
    exact rp.1 k hk
  have o2 : ∀ k, k < 8 → M2.1 (a + 3) k = s (5 + k) := fun k hk => by
    rw [← hM2, cz_mA_1, if_pos rfl, va_c0 hk, cz_mA_1, if_neg (by omega)]
    exact rp.2.2.1 k hk
  have rp2 := hout e2 (fun x hx => by omega) rp
  obtain ⟨M3, ⟨c3, e3⟩, h3⟩ := cz_for2K (F := fun K => f_X2_copyFrom_L31 a a1 K) (fun k (m : cz_M) => (∀ c, c < k → ∀ f, f < 4 → m.1 (a + 2 + (7 + c)) f = s (13 + 4 * c + f)) ∧ cz_fr (fun x => a + 9 ≤ x ∧ x < a + 13) M2 m) (fun K m => K (nI 4) m) 4
    (fun k m hk ⟨i1, i2⟩ => by
      obtain ⟨m2, a1', a2, a3⟩ := c_cenCopy (M := m) (q := a + 2 + (7 + k)) (q1 := a1 + 2 + (7 + k)) (by omega)
      refine ⟨m2, fun K rec => ?_, fun c hc f hf => ?_, i2.tr (a3.mono (fun x hx => by omega))⟩
      · rw [f_X2_copyFrom_L31, if_neg (nI_ge hk (by decide)), cz_gdn hk (by decide), cz_gdn hk (by decide), cz_cl (by omega), a1', Option.bind_some, cz_lt_e, nI_add]
      · by_cases hck : c = k
        · subst hck
          rw [a2 f hf, (i2.1 _ (by omega)).1]
          exact rp2.2.2.2.1 c (by omega) f hf
        · rw [(a3.1 _ (by omega)).1]
          exact i1 c (by omega) f hf)
    (fun m hI K rec => by rw [f_X2_copyFrom_L31, if_pos (nI_le (Nat.le_refl _) (by decide))]) 4 0 M2 4096 (by omega) (by omega) ⟨fun c hc => by omega, cz_fr.rf⟩
  have rp3 := hout e3 (fun x hx => by omega) rp2
  obtain ⟨M4, ⟨c4, e4⟩, h4⟩ := cz_for2K (F := fun K => f_X2_copyFrom_L59 a a1 K) (fun k (m : cz_M) => (∀ i, i < k → cz_rl m (a + 4 + (9 + i)) s i) ∧ cz_fr (fun x => a + 13 ≤ x ∧ x < a + 53) M3 m) (fun K m => K (nI n) m) n
    (fun k m hk ⟨i1, i2⟩ => by
      have rpm := hout i2 (fun x hx => by omega) rp3
      obtain ⟨m2, a1', a2, a3⟩ := c_letCopy (M := m) (q := a + 4 + (9 + k)) (q1 := a1 + 4 + (9 + k)) (by omega) (rpm.2.2.2.2.2 k hk)
      refine ⟨m2, fun K rec => ?_, fun i hi => ?_, i2.tr (a3.mono (fun x hx => by omega))⟩
      · rw [f_X2_copyFrom_L59, rpm.2.1.2, hs4, if_neg (nI_ge hk (by omega)), cz_gdn (by omega) (by decide), cz_gdn (by omega) (by decide), cz_cl (by omega), a1', Option.bind_some, cz_lt_e, nI_add]
      · by_cases hik : i = k
        · subst hik; exact a2
        · exact cz_rl_fr a3 (by omega) (i1 i (by omega)))
    (fun m hI K rec => by
      have rpm := hout hI.2 (fun x hx => by omega) rp3
      rw [f_X2_copyFrom_L59, rpm.2.1.2, hs4, if_pos (nI_le (Nat.le_refl _) (by omega))]) n 0 M3 4096 (by omega) (by omega) ⟨fun i hi => by omega, cz_fr.rf⟩
  have rp4 := hout e4 (fun x hx => by omega) rp3
  obtain ⟨M5, ⟨c5, e5⟩, h5⟩ := cz_for2K (F := fun K => f_X2_copyFrom_L90 a a1 K) (fun k (m : cz_M) => (∀ r, r < k → cz_rr m (a + 5 + (48 + 2 * r)) (R r)) ∧ cz_fr (fun x => a + 53 ≤ x ∧ x < a + 57) M4 m) (fun K m => K (nI 2) m) 2
    (fun k m hk ⟨i1, i2⟩ => by
      have rpm := hout i2 (fun x hx => by omega) rp4
      obtain ⟨m2, a1', a2, a3⟩ := c_rowCopy (M := m) (q := a + 5 + (48 + 2 * k)) (q1 := a1 + 5 + (48 + 2 * k)) (rpm.2.2.2.2.1 k hk) (hRl k hk) (by omega) (by omega)
      refine ⟨m2, fun K rec => ?_, fun r hr => ?_, i2.tr (a3.mono (fun x hx => by omega))⟩
      · rw [f_X2_copyFrom_L90, if_neg (nI_ge hk (by decide)), cz_gdn hk (by decide), cz_gdn hk (by decide), cz_cl (by omega), a1', Option.bind_some, cz_lt_e, nI_add]
      · by_cases hrk : r = k
        · subst hrk; exact a2
        · exact cz_rr_fr a3 (by omega) (by omega) (i1 r (by omega)))
    (fun m hI K rec => by rw [f_X2_copyFrom_L90, if_pos (nI_le (Nat.le_refl _) (by decide))]) 2 0 M4 4096 (by omega) (by omega) ⟨fun r hr => by omega, cz_fr.rf⟩
  have rp5 := hout e5 (fun x hx => by omega) rp4
  have key : cz_it2 (f_X2_copyFrom_L31 a a1 (fun x15 M16 => cz_it2 (f_X2_copyFrom_L59 a a1 (fun x25 M26 => cz_it2 (f_X2_copyFrom_L90 a a1 (fun x35 M36 => cz_lt (cz_mI M36 a 7 (M36.1 a1 7)) fun M37 => cz_lt (cz_mI M37 a 8 (M37.1 a1 8)) fun M38 => some M38)) 4096 (nI 0) M26)) 4096 (nI 0) M16)) 4096 (nI 0) M2 = some (cz_mI (cz_mI M5 a 7 (M5.1 a1 7)) a 8 ((cz_mI M5 a 7 (M5.1 a1 7)).1 a1 8)) := by
    refine (h3 _).trans ?_
    refine (h4 _).trans ?_
    refine (h5 _).trans ?_
    rfl
  refine ⟨_, key, ⟨fun k hk => ?_, ⟨?_, ?_⟩, fun k hk => ?_, fun c hc f hf => ?_, fun r hr => ?_, fun i hi => ?_⟩, ?_⟩
  · rw [cz_mI_o (by omega), cz_mI_o (by omega), (e5.1 _ (by omega)).1, (e4.1 _ (by omega)).1, (e3.1 _ (by omega)).1]
    exact s2 k hk
  · rw [cz_mI_s, pk_us, cz_mI_o (by omega)]
    exact rp5.2.1.1
  · rw [cz_mI_s, pk_un (by decide), cz_mI_s, pk_us]
    exact rp5.2.1.2
  · rw [cz_mI_o (by omega), cz_mI_o (by omega), (e5.1 _ (by omega)).1, (e4.1 _ (by omega)).1, (e3.1 _ (by omega)).1]
    exact o2 k hk
  · rw [cz_mI_o (by omega), cz_mI_o (by omega), (e5.1 _ (by omega)).1, (e4.1 _ (by omega)).1]
    exact c3 c hc f hf
  · have := c5 r hr
    unfold cz_rr at this ⊢
    rw [cz_mI_o (by omega), cz_mI_o (by omega), cz_mI_o (by omega), cz_mI_o (by omega)]
    exact this
  · exact cz_rl_fr ((cz_fr.mI (D := fun x => x = a) rfl).tr (cz_fr.mI (D := fun x => x = a) rfl)) (by omega) (cz_rl_fr e5 (by omega) (c4 i hi))
  · exact ((((e2.mono (fun x hx => by omega)).tr (e3.mono (fun x hx => by omega))).tr (e4.mono (fun x hx => by omega))).tr (e5.mono (fun x hx => by omega))).tr ((cz_fr.mI ⟨by omega, by omega⟩).tr (cz_fr.mI ⟨by omega, by omega⟩))
