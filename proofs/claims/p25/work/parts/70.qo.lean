/-! the class writes a letter -/
theorem c_isWord : ∀ c, c < 128 → f_X4_isWord (nI c) = some (if 97 ≤ c ∧ c ≤ 122 then nI 1 else nI 0) := by decide +kernel
theorem c_begin1 (M : cz_M) (q : Nat) (x y : Int32) : ∃ M', f_X1_begin M q x y = some M' ∧ (M'.1 q 0 = x ∧ M'.1 q 1 = nI 0 ∧ M'.1 q 3 = nI 0 ∧ M'.1 q 4 = y ∧ M'.1 q 5 = nI 0 ∧ M'.1 q 7 = nI 0 ∧ M'.1 q 8 = nI 0 ∧ M'.1 q 9 = (-6 : Int32)) ∧ M'.2.1 q = cz_L 0 ∧ cz_fr (fun x => x = q) M M' := by
  refine ⟨_, (by unfold f_X1_begin; exact rfl), ?_, ?_, ?_⟩
  · refine ⟨?_, ?_, ?_, ?_, ?_, ?_, ?_, ?_⟩ <;> simp [cz_mI_1, cz_mL_1]
  · simp [cz_mI_2, cz_mL]
    rfl
  · exact (((((((((cz_fr.mI (D := fun x => x = q) rfl).tr (cz_fr.mI rfl)).tr (cz_fr.mL rfl)).tr (cz_fr.mI rfl)).tr (cz_fr.mI rfl)).tr (cz_fr.mI rfl)).tr (cz_fr.mI rfl)).tr (cz_fr.mI rfl)).tr (cz_fr.mI rfl)).tr (cz_fr.mI rfl)
theorem c_begin {M : cz_M} {p n : Nat} {x : Int32} (hn : n < 40) (h7 : M.1 p 7 = nI n) : ∃ M', f_X2_beginLetter M p x = some (some (p + 4 + (9 + n)), M') ∧ (M'.1 (p + 4 + (9 + n)) 0 = x ∧ M'.1 (p + 4 + (9 + n)) 1 = nI 0 ∧ M'.1 (p + 4 + (9 + n)) 3 = nI 0 ∧ M'.1 (p + 4 + (9 + n)) 4 = M.1 p 8 ∧ M'.1 (p + 4 + (9 + n)) 5 = nI 0 ∧ M'.1 (p + 4 + (9 + n)) 7 = nI 0 ∧ M'.1 (p + 4 + (9 + n)) 8 = nI 0 ∧ M'.1 (p + 4 + (9 + n)) 9 = (-6 : Int32)) ∧ M'.2.1 (p + 4 + (9 + n)) = cz_L 0 ∧ M'.1 p = upd (M.1 p) 7 (nI (n + 1)) ∧ cz_fr (fun x => x = p ∨ x = p + 4 + (9 + n)) M M' := by
  obtain ⟨M6, f6, g6, g7, e6⟩ := c_begin1 M (p + 4 + (9 + n)) x (M.1 p 8)
  have ep : M6.1 p = M.1 p := (e6.1 p (by omega)).1
  refine ⟨cz_mI M6 p 7 (nI (n + 1)), ?_, ?_, g7, ?_, (e6.mono (fun x hx => Or.inr hx)).tr (cz_fr.mI (Or.inl rfl))⟩
  · rw [f_X2_beginLetter, h7, if_pos (nI_lt hn (by decide)), cz_gdn hn (by decide), cz_cl (by omega), cz_lt_e, f6, Option.bind_some, ep, h7, nI_add, cz_lt_e]
  · rw [cz_mI_o (by omega)]; exact g6
  · rw [cz_mI_s, ep]
theorem c_send {M : cz_M} {p n r : Nat} {L : List Nat} (hn : n < 40) (hr : r < 2) (h7 : M.1 p 7 = nI (n + 1)) (rr : cz_rr M (p + 5 + (48 + 2 * r)) L) (hL : L.length < 40) : ∃ M', f_X2_sendNewest M p (nI r) = some M' ∧ M'.1 (p + 4 + (9 + n)) = upd (M.1 (p + 4 + (9 + n))) 1 (nI r) ∧ M'.2 = M.2 ∧ cz_rr M' (p + 5 + (48 + 2 * r)) (L ++ [n]) ∧ cz_fr (fun x => x = p + 4 + (9 + n) ∨ x = p + 5 + (48 + 2 * r) ∨ x = p + 5 + (48 + 2 * r) + 1) M M' := by
  obtain ⟨r1, r2⟩ := rr
  have hs : nI (n + 1) - nI 1 = nI n := by rw [cz_subN (by omega), Nat.add_sub_cancel]
  have q1 : (cz_mI M (p + 4 + (9 + n)) 1 (nI r)).1 (p + 5 + (48 + 2 * r)) 1 = nI L.length := by rw [cz_mI_o (by omega)]; exact r1
  have q2 : (cz_mI M (p + 4 + (9 + n)) 1 (nI r)).1 p 7 = nI (n + 1) := by rw [cz_mI_o (by omega)]; exact h7
  refine ⟨cz_mI (cz_mI (cz_mI M (p + 4 + (9 + n)) 1 (nI r)) (p + 5 + (48 + 2 * r) + 1) L.length (nI n)) (p + 5 + (48 + 2 * r)) 1 (nI (L.length + 1)), ?_, ?_, rfl, ⟨?_, fun k hk => ?_⟩, ((cz_fr.mI (D := fun x => x = p + 4 + (9 + n) ∨ x = p + 5 + (48 + 2 * r) ∨ x = p + 5 + (48 + 2 * r) + 1) (Or.inl rfl)).tr (cz_fr.mI (Or.inr (Or.inr rfl)))).tr (cz_fr.mI (Or.inr (Or.inl rfl)))⟩
  · rw [f_X2_sendNewest, h7, if_neg (nI_ge (by omega) (by omega)), hs, cz_gdn hn (by decide), cz_cl (by omega), cz_lt_e, cz_gdn hr (by decide), cz_cl (by omega), q2, hs, f_X3_append, q1, if_neg (nI_ge hL (by decide)), cz_gdn hL (by decide), cz_cl (by omega), cz_lt_e, cz_mI_o (by omega), q1, nI_add, cz_lt_e, Option.bind_some]
  · rw [cz_mI_o (by omega), cz_mI_o (by omega), cz_mI_s]
  · rw [cz_mI_s, pk_us, List.length_append, List.length_singleton]
  · rw [List.length_append, List.length_singleton] at hk
    rw [cz_mI_o (by omega), cz_mI_s]
    by_cases hkl : k = L.length
    · subst hkl
      rw [pk_us, List.getElem_append_right (Nat.le_refl _)]
      simp
    · rw [pk_un hkl, cz_mI_o (by omega), List.getElem_append_left (by omega)]
      exact r2 k (by omega)
theorem c_addWord {M : cz_M} {q j : Nat} {f : Nat → Nat} (hj : j < 8) (hf : ∀ k, k ≤ j → f k < 128) (h3 : M.1 q 3 = nI j) (hw : M.2.1 q = cz_L (cz_wN f j)) : ∃ M', f_X1_addWord M q (nI (f j)) = some M' ∧ M'.1 q = upd (M.1 q) 3 (nI (j + 1)) ∧ M'.2.1 q = cz_L (cz_wN f (j + 1)) ∧ cz_fr (fun x => x = q) M M' := by
  have hN : cz_wN f j < 2 ^ (8 * j) := cz_wN_lt (fun k hk => by have := hf k (by omega); omega)
  have hN1 : cz_wN f j + f j * 2 ^ (8 * j) < 2 ^ 64 := by
    have h1 : cz_wN f (j + 1) < 2 ^ (8 * (j + 1)) := cz_wN_lt (fun k hk => by have := hf k (by omega); omega)
    exact Nat.lt_of_lt_of_le h1 (Nat.pow_le_pow_right (by decide) (by omega))
  have hfj := hf j (Nat.le_refl _)
  refine ⟨cz_mI (cz_mL M q (cz_L (cz_wN f (j + 1)))) q 3 (nI (j + 1)), ?_, ?_, ?_, (cz_fr.mL (D := fun x => x = q) rfl).tr (cz_fr.mI rfl)⟩
  · rw [f_X1_addWord, h3, if_neg (nI_ge hj (by decide)), cz_L64 _ (by omega), cz_slL j hj _ hfj, hw, cz_or_L hN hN1, cz_lt_e, cz_lt_e]
    have e3 : (cz_mL M q (cz_L (cz_wN f j + f j * 2 ^ (8 * j)))).1 q 3 = nI j := h3
    rw [e3, nI_add]
    rfl
  · rw [cz_mI_s]
    rfl
  · show (if q = q then cz_L (cz_wN f (j + 1)) else M.2.1 q) = _
    rw [if_pos rfl]
/-- one sign further -/
theorem c_wr_word {m m' : cz_M} {b len k q c : Nat} (K : Option Nat → Int32 → cz_M → Option cz_M) (rec : Option Nat → Int32 → cz_M → Option cz_M) (hl : len ≤ 60) (h7 : m.1 b 7 = nI len) (hk : k < len) (hp : m.1 (b + 118) k = nI c) (hc : 97 ≤ c ∧ c ≤ 122) (hq : cz_kb b q 1 = true) (hf : f_X1_addWord m q (nI c) = some m') : f_X4_writeLettersOfPad_L4 b K rec (some q) (nI k) m = rec (some q) (nI (k + 1)) m' := by
  rw [f_X4_writeLettersOfPad_L4, h7, if_neg (nI_ge hk (by omega)), cz_gdn (by omega) (by decide), cz_cl (by omega), hp, cz_lt_e, c_isWord c (by omega), Option.bind_some, if_pos hc, if_neg (by decide)]
  show cz_gd (cz_kb b q 1) ((f_X1_addWord m q (nI c)).bind fun M28 => cz_lt (nI k + nI 1) fun v29 => rec (some q) v29 M28) = _
  rw [hq, cz_gd_t1, hf, Option.bind_some, cz_lt_e, nI_add]
theorem c_wr_way {m m' : cz_M} {b len k c : Nat} (x1 : Option Nat) (K : Option Nat → Int32 → cz_M → Option cz_M) (rec : Option Nat → Int32 → cz_M → Option cz_M) (hl : len ≤ 60) (h7 : m.1 b 7 = nI len) (hk : k < len) (hp : m.1 (b + 118) k = nI c) (hc : c = 62 ∨ c = 60) (hf : f_X2_sendNewest m (b + 1) (nI (if c = 62 then 0 else 1)) = some m') : f_X4_writeLettersOfPad_L4 b K rec x1 (nI k) m = rec x1 (nI (k + 1)) m' := by
  have hw : f_X4_isWord (nI c) = some (nI 0) := by rw [c_isWord c (by omega), if_neg (by omega)]
  rw [f_X4_writeLettersOfPad_L4, h7, if_neg (nI_ge hk (by omega)), cz_gdn (by omega) (by decide), cz_cl (by omega), hp, cz_lt_e, hw, Option.bind_some, if_pos rfl]
  rcases hc with rfl | rfl
  · rw [if_pos rfl] at hf
    rw [if_pos rfl, hf, Option.bind_some, cz_lt_e, nI_add]
  · rw [if_neg (by decide)] at hf
    rw [if_neg (by decide), if_pos rfl, hf, Option.bind_some, cz_lt_e, nI_add]
theorem c_wr_comma {m : cz_M} {b len k : Nat} (x1 : Option Nat) (K : Option Nat → Int32 → cz_M → Option cz_M) (rec : Option Nat → Int32 → cz_M → Option cz_M) (hl : len ≤ 60) (h7 : m.1 b 7 = nI len) (hk : k < len) (hp : m.1 (b + 118) k = nI 44) : f_X4_writeLettersOfPad_L4 b K rec x1 (nI k) m = rec x1 (nI (k + 1)) m := by
  rw [f_X4_writeLettersOfPad_L4, h7, if_neg (nI_ge hk (by omega)), cz_gdn (by omega) (by decide), cz_cl (by omega), hp, cz_lt_e, show f_X4_isWord (nI 44) = some (nI 0) by rw [c_isWord 44 (by decide), if_neg (by decide)], Option.bind_some, if_pos rfl, if_neg (by decide), if_neg (by decide), if_pos rfl, cz_lt_e, nI_add]
theorem c_wr_digit {m m' : cz_M} {b len k c : Nat} {o : Option Nat} (x1 : Option Nat) (K : Option Nat → Int32 → cz_M → Option cz_M) (rec : Option Nat → Int32 → cz_M → Option cz_M) (hl : len ≤ 60) (h7 : m.1 b 7 = nI len) (hk : k < len) (hp : m.1 (b + 118) k = nI c) (hc : 48 ≤ c ∧ c ≤ 52) (hf : f_X2_beginLetter m (b + 1) (nI (c - 48)) = some (o, m')) : f_X4_writeLettersOfPad_L4 b K rec x1 (nI k) m = rec o (nI (k + 1)) m' := by
  have hne : ∀ d, d < 128 → c ≠ d → ¬ nI c = nI d := fun d hd h z => h (cz_nI_inj (by omega) (by omega) z)
  rw [f_X4_writeLettersOfPad_L4, h7, if_neg (nI_ge hk (by omega)), cz_gdn (by omega) (by decide), cz_cl (by omega), hp, cz_lt_e, show f_X4_isWord (nI c) = some (nI 0) by rw [c_isWord c (by omega), if_neg (by omega)], Option.bind_some, if_pos rfl, if_neg (hne 62 (by decide) (by omega)), if_neg (hne 60 (by decide) (by omega)), if_neg (hne 44 (by decide) (by omega)), cz_subN (by omega), hf, cz_b2_s, cz_lt_e, nI_add]
theorem c_kb : ∀ n, n < 40 → cz_kd (1 + 4 + (9 + n)) = 1 := by decide +kernel
theorem c_kb1 {b n : Nat} (hn : n < 40) : cz_kb b (b + 1 + 4 + (9 + n)) 1 = true := by
  unfold cz_kb
  rw [show b + 1 + 4 + (9 + n) - b = 1 + 4 + (9 + n) by omega, c_kb n hn]
  simp
  omega
theorem c_words_r {b len p q : Nat} {pad : Nat → Nat} (K : Option Nat → Int32 → cz_M → Option cz_M) (hl : len ≤ 60) (hp : p ≤ len) (h3 : 3 ≤ cz_rt pad len p) (hq : cz_kb b q 1 = true) (hqb : b < q) (hqb2 : q ≠ b + 118) (fuel : Nat) :
    ∀ (e j : Nat) (m : cz_M), j + e = cz_pm pad len p → m.1 b 7 = nI len → (∀ k, k < len → m.1 (b + 118) k = nI (pad k)) → m.1 q 3 = nI j → m.2.1 q = cz_L (cz_wN (fun k => 97 + cz_pw pad p k) j) →
      ∃ m', cz_it3 (f_X4_writeLettersOfPad_L4 b K) (fuel + e) (some q) (nI (p + 2 + j)) m = cz_it3 (f_X4_writeLettersOfPad_L4 b K) fuel (some q) (nI (p + 2 + j + e)) m' ∧ m'.1 q = upd (m.1 q) 3 (nI (j + e)) ∧ m'.2.1 q = cz_L (cz_wN (fun k => 97 + cz_pw pad p k) (j + e)) ∧ cz_fr (fun x => x = q) m m' := by
  intro e
  induction e with
  | zero =>
    intro j m hj h7 hpad h3' hw
    refine ⟨m, rfl, ?_, hw, cz_fr.rf⟩
    funext k
    by_cases hk : k = 3
    · subst hk; rw [pk_us]; exact h3'
    · rw [pk_un hk]
  | succ e ih =>
    intro j m hj h7 hpad h3' hw
    obtain ⟨m1, m8⟩ := cz_pm_8 h3
    have hwd := cz_pw_26 hp h3
    obtain ⟨k1, k2, k3, k4, k5⟩ := cz_rt_ch hp h3
    have hwj := hwd j (by omega)
    have hlt : p + 2 + j < len := by unfold cz_pm at hj; omega
    obtain ⟨m', f', g1, g2, e'⟩ := c_addWord (M := m) (q := q) (j := j) (f := fun k => 97 + cz_pw pad p k) (by omega) (fun k hk => by have := (hwd k (by omega)).1; omega) h3' hw
    have st := c_wr_word (m := m) (m' := m') (b := b) (q := q) (c := 97 + cz_pw pad p j) K (cz_it3 (f_X4_writeLettersOfPad_L4 b K) (fuel + e)) hl h7 hlt (by rw [hpad _ hlt, hwj.2]) (by omega) hq f'
    obtain ⟨m2, a1, a2, a3, a4⟩ := ih (j + 1) m' (by omega) (by rw [(e'.1 b (by omega)).1]; exact h7) (fun k hk => by rw [(e'.1 (b + 118) (by omega)).1]; exact hpad k hk) (by rw [g1, pk_us]) g2
    refine ⟨m2, ?_, ?_, ?_, e'.tr a4⟩
    · refine st.trans ?_
      rw [show p + 2 + j + (e + 1) = p + 2 + (j + 1) + e by omega]
      exact a1
    · rw [a2, g1, show j + 1 + e = j + (e + 1) by omega]
      funext k
      by_cases hk : k = 3
      · subst hk; rw [pk_us, pk_us]
      · rw [pk_un hk, pk_un hk, pk_un hk]
    · rw [a3, show j + 1 + e = j + (e + 1) by omega]
theorem cz_dig_wr {pad : Nat → Nat} {len p n t r l : Nat} {s : Nat → Int32} (hr : r < 2) (hl : l < 40) (hp : p ≤ len) (h3 : 3 ≤ cz_rt pad len p) : ∀ k, k < cz_pm pad len p → cz_dig (cz_wr s n t r (cz_pm pad len p) (cz_hr (cz_pw pad p) (min (cz_pm pad len p) 4) 0) (cz_hr (cz_pw pad p) (cz_pm pad len p - 4) 4) l) n k = cz_pw pad p k := fun k hk => by
  obtain ⟨m1, m8⟩ := cz_pm_8 h3
  have hw := cz_pw_26 hp h3
  have hu : cz_hr (cz_pw pad p) (min (cz_pm pad len p) 4) 0 < 2 ^ 31 := by
    have h1 := cz_hr_lt (w := cz_pw pad p) (min (cz_pm pad len p) 4) 0 (fun i _ i2 => (hw i (by omega)).1)
    exact Nat.lt_of_lt_of_le h1 (Nat.le_trans (Nat.pow_le_pow_right (by decide) (Nat.min_le_right _ _)) (by decide))
  have hv : cz_hr (cz_pw pad p) (cz_pm pad len p - 4) 4 < 2 ^ 31 := by
    have h1 := cz_hr_lt (w := cz_pw pad p) (cz_pm pad len p - 4) 4 (fun i _ i2 => (hw i (by omega)).1)
    exact Nat.lt_of_lt_of_le h1 (Nat.le_trans (Nat.pow_le_pow_right (by decide) (show cz_pm pad len p - 4 ≤ 4 by omega)) (by decide))
  unfold cz_dig
  by_cases h4 : k < 4
  · have e9 := cz_wr_f (s := s) (n := n) (t := t) (m := cz_pm pad len p) (u := cz_hr (cz_pw pad p) (min (cz_pm pad len p) 4) 0) (v := cz_hr (cz_pw pad p) (cz_pm pad len p - 4) 4) hr hl 9 (by decide)
    rw [Nat.div_eq_of_lt h4, Nat.mod_eq_of_lt h4, e9]
    show (nI (cz_hr (cz_pw pad p) (min (cz_pm pad len p) 4) 0)).toNatClampNeg / 26 ^ k % 26 = _
    rw [cz_cl hu, cz_hr_dig _ 0 k (fun i _ i2 => (hw i (by omega)).1) (by omega), Nat.zero_add]
  · have e10 := cz_wr_f (s := s) (n := n) (t := t) (m := cz_pm pad len p) (u := cz_hr (cz_pw pad p) (min (cz_pm pad len p) 4) 0) (v := cz_hr (cz_pw pad p) (cz_pm pad len p - 4) 4) hr hl 10 (by decide)
    rw [show k / 4 = 1 by omega, show k % 4 = k - 4 by omega, e10]
    show (nI (cz_hr (cz_pw pad p) (cz_pm pad len p - 4) 4)).toNatClampNeg / 26 ^ (k - 4) % 26 = _
    rw [cz_cl hv, cz_hr_dig _ 4 (k - 4) (fun i _ i2 => (hw i (by omega)).1) (by omega)]
    congr 1
    omega
