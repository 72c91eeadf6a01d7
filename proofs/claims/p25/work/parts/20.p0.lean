/-! THE PURE PART. Numbers: every literal as nI -/
theorem cz_lit (n : Nat) : (OfNat.ofNat n : Int32) = nI (OfNat.ofNat n) := rfl
theorem cz_l0 : (0 : Int32) = nI 0 := rfl
theorem cz_l1 : (1 : Int32) = nI 1 := rfl
theorem cz_gdn {α : Type} {k N : Nat} {K : Option α} (h : k < N) (hN : N < 2 ^ 31) : cz_gd (cz_ib (nI k) N) K = K := by
  have h1 : cz_ib (nI k) N = true := by
    simp only [cz_ib, Bool.and_eq_true, decide_eq_true_eq]
    exact ⟨nI_pos (by omega), by rw [nI_clamp (by omega)]; exact h⟩
  rw [h1]
  rfl
theorem cz_cl {k : Nat} (h : k < 2 ^ 31) : Int32.toNatClampNeg (nI k) = k := nI_clamp h
theorem cz_leN {a b : Nat} (ha : a < 2 ^ 31) (hb : b < 2 ^ 31) : (nI a ≤ nI b) = (a ≤ b) := propext (nI_leI ha hb)
theorem cz_ltN {a b : Nat} (ha : a < 2 ^ 31) (hb : b < 2 ^ 31) : (nI a < nI b) = (a < b) := propext (nI_ltI ha hb)
theorem cz_eqN {a b : Nat} (ha : a < 2 ^ 31) (hb : b < 2 ^ 31) : (nI a = nI b) = (a = b) := propext (nI_eq ha hb)
theorem cz_subN {a b : Nat} (h : b ≤ a) : nI a - nI b = nI (a - b) := pk_sub h
theorem cz_zb0 {α : Type} {K : Option α} : cz_gd (cz_zb (nI 0)) K = K := rfl
theorem cz_zb1 {α : Type} {K : Option α} : cz_gd (cz_zb (nI 1)) K = K := rfl
theorem cz_lt_e {α β : Type} (v : β) (k : β → Option α) : cz_lt v k = k v := rfl
theorem cz_b2_s {α β γ : Type} (x : β) (y : γ) (k : β → γ → Option α) : cz_b2 (some (x, y)) k = k x y := rfl
theorem cz_gd_t1 {α : Type} {K : Option α} : cz_gd true K = K := rfl
/-! memory -/
theorem cz_mI_1 (M : cz_M) (a k : Nat) (v : Int32) (x y : Nat) : (cz_mI M a k v).1 x y = if x = a ∧ y = k then v else M.1 x y := rfl
theorem cz_mI_2 (M : cz_M) (a k : Nat) (v : Int32) : (cz_mI M a k v).2 = M.2 := rfl
theorem cz_mA_1 (M : cz_M) (a : Nat) (f : Nat → Int32) (x y : Nat) : (cz_mA M a f).1 x y = if x = a then f y else M.1 x y := rfl
theorem cz_mA_2 (M : cz_M) (a : Nat) (f : Nat → Int32) : (cz_mA M a f).2 = M.2 := rfl
theorem cz_mL_1 (M : cz_M) (a : Nat) (v : Int64) : (cz_mL M a v).1 = M.1 := rfl
theorem cz_mP_1 (M : cz_M) (k v : Nat) : (cz_mP M k v).1 = M.1 := rfl
/-- what holds of two memories: nothing besides the cells of D has changed -/
def cz_fr (D : Nat → Prop) (M M' : cz_M) : Prop := (∀ x, ¬ D x → M'.1 x = M.1 x ∧ M'.2.1 x = M.2.1 x) ∧ M'.2.2 = M.2.2
theorem cz_fr.rf {D : Nat → Prop} {M : cz_M} : cz_fr D M M := ⟨fun _ _ => ⟨rfl, rfl⟩, rfl⟩
theorem cz_fr.tr {D : Nat → Prop} {M M1 M2 : cz_M} (h : cz_fr D M M1) (h2 : cz_fr D M1 M2) : cz_fr D M M2 := ⟨fun x hx => ⟨((h2.1 x hx).1).trans (h.1 x hx).1, ((h2.1 x hx).2).trans (h.1 x hx).2⟩, h2.2.trans h.2⟩
theorem cz_fr.mono {D D' : Nat → Prop} {M M1 : cz_M} (h : cz_fr D M M1) (hd : ∀ x, D x → D' x) : cz_fr D' M M1 := ⟨fun x hx => h.1 x (fun q => hx (hd x q)), h.2⟩
theorem cz_fr.mI {D : Nat → Prop} {M : cz_M} {a k : Nat} {v : Int32} (h : D a) : cz_fr D M (cz_mI M a k v) := by
  refine ⟨fun x hx => ⟨?_, rfl⟩, rfl⟩
  funext y
  rw [cz_mI_1, if_neg]
  rintro ⟨rfl, -⟩
  exact hx h
theorem cz_fr.mA {D : Nat → Prop} {M : cz_M} {a : Nat} {f : Nat → Int32} (h : D a) : cz_fr D M (cz_mA M a f) := by
  refine ⟨fun x hx => ⟨?_, rfl⟩, rfl⟩
  funext y
  rw [cz_mA_1, if_neg]
  rintro rfl
  exact hx h
theorem cz_fr.mL {D : Nat → Prop} {M : cz_M} {a : Nat} {v : Int64} (h : D a) : cz_fr D M (cz_mL M a v) := by
  refine ⟨fun x hx => ⟨rfl, ?_⟩, rfl⟩
  show (if x = a then v else M.2.1 x) = M.2.1 x
  rw [if_neg]
  rintro rfl
  exact hx h
/-! loops: a counter at the front, at the back; an invariant -/
theorem cz_for2 {A R : Type} {F : (Int32 → A → Option R) → Int32 → A → Option R} (I : Nat → A → Prop) (r : A → Option R) (N : Nat)
    (hs : ∀ k s, k < N → I k s → ∃ s', (∀ rec, F rec (nI k) s = rec (nI (k + 1)) s') ∧ I (k + 1) s') (he : ∀ s, I N s → ∀ rec, F rec (nI N) s = r s) :
    ∀ (d k : Nat) (s : A) (fuel : Nat), k + d = N → d < fuel → I k s → ∃ s', I N s' ∧ cz_it2 F fuel (nI k) s = r s' := by
  intro d
  induction d with
  | zero =>
    intro k s fuel hk hf hI
    obtain rfl : k = N := by omega
    obtain ⟨f, rfl⟩ : ∃ f, fuel = f + 1 := ⟨fuel - 1, by omega⟩
    exact ⟨s, hI, he s hI _⟩
  | succ d ih =>
    intro k s fuel hk hf hI
    obtain ⟨f, rfl⟩ : ∃ f, fuel = f + 1 := ⟨fuel - 1, by omega⟩
    obtain ⟨s', h1, h2⟩ := hs k s (by omega) hI
    obtain ⟨s'', h3, h4⟩ := ih (k + 1) s' f (by omega) (by omega) h2
    exact ⟨s'', h3, (h1 _).trans h4⟩
theorem cz_for2b {A R : Type} {F : (A → Int32 → Option R) → A → Int32 → Option R} (I : Nat → A → Prop) (r : A → Option R) (N : Nat)
    (hs : ∀ k s, k < N → I k s → ∃ s', (∀ rec, F rec s (nI k) = rec s' (nI (k + 1))) ∧ I (k + 1) s') (he : ∀ s, I N s → ∀ rec, F rec s (nI N) = r s) :
    ∀ (d k : Nat) (s : A) (fuel : Nat), k + d = N → d < fuel → I k s → ∃ s', I N s' ∧ cz_it2 F fuel s (nI k) = r s' := by
  intro d
  induction d with
  | zero =>
    intro k s fuel hk hf hI
    obtain rfl : k = N := by omega
    obtain ⟨f, rfl⟩ : ∃ f, fuel = f + 1 := ⟨fuel - 1, by omega⟩
    exact ⟨s, hI, he s hI _⟩
  | succ d ih =>
    intro k s fuel hk hf hI
    obtain ⟨f, rfl⟩ : ∃ f, fuel = f + 1 := ⟨fuel - 1, by omega⟩
    obtain ⟨s', h1, h2⟩ := hs k s (by omega) hI
    obtain ⟨s'', h3, h4⟩ := ih (k + 1) s' f (by omega) (by omega) h2
    exact ⟨s'', h3, (h1 _).trans h4⟩
/-- an int, the counter, the memory -/
theorem cz_for3 {A B R : Type} {F : (A → Int32 → B → Option R) → A → Int32 → B → Option R} (I : Nat → A → B → Prop) (r : A → B → Option R) (N : Nat)
    (hs : ∀ k s t, k < N → I k s t → ∃ s' t', (∀ rec, F rec s (nI k) t = rec s' (nI (k + 1)) t') ∧ I (k + 1) s' t') (he : ∀ s t, I N s t → ∀ rec, F rec s (nI N) t = r s t) :
    ∀ (d k : Nat) (s : A) (t : B) (fuel : Nat), k + d = N → d < fuel → I k s t → ∃ s' t', I N s' t' ∧ cz_it3 F fuel s (nI k) t = r s' t' := by
  intro d
  induction d with
  | zero =>
    intro k s t fuel hk hf hI
    obtain rfl : k = N := by omega
    obtain ⟨f, rfl⟩ : ∃ f, fuel = f + 1 := ⟨fuel - 1, by omega⟩
    exact ⟨s, t, hI, he s t hI _⟩
  | succ d ih =>
    intro k s t fuel hk hf hI
    obtain ⟨f, rfl⟩ : ∃ f, fuel = f + 1 := ⟨fuel - 1, by omega⟩
    obtain ⟨s', t', h1, h2⟩ := hs k s t (by omega) hI
    obtain ⟨s'', t'', h3, h4⟩ := ih (k + 1) s' t' f (by omega) (by omega) h2
    exact ⟨s'', t'', h3, (h1 _).trans h4⟩
/-! the reference's small functions -/
theorem m_in (x l h : Int32) : f_X5_in x l h = some (if x < l then nI 0 else if h < x then nI 0 else nI 1) := by
  rw [f_X5_in]
  split
  · rfl
  · split <;> rfl
theorem m_inN {x l h : Nat} (hx : x < 2 ^ 31) (hl : l < 2 ^ 31) (hh : h < 2 ^ 31) : f_X5_in (nI x) (nI l) (nI h) = some (if l ≤ x ∧ x ≤ h then nI 1 else nI 0) := by
  rw [m_in]
  by_cases h1 : x < l
  · rw [if_pos (nI_lt h1 hl), if_neg (by omega)]
  · rw [if_neg (nI_nlt (by omega) hx)]
    by_cases h2 : h < x
    · rw [if_pos (nI_lt h2 hx), if_neg (by omega)]
    · rw [if_neg (nI_nlt (by omega) hh), if_pos (by omega)]
theorem m_at (i w : Nat) : f_X5_at (nI i) (nI w) = some (nI (111 + 11 * i + w)) := by
  rw [f_X5_at]
  simp only [pk_mul, nI_add]
theorem m_of (M : cz_M) (a : Nat) {i w : Nat} (hi : i < 40) (hw : w < 11) : f_X5_of M a (nI i) (nI w) = some (M.1 (a + 1) (111 + 11 * i + w)) := by
  rw [f_X5_of, m_at, Option.bind_some, cz_gdn (by omega) (by decide), cz_cl (by omega)]
theorem m_inRow (r k : Nat) : f_X5_inRow (nI r) (nI k) = some (nI (31 + 40 * r + k)) := by
  rw [f_X5_inRow]
  simp only [pk_mul, nI_add]
theorem m_ofCensor (c k : Nat) : f_X5_ofCensor (nI c) (nI k) = some (nI (13 + 4 * c + k)) := by
  rw [f_X5_ofCensor]
  simp only [pk_mul, nI_add]
/-- an int is a small number, or out of it -/
theorem cz_rng (x : Int32) (N : Nat) (hN : N < 2 ^ 31) : (∃ k, k < N ∧ x = nI k) ∨ x < 0 ∨ nI N ≤ x := by
  rcases pk_ix x hN with h | h | h
  · exact Or.inr (Or.inl h)
  · exact Or.inr (Or.inr h)
  · exact Or.inl h
theorem m_in_out {x : Int32} {h : Nat} (hh : h + 1 < 2 ^ 31) (hx : x < 0 ∨ nI (h + 1) ≤ x) : f_X5_in x (nI 0) (nI h) = some (nI 0) := by
  rw [m_in]
  rcases hx with hx | hx
  · rw [if_pos (by rw [cz_l0] at hx; exact hx)]
  · rw [if_neg, if_pos]
    · rw [Int32.lt_iff_toInt_lt]
      rw [Int32.le_iff_toInt_le] at hx
      rw [nI_toInt hh] at hx
      rw [nI_toInt (by omega)]
      omega
    · rw [Int32.lt_iff_toInt_lt]
      rw [Int32.le_iff_toInt_le] at hx
      rw [nI_toInt hh] at hx
      rw [nI_toInt (by omega)]
      omega
theorem m_isLetter {M : cz_M} {a n : Nat} (hn : M.1 (a + 1) 4 = nI n) (hn40 : n ≤ 40) (x : Int32) : (∃ i, i < n ∧ x = nI i ∧ f_X5_isLetter M a x = some (nI 1)) ∨ ((x < 0 ∨ nI n ≤ x) ∧ f_X5_isLetter M a x = some (nI 0)) := by
  have h0 : f_X5_isLetter M a x = ((f_X5_in x (nI 0) (nI n - nI 1)).bind fun v2 => cz_gd (cz_zb v2) (some v2)) := by
    rw [f_X5_isLetter]
    rw [cz_gdn (by decide) (by decide), cz_cl (by decide), hn]
  rw [h0]
  rcases Nat.eq_zero_or_pos n with rfl | hp
  · right
    have h2 : x < 0 ∨ nI 0 ≤ x := by
      rcases cz_rng x 0 (by decide) with ⟨k, hk, -⟩ | h | h
      · omega
      · exact Or.inl h
      · exact Or.inr h
    refine ⟨h2, ?_⟩
    rw [m_in]
    rcases h2 with h2 | h2
    · rw [if_pos (by rw [cz_l0] at h2; exact h2)]; rfl
    · have h3 : ¬ x < nI 0 := by
        rw [Int32.lt_iff_toInt_lt]; rw [Int32.le_iff_toInt_le] at h2; omega
      have h4 : nI 0 - nI 1 < x := by
        rw [Int32.lt_iff_toInt_lt]
        rw [Int32.le_iff_toInt_le] at h2
        have : (nI 0 - nI 1).toInt = -1 := by decide
        have h5 : (nI 0).toInt = 0 := by decide
        omega
      rw [if_neg h3, if_pos h4]; rfl
  · rw [cz_subN hp]
    rcases cz_rng x n (by omega) with ⟨k, hk, rfl⟩ | h
    · left
      refine ⟨k, hk, rfl, ?_⟩
      rw [m_inN (by omega) (by decide) (by omega), if_pos (by omega)]
      rfl
    · right
      refine ⟨h, ?_⟩
      rw [m_in_out (by omega) (by rw [Nat.sub_add_cancel hp]; exact h)]
      rfl
/-! copies -/
theorem m_putAside (M : cz_M) (a : Nat) : ∃ M', f_X5_putAside M a = some M' ∧ (∀ k, k < 551 → M'.1 (a + 2) k = M.1 (a + 1) k) ∧ cz_fr (fun x => x = a + 2) M M' := by
  obtain ⟨s', hI, h⟩ := cz_for2 (F := f_X5_putAside_L2 a (fun x7 M8 => some M8)) (fun k (s : cz_M) => (∀ j, j < k → s.1 (a + 2) j = M.1 (a + 1) j) ∧ cz_fr (fun x => x = a + 2) M s) (fun s => some s) 551
    (fun k s hk hI => by
      refine ⟨cz_mI s (a + 2) k (s.1 (a + 1) k), fun rec => ?_, fun j hj => ?_, hI.2.tr (cz_fr.mI rfl)⟩
      · rw [f_X5_putAside_L2]
        simp only [cz_lt_e]
        rw [if_neg (nI_ge hk (by decide)), cz_gdn hk (by decide), cz_gdn hk (by decide), cz_cl (by omega), nI_add]
      · rw [cz_mI_1]
        by_cases h : j = k
        · subst h
          rw [if_pos ⟨rfl, rfl⟩, (hI.2.1 (a + 1) (by omega)).1]
        · rw [if_neg (by omega)]
          exact hI.1 j (by omega))
    (fun s hI rec => by
      rw [f_X5_putAside_L2, if_pos (nI_le (Nat.le_refl _) (by decide))]) 551 0 M 4096 rfl (by decide) ⟨fun j hj => by omega, cz_fr.rf⟩
  exact ⟨s', h, hI⟩
