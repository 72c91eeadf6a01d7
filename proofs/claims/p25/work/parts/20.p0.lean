/-! THE PURE PART. Numbers: every literal as nI -/
theorem cz_l0 : (0 : Int32) = nI 0 := rfl
theorem cz_gdn {α : Type} {k N : Nat} {K : Option α} (h : k < N) (hN : N < 2 ^ 31) : cz_gd (cz_ib (nI k) N) K = K := by
  have h1 : cz_ib (nI k) N = true := by
    simp only [cz_ib, Bool.and_eq_true, decide_eq_true_eq]
    exact ⟨nI_pos (by omega), by rw [nI_clamp (by omega)]; exact h⟩
  rw [h1]
  rfl
theorem cz_cl {k : Nat} (h : k < 2 ^ 31) : Int32.toNatClampNeg (nI k) = k := nI_clamp h
theorem cz_ltN {a b : Nat} (ha : a < 2 ^ 31) (hb : b < 2 ^ 31) : (nI a < nI b) = (a < b) := propext (nI_ltI ha hb)
theorem cz_subN {a b : Nat} (h : b ≤ a) : nI a - nI b = nI (a - b) := pk_sub h
theorem cz_lt_e {α β : Type} (v : β) (k : β → Option α) : cz_lt v k = k v := rfl
theorem cz_b2_s {α β γ : Type} (x : β) (y : γ) (k : β → γ → Option α) : cz_b2 (some (x, y)) k = k x y := rfl
theorem cz_gd_t1 {α : Type} {K : Option α} : cz_gd true K = K := rfl
/-! memory -/
theorem cz_mI_1 (M : cz_M) (a k : Nat) (v : Int32) (x y : Nat) : (cz_mI M a k v).1 x y = if x = a ∧ y = k then v else M.1 x y := rfl
theorem cz_mI_2 (M : cz_M) (a k : Nat) (v : Int32) : (cz_mI M a k v).2 = M.2 := rfl
theorem cz_mA_1 (M : cz_M) (a : Nat) (f : Nat → Int32) (x y : Nat) : (cz_mA M a f).1 x y = if x = a then f y else M.1 x y := rfl
theorem cz_mL_1 (M : cz_M) (a : Nat) (v : Int64) : (cz_mL M a v).1 = M.1 := rfl
/-- what holds of two memories: nothing besides the cells of D has changed -/
def cz_fr (D : Nat → Prop) (M M' : cz_M) : Prop := (∀ x, ¬ D x → M'.1 x = M.1 x ∧ M'.2.1 x = M.2.1 x) ∧ M'.2.2 = M.2.2
theorem cz_fr.rf {D : Nat → Prop} {M : cz_M} : cz_fr D M M := ⟨fun _ _ => ⟨rfl, rfl⟩, rfl⟩
theorem cz_fr.tr {D : Nat → Prop} {M M1 M2 : cz_M} (h : cz_fr D M M1) (h2 : cz_fr D M1 M2) : cz_fr D M M2 := ⟨fun x hx => ⟨((h2.1 x hx).1).trans (h.1 x hx).1, ((h2.1 x hx).2).trans (h.1 x hx).2⟩, h2.2.trans h.2⟩
theorem cz_fr.mono {D D' : Nat → Prop} {M M1 : cz_M} (h : cz_fr D M M1) (hd : ∀ x, D x → D' x) : cz_fr D' M M1 := ⟨fun x hx => h.1 x (fun q => hx (hd x q)), h.2⟩
theorem cz_fr.mI {D : Nat → Prop} {M : cz_M} {a k : Nat} {v : Int32} (h : D a) : cz_fr D M (cz_mI M a k v) := by
  refine ⟨fun x hx => ⟨?_, rfl⟩, rfl⟩
  funext y
  rw [cz_mI_1, if_neg]
  rintro ⟨rfl, -⟩
  exact hx h
theorem cz_fr.mA {D : Nat → Prop} {M : cz_M} {a : Nat} {f : Nat → Int32} (h : D a) : cz_fr D M (cz_mA M a f) := by
  refine ⟨fun x hx => ⟨?_, rfl⟩, rfl⟩
  funext y
  rw [cz_mA_1, if_neg]
  rintro rfl
  exact hx h
theorem cz_fr.mL {D : Nat → Prop} {M : cz_M} {a : Nat} {v : Int64} (h : D a) : cz_fr D M (cz_mL M a v) := by
  refine ⟨fun x hx => ⟨rfl, ?_⟩, rfl⟩
  show (if x = a then v else M.2.1 x) = M.2.1 x
  rw [if_neg]
  rintro rfl
  exact hx h
/-! loops: a counter at the front, at the back; an invariant -/
theorem cz_for2 {A R : Type} {F : (Int32 → A → Option R) → Int32 → A → Option R} (I : Nat → A → Prop) (r : A → Option R) (N : Nat)
    (hs : ∀ k s, k < N → I k s → ∃ s', (∀ rec, F rec (nI k) s = rec (nI (k + 1)) s') ∧ I (k + 1) s') (he : ∀ s, I N s → ∀ rec, F rec (nI N) s = r s) :
    ∀ (d k : Nat) (s : A) (fuel : Nat), k + d = N → d < fuel → I k s → ∃ s', I N s' ∧ cz_it2 F fuel (nI k) s = r s' := by
  intro d
  induction d with
  | zero =>
    intro k s fuel hk hf hI
    obtain rfl : k = N := by omega
    obtain ⟨f, rfl⟩ : ∃ f, fuel = f + 1 := ⟨fuel - 1, by omega⟩
    exact ⟨s, hI, he s hI _⟩
  | succ d ih =>
    intro k s fuel hk hf hI
    obtain ⟨f, rfl⟩ : ∃ f, fuel = f + 1 := ⟨fuel - 1, by omega⟩
    obtain ⟨s', h1, h2⟩ := hs k s (by omega) hI
    obtain ⟨s'', h3, h4⟩ := ih (k + 1) s' f (by omega) (by omega) h2
    exact ⟨s'', h3, (h1 _).trans h4⟩
theorem cz_for2b {A R : Type} {F : (A → Int32 → Option R) → A → Int32 → Option R} (I : Nat → A → Prop) (r : A → Option R) (N : Nat)
    (hs : ∀ k s, k < N → I k s → ∃ s', (∀ rec, F rec s (nI k) = rec s' (nI (k + 1))) ∧ I (k + 1) s') (he : ∀ s, I N s → ∀ rec, F rec s (nI N) = r s) :
    ∀ (d k : Nat) (s : A) (fuel : Nat), k + d = N → d < fuel → I k s → ∃ s', I N s' ∧ cz_it2 F fuel s (nI k) = r s' := by
  intro d
  induction d with
  | zero =>
    intro k s fuel hk hf hI
    obtain rfl : k = N := by omega
    obtain ⟨f, rfl⟩ : ∃ f, fuel = f + 1 := ⟨fuel - 1, by omega⟩
    exact ⟨s, hI, he s hI _⟩
  | succ d ih =>
    intro k s fuel hk hf hI
    obtain ⟨f, rfl⟩ : ∃ f, fuel = f + 1 := ⟨fuel - 1, by omega⟩
    obtain ⟨s', h1, h2⟩ := hs k s (by omega) hI
    obtain ⟨s'', h3, h4⟩ := ih (k + 1) s' f (by omega) (by omega) h2
    exact ⟨s'', h3, (h1 _).trans h4⟩
/-- an int, the counter, the memory -/
theorem cz_for3 {A B R : Type} {F : (A → Int32 → B → Option R) → A → Int32 → B → Option R} (I : Nat → A → B → Prop) (r : A → B → Option R) (N : Nat)
    (hs : ∀ k s t, k < N → I k s t → ∃ s' t', (∀ rec, F rec s (nI k) t = rec s' (nI (k + 1)) t') ∧ I (k + 1) s' t') (he : ∀ s t, I N s t → ∀ rec, F rec s (nI N) t = r s t) :
    ∀ (d k : Nat) (s : A) (t : B) (fuel : Nat), k + d = N → d < fuel → I k s t → ∃ s' t', I N s' t' ∧ cz_it3 F fuel s (nI k) t = r s' t' := by
  intro d
  induction d with
  | zero =>
    intro k s t fuel hk hf hI
    obtain rfl : k = N := by omega
    obtain ⟨f, rfl⟩ : ∃ f, fuel = f + 1 := ⟨fuel - 1, by omega⟩
    exact ⟨s, t, hI, he s t hI _⟩
  | succ d ih =>
    intro k s t fuel hk hf hI
    obtain ⟨f, rfl⟩ : ∃ f, fuel = f + 1 := ⟨fuel - 1, by omega⟩
    obtain ⟨s', t', h1, h2⟩ := hs k s t (by omega) hI
    obtain ⟨s'', t'', h3, h4⟩ := ih (k + 1) s' t' f (by omega) (by omega) h2
    exact ⟨s'', t'', h3, (h1 _).trans h4⟩
/-! the reference's small functions -/
/-! copies -/
