/-! what if: trials, and back -/
theorem c_hasLetter {M : cz_M} {p n : Nat} {x : Int32} (h7 : M.1 p 7 = nI n) : (∀ i, i < n → n ≤ 40 → x = nI i → f_X2_hasLetter M p x = some (nI 1)) ∧ ((x < 0 ∨ nI n ≤ x) → f_X2_hasLetter M p x = some (nI 0)) := by
  refine ⟨fun i hi hn hx => ?_, fun hx => ?_⟩
  · subst hx
    rw [f_X2_hasLetter, if_neg (nI_nlt (Nat.zero_le _) (by omega)), h7, if_neg (nI_ge hi (by omega))]
  · rw [f_X2_hasLetter, h7]
    by_cases h0 : x < nI 0
    · rw [if_pos h0]
    · rw [if_neg h0]
      rcases hx with hx | hx
      · exact absurd (by rw [cz_l0] at hx; exact hx) h0
      · rw [if_pos hx]
/-- how far a loop goes -/
def cz_un (f : Nat → Bool) : Nat → Nat → Nat
  | 0, k => k
  | d + 1, k => if f k = true then cz_un f d (k + 1) else k
theorem cz_wh {A R : Type} {F : (Int32 → A → Option R) → Int32 → A → Option R} (I : Nat → A → Prop) (r : Int32 → A → Option R) (f : Nat → Bool) (N : Nat)
    (hs : ∀ k m, k < N → I k m → f k = true → ∃ m', (∀ rec, F rec (nI k) m = rec (nI (k + 1)) m') ∧ I (k + 1) m') (he : ∀ k m, k < N → I k m → ¬ f k = true → ∀ rec, F rec (nI k) m = r (nI k) m) (hN : ∀ m, I N m → ∀ rec, F rec (nI N) m = r (nI N) m) :
    ∀ (d k : Nat) (m : A) (fuel : Nat), k + d = N → d < fuel → I k m → ∃ m', I (cz_un f d k) m' ∧ cz_it2 F fuel (nI k) m = r (nI (cz_un f d k)) m' := by
  intro d
  induction d with
  | zero =>
    intro k m fuel hk hf hI
    obtain rfl : k = N := by omega
    obtain ⟨g, rfl⟩ : ∃ g, fuel = g + 1 := ⟨fuel - 1, by omega⟩
    exact ⟨m, hI, hN m hI _⟩
  | succ d ih =>
    intro k m fuel hk hf hI
    obtain ⟨g, rfl⟩ : ∃ g, fuel = g + 1 := ⟨fuel - 1, by omega⟩
    rw [cz_un]
    by_cases hfk : f k = true
    · rw [if_pos hfk]
      obtain ⟨m', h1, h2⟩ := hs k m (by omega) hI hfk
      obtain ⟨m'', h3, h4⟩ := ih (k + 1) m' g (by omega) (by omega) h2
      exact ⟨m'', h3, (h1 _).trans h4⟩
    · rw [if_neg hfk]
      exact ⟨m, hI, he k m (by omega) hI hfk _⟩
theorem cz_un_le (f : Nat → Bool) : ∀ d k, cz_un f d k ≤ k + d
  | 0, k => Nat.le_refl _
  | d + 1, k => by
    rw [cz_un]
    split
    · have := cz_un_le f d (k + 1); omega
    · omega
