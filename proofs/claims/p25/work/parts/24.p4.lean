/-! loops whose way on is open -/
theorem cz_for2K {κ A R : Type} {F : κ → (Int32 → A → Option R) → Int32 → A → Option R} (I : Nat → A → Prop) (r : κ → A → Option R) (N : Nat)
    (hs : ∀ k s, k < N → I k s → ∃ s', (∀ K rec, F K rec (nI k) s = rec (nI (k + 1)) s') ∧ I (k + 1) s') (he : ∀ s, I N s → ∀ K rec, F K rec (nI N) s = r K s) :
    ∀ (d k : Nat) (s : A) (fuel : Nat), k + d = N → d < fuel → I k s → ∃ s', I N s' ∧ ∀ K, cz_it2 (F K) fuel (nI k) s = r K s' := by
  intro d
  induction d with
  | zero =>
    intro k s fuel hk hf hI
    obtain rfl : k = N := by omega
    obtain ⟨f, rfl⟩ : ∃ f, fuel = f + 1 := ⟨fuel - 1, by omega⟩
    exact ⟨s, hI, fun K => he s hI K _⟩
  | succ d ih =>
    intro k s fuel hk hf hI
    obtain ⟨f, rfl⟩ : ∃ f, fuel = f + 1 := ⟨fuel - 1, by omega⟩
    obtain ⟨s', h1, h2⟩ := hs k s (by omega) hI
    obtain ⟨s'', h3, h4⟩ := ih (k + 1) s' f (by omega) (by omega) h2
    exact ⟨s'', h3, fun K => (h1 K _).trans (h4 K)⟩
/-! rows as lists -/
def cz_ar (f : Nat → Int32) (l : List Nat) : Prop := ∀ k (h : k < l.length), f k = nI l[k]
theorem cz_ar_snoc {f : Nat → Int32} {l : List Nat} (h : cz_ar f l) (i : Nat) : cz_ar (upd f l.length (nI i)) (l ++ [i]) := by
  intro k hk
  rw [List.length_append, List.length_singleton] at hk
  by_cases he : k = l.length
  · subst he
    rw [pk_us, List.getElem_append_right (Nat.le_refl _)]
    simp
  · rw [pk_un he, List.getElem_append_left (by omega)]
    exact h k (by omega)
theorem cz_fl {p q : Nat → Bool} : ∀ (l : List Nat), (∀ i, i ∈ l → ¬ (p i = true ∧ q i = true)) → (l.filter p).length + (l.filter q).length ≤ l.length
  | [], _ => by simp
  | a :: l, h => by
    have h1 := cz_fl l (fun i hi => h i (List.mem_cons_of_mem _ hi))
    have h2 := h a List.mem_cons_self
    by_cases hp : p a = true <;> by_cases hq : q a = true
    · exact absurd ⟨hp, hq⟩ h2
    · simp [List.filter_cons, hp, hq]; omega
    · simp [List.filter_cons, hp, hq]; omega
    · simp [List.filter_cons, hp, hq]; omega
theorem cz_tk {p : Nat → Bool} (l : List Nat) (k : Nat) : ((l.take k).filter p).length ≤ (l.filter p).length := (List.Sublist.filter p (List.take_sublist k l)).length_le
theorem cz_tk1 {p : Nat → Bool} {l : List Nat} {k : Nat} (hk : k < l.length) : (l.take (k + 1)).filter p = (l.take k).filter p ++ (if p l[k] = true then [l[k]] else []) := by
  rw [cz_take hk, List.filter_append]
  congr 1
  by_cases h : p l[k] = true <;> simp [List.filter_cons, h]
/-- who stays in the row: not read (t = 0); turned back (t = 1) -/
def cz_pb (s u : Nat → Int32) (t i : Nat) : Bool := decide (s (111 + 11 * i + 2) = nI 0) && decide (u i = nI t)
theorem cz_pb_t {s u : Nat → Int32} {t i : Nat} : cz_pb s u t i = true ↔ s (111 + 11 * i + 2) = nI 0 ∧ u i = nI t := by simp [cz_pb]
