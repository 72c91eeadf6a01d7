/-! loops whose way on is open -/
theorem cz_for2K {κ A R : Type} {F : κ → (Int32 → A → Option R) → Int32 → A → Option R} (I : Nat → A → Prop) (r : κ → A → Option R) (N : Nat)
    (hs : ∀ k s, k < N → I k s → ∃ s', (∀ K rec, F K rec (nI k) s = rec (nI (k + 1)) s') ∧ I (k + 1) s') (he : ∀ s, I N s → ∀ K rec, F K rec (nI N) s = r K s) :
    ∀ (d k : Nat) (s : A) (fuel : Nat), k + d = N → d < fuel → I k s → ∃ s', I N s' ∧ ∀ K, cz_it2 (F K) fuel (nI k) s = r K s' := by
  intro d
  induction d with
  | zero =>
    intro k s fuel hk hf hI
    obtain rfl : k = N := by omega
    obtain ⟨f, rfl⟩ : ∃ f, fuel = f + 1 := ⟨fuel - 1, by omega⟩
    exact ⟨s, hI, fun K => he s hI K _⟩
  | succ d ih =>
    intro k s fuel hk hf hI
    obtain ⟨f, rfl⟩ : ∃ f, fuel = f + 1 := ⟨fuel - 1, by omega⟩
    obtain ⟨s', h1, h2⟩ := hs k s (by omega) hI
    obtain ⟨s'', h3, h4⟩ := ih (k + 1) s' f (by omega) (by omega) h2
    exact ⟨s'', h3, fun K => (h1 K _).trans (h4 K)⟩
theorem cz_for3K {κ A B R : Type} {F : κ → (A → Int32 → B → Option R) → A → Int32 → B → Option R} (I : Nat → A → B → Prop) (r : κ → A → B → Option R) (N : Nat)
    (hs : ∀ k s t, k < N → I k s t → ∃ s' t', (∀ K rec, F K rec s (nI k) t = rec s' (nI (k + 1)) t') ∧ I (k + 1) s' t') (he : ∀ s t, I N s t → ∀ K rec, F K rec s (nI N) t = r K s t) :
    ∀ (d k : Nat) (s : A) (t : B) (fuel : Nat), k + d = N → d < fuel → I k s t → ∃ s' t', I N s' t' ∧ ∀ K, cz_it3 (F K) fuel s (nI k) t = r K s' t' := by
  intro d
  induction d with
  | zero =>
    intro k s t fuel hk hf hI
    obtain rfl : k = N := by omega
    obtain ⟨f, rfl⟩ : ∃ f, fuel = f + 1 := ⟨fuel - 1, by omega⟩
    exact ⟨s, t, hI, fun K => he s t hI K _⟩
  | succ d ih =>
    intro k s t fuel hk hf hI
    obtain ⟨f, rfl⟩ : ∃ f, fuel = f + 1 := ⟨fuel - 1, by omega⟩
    obtain ⟨s', t', h1, h2⟩ := hs k s t (by omega) hI
    obtain ⟨s'', t'', h3, h4⟩ := ih (k + 1) s' t' f (by omega) (by omega) h2
    exact ⟨s'', t'', h3, fun K => (h1 K _).trans (h4 K)⟩
/-! rows as lists -/
def cz_ar (f : Nat → Int32) (l : List Nat) : Prop := ∀ k (h : k < l.length), f k = nI l[k]
theorem cz_ar_snoc {f : Nat → Int32} {l : List Nat} (h : cz_ar f l) (i : Nat) : cz_ar (upd f l.length (nI i)) (l ++ [i]) := by
  intro k hk
  rw [List.length_append, List.length_singleton] at hk
  by_cases he : k = l.length
  · subst he
    rw [pk_us, List.getElem_append_right (Nat.le_refl _)]
    simp
  · rw [pk_un he, List.getElem_append_left (by omega)]
    exact h k (by omega)
theorem cz_fl {p q : Nat → Bool} : ∀ (l : List Nat), (∀ i, i ∈ l → ¬ (p i = true ∧ q i = true)) → (l.filter p).length + (l.filter q).length ≤ l.length
  | [], _ => by simp
  | a :: l, h => by
    have h1 := cz_fl l (fun i hi => h i (List.mem_cons_of_mem _ hi))
    have h2 := h a List.mem_cons_self
    by_cases hp : p a = true <;> by_cases hq : q a = true
    · exact absurd ⟨hp, hq⟩ h2
    · simp [List.filter_cons, hp, hq]; omega
    · simp [List.filter_cons, hp, hq]; omega
    · simp [List.filter_cons, hp, hq]; omega
theorem cz_tk {p : Nat → Bool} (l : List Nat) (k : Nat) : ((l.take k).filter p).length ≤ (l.filter p).length := (List.Sublist.filter p (List.take_sublist k l)).length_le
theorem cz_tk1 {p : Nat → Bool} {l : List Nat} {k : Nat} (hk : k < l.length) : (l.take (k + 1)).filter p = (l.take k).filter p ++ (if p l[k] = true then [l[k]] else []) := by
  rw [cz_take hk, List.filter_append]
  congr 1
  by_cases h : p l[k] = true <;> simp [List.filter_cons, h]
/-- who stays in the row: not read (t = 0); turned back (t = 1) -/
def cz_pb (s u : Nat → Int32) (t i : Nat) : Bool := decide (s (111 + 11 * i + 2) = nI 0) && decide (u i = nI t)
theorem cz_pb_t {s u : Nat → Int32} {t i : Nat} : cz_pb s u t i = true ↔ s (111 + 11 * i + 2) = nI 0 ∧ u i = nI t := by simp [cz_pb]
set_option maxHeartbeats 2000000 in
theorem m_go2 (M : cz_M) (a : Nat) {r t : Nat} (L B : List Nat) (hr : r < 2) (ht : t < 2) (hL : L.length ≤ 40) (hrow : ∀ k (h : k < L.length), M.1 (a + 1) (31 + 40 * r + k) = nI L[k]) (hLi : ∀ i ∈ L, i < 40) (hu : ∀ i ∈ L, M.1 (a + 8) i = nI 0 ∨ M.1 (a + 8) i = nI 1)
    (hB : cz_ar (M.1 (a + 9)) B) (hB2 : ∀ k (h : k < L.length), cz_pb (M.1 (a + 1)) (M.1 (a + 8)) t L[k] = true → (B ++ (L.take k).filter (cz_pb (M.1 (a + 1)) (M.1 (a + 8)) t)).length < 40) :
    ∃ M', (∀ K, cz_it3 (f_X5_goesThrough_L92 a (nI r) (nI L.length) (nI t) K) 4096 (nI B.length) (nI 0) M = K (nI (B ++ L.filter (cz_pb (M.1 (a + 1)) (M.1 (a + 8)) t)).length) (nI L.length) M') ∧ cz_ar (M'.1 (a + 9)) (B ++ L.filter (cz_pb (M.1 (a + 1)) (M.1 (a + 8)) t)) ∧ cz_fr (fun x => x = a + 9) M M' := by
  obtain ⟨s', t', ⟨h1, h2, h3⟩, h⟩ := cz_for3K (F := fun K => f_X5_goesThrough_L92 a (nI r) (nI L.length) (nI t) K) (fun k (s : Int32) (m : cz_M) => s = nI (B ++ (L.take k).filter (cz_pb (M.1 (a + 1)) (M.1 (a + 8)) t)).length ∧ cz_ar (m.1 (a + 9)) (B ++ (L.take k).filter (cz_pb (M.1 (a + 1)) (M.1 (a + 8)) t)) ∧ cz_fr (fun x => x = a + 9) M m) (fun K s m => K s (nI L.length) m) L.length
    (fun k s m hk ⟨i1, i2, i3⟩ => by
      subst i1
      have e1 : m.1 (a + 1) = M.1 (a + 1) := (i3.1 (a + 1) (by omega)).1
      have e8 : m.1 (a + 8) = M.1 (a + 8) := (i3.1 (a + 8) (by omega)).1
      have hLk := hLi L[k] (List.getElem_mem hk)
      have huk := hu L[k] (List.getElem_mem hk)
      have h01 : nI 0 ≠ nI 1 := by decide
      have h10 : nI 1 ≠ nI 0 := by decide
      rw [cz_tk1 hk, ← List.append_assoc]
      have hB3 := hB2 k hk
      generalize hG : B ++ (L.take k).filter (cz_pb (M.1 (a + 1)) (M.1 (a + 8)) t) = G at i2 hB3 ⊢
      have hst : ∀ (K rec : Int32 → Int32 → cz_M → Option cz_M), f_X5_goesThrough_L92 a (nI r) (nI L.length) (nI t) K rec (nI G.length) (nI k) m = if M.1 (a + 1) (111 + 11 * L[k] + 2) = nI 0 then (if nI t = nI 1 then (if M.1 (a + 8) L[k] = nI 1 then (cz_gd (cz_ib (nI G.length) 40) (rec (nI (G.length + 1)) (nI (k + 1)) (cz_mI m (a + 9) (Int32.toNatClampNeg (nI G.length)) (nI L[k])))) else rec (nI G.length) (nI (k + 1)) m) else (if M.1 (a + 8) L[k] = nI 0 then (cz_gd (cz_ib (nI G.length) 40) (rec (nI (G.length + 1)) (nI (k + 1)) (cz_mI m (a + 9) (Int32.toNatClampNeg (nI G.length)) (nI L[k])))) else rec (nI G.length) (nI (k + 1)) m)) else rec (nI G.length) (nI (k + 1)) m := by
        intro K rec
        rw [f_X5_goesThrough_L92, if_neg (nI_ge hk (by omega)), m_inRow, Option.bind_some, cz_gdn (by omega) (by decide), cz_cl (by omega), e1, hrow k hk, cz_lt_e, m_of m a hLk (by decide), Option.bind_some, cz_gdn hLk (by decide), cz_cl (by omega), e1, e8]
        simp only [cz_lt_e, nI_add]
      by_cases hp : cz_pb (M.1 (a + 1)) (M.1 (a + 8)) t L[k] = true
      · have hp2 := cz_pb_t.mp hp
        rw [if_pos hp]
        refine ⟨nI (G.length + 1), cz_mI m (a + 9) G.length (nI L[k]), fun K rec => ?_, by rw [List.length_append, List.length_singleton], ?_, i3.tr (cz_fr.mI rfl)⟩
        · rw [hst, if_pos hp2.1]
          have hg : cz_gd (cz_ib (nI G.length) 40) (rec (nI (G.length + 1)) (nI (k + 1)) (cz_mI m (a + 9) (Int32.toNatClampNeg (nI G.length)) (nI L[k]))) = rec (nI (G.length + 1)) (nI (k + 1)) (cz_mI m (a + 9) G.length (nI L[k])) := by
            rw [cz_gdn (hB3 hp) (by decide), cz_cl (by have := hB3 hp; omega)]
          rcases (show t = 0 ∨ t = 1 by omega) with rfl | rfl
          · rw [if_neg h01, if_pos hp2.2, hg]
          · rw [if_pos rfl, if_pos hp2.2, hg]
        · rw [cz_mI_s]
          exact cz_ar_snoc i2 _
      · rw [if_neg hp, List.append_nil]
        refine ⟨nI G.length, m, fun K rec => ?_, rfl, i2, i3⟩
        rw [hst]
        by_cases hs0 : M.1 (a + 1) (111 + 11 * L[k] + 2) = nI 0
        · have hu2 : ¬ M.1 (a + 8) L[k] = nI t := fun q => hp (cz_pb_t.mpr ⟨hs0, q⟩)
          rw [if_pos hs0]
          rcases (show t = 0 ∨ t = 1 by omega) with rfl | rfl
          · rw [if_neg h01, if_neg hu2]
          · rw [if_pos rfl, if_neg hu2]
        · rw [if_neg hs0])
    (fun s m hI K rec => by rw [f_X5_goesThrough_L92, if_pos (nI_le (Nat.le_refl _) (by omega))]) L.length 0 (nI B.length) M 4096 (by omega) (by omega) ⟨by simp, by simpa using hB, cz_fr.rf⟩
  rw [List.take_length] at h1 h2
  exact ⟨t', fun K => by rw [← h1]; exact h K, h2, h3⟩
