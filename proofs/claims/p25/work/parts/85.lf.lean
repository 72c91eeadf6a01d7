/-! the best trade: what the search finds -/
def cz_bI (c : Nat → Nat → Nat) (m0 N : Nat) (q : Nat × Int32) : Prop :=
  (q.2 = (-6 : Int32) ∧ q.1 = m0 ∧ ∀ i j, i < j → j < 8 → 8 * i + j < N → c i j ≤ m0) ∨ ∃ i j, i < j ∧ j < 8 ∧ 8 * i + j < N ∧ q.2 = nI (8 * i + j) ∧ q.1 = c i j ∧ m0 < c i j ∧ ∀ i' j', i' < j' → j' < 8 → 8 * i' + j' < N → c i' j' ≤ c i j ∧ (c i' j' = c i j → 8 * i + j ≤ 8 * i' + j')
theorem cz_bI_m {c : Nat → Nat → Nat} {m0 N N' : Nat} {q : Nat × Int32} (h : cz_bI c m0 N q) (hNN : N ≤ N') (hN : ∀ i j, i < j → j < 8 → 8 * i + j < N' → 8 * i + j < N) : cz_bI c m0 N' q := by
  rcases h with ⟨h1, h2, h3⟩ | ⟨i, j, h1, h2, hl, h3, h4, h5, h6⟩
  · exact Or.inl ⟨h1, h2, fun i j a1 a2 a3 => h3 i j a1 a2 (hN i j a1 a2 a3)⟩
  · exact Or.inr ⟨i, j, h1, h2, by omega, h3, h4, h5, fun i' j' a1 a2 a3 => h6 i' j' a1 a2 (hN i' j' a1 a2 a3)⟩
theorem cz_bI_s {c : Nat → Nat → Nat} {m0 i j : Nat} {q : Nat × Int32} (hi : i < j) (hj : j < 8) (h : cz_bI c m0 (8 * i + j) q) : cz_bI c m0 (8 * i + j + 1) (if c i j ≤ q.1 then q else (c i j, nI (8 * i + j))) := by
  have only : ∀ i' j', i' < j' → j' < 8 → 8 * i' + j' < 8 * i + j + 1 → 8 * i' + j' < 8 * i + j ∨ (i' = i ∧ j' = j) := fun i' j' a1 a2 a3 => by omega
  by_cases hc : c i j ≤ q.1
  · rw [if_pos hc]
    rcases h with ⟨h1, h2, h3⟩ | ⟨i0, j0, h1, h2, hl, h3, h4, h5, h6⟩
    · refine Or.inl ⟨h1, h2, fun i' j' a1 a2 a3 => ?_⟩
      rcases only i' j' a1 a2 a3 with h | ⟨rfl, rfl⟩
      · exact h3 i' j' a1 a2 h
      · omega
    · refine Or.inr ⟨i0, j0, h1, h2, by omega, h3, h4, h5, fun i' j' a1 a2 a3 => ?_⟩
      rcases only i' j' a1 a2 a3 with h | ⟨rfl, rfl⟩
      · exact h6 i' j' a1 a2 h
      · exact ⟨by omega, fun z => by omega⟩
  · rw [if_neg hc]
    refine Or.inr ⟨i, j, hi, hj, by omega, rfl, rfl, ?_, fun i' j' a1 a2 a3 => ?_⟩
    · rcases h with ⟨h1, h2, h3⟩ | ⟨i0, j0, h1, h2, hl, h3, h4, h5, h6⟩
      · omega
      · omega
    · rcases only i' j' a1 a2 a3 with hlt | ⟨rfl, rfl⟩
      · rcases h with ⟨h1, h2, h3⟩ | ⟨i0, j0, h1, h2, hl, h3, h4, h5, h6⟩
        · have := h3 i' j' a1 a2 hlt
          exact ⟨by omega, fun z => by omega⟩
        · have := (h6 i' j' a1 a2 hlt).1
          exact ⟨by omega, fun z => by omega⟩
      · exact ⟨Nat.le_refl _, fun _ => Nat.le_refl _⟩
theorem cz_bI_i {c : Nat → Nat → Nat} {m0 i : Nat} {q : Nat × Int32} (h : cz_bI c m0 (8 * i + (i + 1)) q) : ∀ k, i + 1 + k ≤ 8 → cz_bI c m0 (8 * i + (i + 1 + k)) (cz_bi c i k q)
  | 0, _ => h
  | k + 1, hk => by
    have ih := cz_bI_i h k (by omega)
    have h := cz_bI_s (j := i + 1 + k) (show i < i + 1 + k by omega) (show i + 1 + k < 8 by omega) ih
    exact h
theorem cz_bI_o {c : Nat → Nat → Nat} {m0 : Nat} {q : Nat × Int32} (h : cz_bI c m0 0 q) : ∀ k, k ≤ 8 → cz_bI c m0 (8 * k) (cz_bo c k q)
  | 0, _ => h
  | k + 1, hk => by
    have ih := cz_bI_o h k (by omega)
    have h1 := cz_bI_i (cz_bI_m (N' := 8 * k + (k + 1)) ih (by omega) (fun i j a1 a2 a3 => by omega)) (7 - k) (by omega)
    rw [show 8 * k + (k + 1 + (7 - k)) = 8 * (k + 1) by omega] at h1
    exact h1
/-- what is found: none, or a trade with which more come, and no other with more, no earlier one with as many -/
theorem cz_bI_8 (c : Nat → Nat → Nat) (m0 : Nat) : ((cz_bo c 8 (m0, (-6 : Int32))).2 = (-6 : Int32) ∧ ∀ i j, i < j → j < 8 → c i j ≤ m0) ∨ ∃ i j, i < j ∧ j < 8 ∧ (cz_bo c 8 (m0, (-6 : Int32))).2 = nI (8 * i + j) ∧ m0 < c i j ∧ ∀ i' j', i' < j' → j' < 8 → c i' j' ≤ c i j ∧ (c i' j' = c i j → 8 * i + j ≤ 8 * i' + j') := by
  have h := cz_bI_o (c := c) (m0 := m0) (q := (m0, (-6 : Int32))) (Or.inl ⟨rfl, rfl, fun i j a1 a2 a3 => by omega⟩) 8 (Nat.le_refl _)
  rcases h with ⟨h1, h2, h3⟩ | ⟨i, j, h1, h2, hl, h3, h4, h5, h6⟩
  · exact Or.inl ⟨h1, fun i j a1 a2 => h3 i j a1 a2 (by omega)⟩
  · exact Or.inr ⟨i, j, h1, h2, h3, h5, fun i' j' a1 a2 => h6 i' j' a1 a2 (by omega)⟩
/-! low bits -/
theorem cz_I_of (x : Int32) : ∃ n, n < 2 ^ 32 ∧ x = nI n := by
  refine ⟨x.toBitVec.toNat, x.toBitVec.isLt, ?_⟩
  apply Int32.toBitVec_inj.1
  show x.toBitVec = BitVec.ofNat 32 x.toBitVec.toNat
  rw [BitVec.ofNat_toNat, BitVec.setWidth_eq]
theorem l_low (x : Int32) {m : Nat} (hm : 0 < m) (hm2 : m < 2 ^ 31) : ∃ r, r < m ∧ f_L_low x (nI m) = some (nI r) := by
  obtain ⟨n, hn, rfl⟩ := cz_I_of x
  refine ⟨n % 2 ^ 31 % m, Nat.mod_lt _ hm, ?_⟩
  rw [f_L_low, if_neg (fun z => absurd (cz_nI_inj hm2 (by decide) z) (by omega)), pk_andN hn 31 (by decide), pk_rem (Nat.mod_lt _ (by decide)) hm hm2]
