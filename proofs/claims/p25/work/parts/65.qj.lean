/-! put: the characters of a long -/
theorem cz_L_0 {N : Nat} (h : N < 2 ^ 64) : cz_L N = 0 ↔ N = 0 := by
  constructor
  · intro he
    have h1 : (UInt64.ofNat N).toInt64 = (UInt64.ofNat 0).toInt64 := he
    have h2 := congrArg Int64.toUInt64 h1
    have h3 : UInt64.ofNat N = UInt64.ofNat 0 := h2
    have h4 := congrArg UInt64.toNat h3
    rw [UInt64.toNat_ofNat_of_lt' h, UInt64.toNat_ofNat_of_lt' (by decide)] at h4
    exact h4
  · rintro rfl
    rfl
theorem cz_cmp0 {N : Nat} (h : N < 2 ^ 64) : (lg_cmp (cz_L N) (0 : Int64) = nI 0) = (N = 0) := by
  rw [← cz_l0]
  exact propext ((lg_cmp_eq _ _).trans (cz_L_0 h))
/-- a byte, and what stands above -/
def cz_by (N k : Nat) : Nat := N / 2 ^ (8 * k) % 256
theorem cz_up_s (N k : Nat) : N / 2 ^ (8 * (k + 1)) = N / 2 ^ (8 * k) / 256 := by
  rw [Nat.div_div_eq_div_mul, show 8 * (k + 1) = 8 * k + 8 by omega, Nat.pow_add]
theorem cz_by_v {N k : Nat} (hN : N < 2 ^ 64) (hk : k < 8) : Int64.toInt32 (cz_usl (cz_L N) (nI 8 * nI k) &&& (255 : Int64)) = nI (cz_by N k) := by
  have h1 : N / 2 ^ (8 * k) < 2 ^ 64 := Nat.lt_of_le_of_lt (Nat.div_le_self _ _) hN
  rw [pk_mul, cz_usl_L hN (by omega), cz_and_L h1, cz_L32 _ (Nat.mod_lt _ (by decide))]
  rfl
def cz_gc (N L : Nat) : Prop := ∀ k, k < L → 33 ≤ cz_by N k ∧ cz_by N k ≤ 126
theorem c_lengthOf {N L : Nat} (hN : N < 2 ^ 64) (hL : L ≤ 8) (h1 : ∀ k, k < L → N / 2 ^ (8 * k) ≠ 0) (h2 : ∀ k, L ≤ k → k < 8 → N / 2 ^ (8 * k) = 0) : (cz_gc N L → f_X4_lengthOf (cz_L N) = some (nI L)) ∧ (¬ cz_gc N L → f_X4_lengthOf (cz_L N) = some (nI 0)) := by
  have key : ∀ (d k fuel : Nat), k + d = L → d < fuel → cz_gc N k → (cz_gc N L → cz_it2 (f_X4_lengthOf_L4 (fun x9 x10 => some x9)) fuel (nI k) (cz_L (N / 2 ^ (8 * k))) = some (nI L)) ∧ (¬ cz_gc N L → cz_it2 (f_X4_lengthOf_L4 (fun x9 x10 => some x9)) fuel (nI k) (cz_L (N / 2 ^ (8 * k))) = some (nI 0)) := by
    intro d
    induction d with
    | zero =>
      intro k fuel hk hf hg
      obtain rfl : k = L := by omega
      obtain ⟨g, rfl⟩ : ∃ g, fuel = g + 1 := ⟨fuel - 1, by omega⟩
      refine ⟨fun _ => ?_, fun z => absurd hg z⟩
      show f_X4_lengthOf_L4 (fun x9 x10 => some x9) (cz_it2 (f_X4_lengthOf_L4 (fun x9 x10 => some x9)) g) (nI k) (cz_L (N / 2 ^ (8 * k))) = _
      rw [f_X4_lengthOf_L4]
      by_cases h8 : k = 8
      · subst h8; rw [if_pos (nI_le (Nat.le_refl _) (by decide))]
      · rw [if_neg (nI_ge (by omega) (by decide)), h2 k (Nat.le_refl _) (by omega), if_pos (by rw [cz_cmp0 (by decide)])]
    | succ d ih =>
      intro k fuel hk hf hg
      obtain ⟨g, rfl⟩ : ∃ g, fuel = g + 1 := ⟨fuel - 1, by omega⟩
      have hNk : N / 2 ^ (8 * k) < 2 ^ 64 := Nat.lt_of_le_of_lt (Nat.div_le_self _ _) hN
      have hst : cz_it2 (f_X4_lengthOf_L4 (fun x9 x10 => some x9)) (g + 1) (nI k) (cz_L (N / 2 ^ (8 * k))) = if nI (cz_by N k) < nI 33 then some (nI 0) else if nI (cz_by N k) ≤ nI 126 then cz_it2 (f_X4_lengthOf_L4 (fun x9 x10 => some x9)) g (nI (k + 1)) (cz_L (N / 2 ^ (8 * (k + 1)))) else some (nI 0) := by
        show f_X4_lengthOf_L4 (fun x9 x10 => some x9) (cz_it2 (f_X4_lengthOf_L4 (fun x9 x10 => some x9)) g) (nI k) (cz_L (N / 2 ^ (8 * k))) = _
        have hE : ¬ lg_cmp (cz_L (N / 2 ^ (8 * k))) (0 : Int64) = nI 0 := by rw [cz_cmp0 hNk]; exact h1 k (by omega)
        rw [f_X4_lengthOf_L4, if_neg (nI_ge (by omega) (by decide)), if_neg hE, cz_and_L hNk, cz_L32 _ (Nat.mod_lt _ (by decide)), cz_usl_L hNk (by decide), cz_up_s, cz_lt_e, cz_lt_e, cz_lt_e, nI_add]
        rfl
      have hb : cz_by N k < 256 := Nat.mod_lt _ (by decide)
      rw [hst]
      by_cases hlo : cz_by N k < 33
      · rw [if_pos (nI_lt hlo (by decide))]
        exact ⟨fun z => absurd (z k (by omega)).1 (by omega), fun _ => rfl⟩
      · rw [if_neg (nI_nlt (by omega) (by omega))]
        by_cases hhi : cz_by N k ≤ 126
        · rw [if_pos (nI_le hhi (by decide))]
          exact ih (k + 1) g (by omega) (by omega) (fun j hj => by
            by_cases hjk : j = k
            · subst hjk; exact ⟨by omega, hhi⟩
            · exact hg j (by omega))
        · rw [if_neg (nI_ge (by omega) (by omega))]
          exact ⟨fun z => absurd (z k (by omega)).2 hhi, fun _ => rfl⟩
  have := key L 0 4096 (by omega) (by omega) (fun k hk => by omega)
  rw [Nat.mul_zero, Nat.pow_zero, Nat.div_one] at this
  exact this
