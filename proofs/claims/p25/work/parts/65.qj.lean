/-! put: the characters of a long -/
theorem cz_L_of (x : Int64) : ∃ N, N < 2 ^ 64 ∧ x = cz_L N := by
  refine ⟨x.toUInt64.toNat, UInt64.toNat_lt _, ?_⟩
  unfold cz_L
  rw [UInt64.ofNat_toNat]
  rfl
theorem cz_L_0 {N : Nat} (h : N < 2 ^ 64) : cz_L N = 0 ↔ N = 0 := by
  constructor
  · intro he
    have h1 : (UInt64.ofNat N).toInt64 = (UInt64.ofNat 0).toInt64 := he
    have h2 := congrArg Int64.toUInt64 h1
    have h3 : UInt64.ofNat N = UInt64.ofNat 0 := h2
    have h4 := congrArg UInt64.toNat h3
    rw [UInt64.toNat_ofNat_of_lt' h, UInt64.toNat_ofNat_of_lt' (by decide)] at h4
    exact h4
  · rintro rfl
    rfl
theorem cz_cmp0 {N : Nat} (h : N < 2 ^ 64) : (lg_cmp (cz_L N) (0 : Int64) = nI 0) = (N = 0) := by
  rw [← cz_l0]
  exact propext ((lg_cmp_eq _ _).trans (cz_L_0 h))
/-- a byte, and what stands above -/
def cz_by (N k : Nat) : Nat := N / 2 ^ (8 * k) % 256
theorem cz_up_s (N k : Nat) : N / 2 ^ (8 * (k + 1)) = N / 2 ^ (8 * k) / 256 := by
  rw [Nat.div_div_eq_div_mul, show 8 * (k + 1) = 8 * k + 8 by omega, Nat.pow_add]
theorem cz_up_le (N : Nat) {k j : Nat} (h : N / 2 ^ (8 * k) = 0) (hj : k ≤ j) : N / 2 ^ (8 * j) = 0 := by
  obtain ⟨d, rfl⟩ : ∃ d, j = k + d := ⟨j - k, by omega⟩
  clear hj
  induction d with
  | zero => exact h
  | succ d ih => rw [← Nat.add_assoc, cz_up_s, ih]
theorem cz_len_of (N : Nat) : ∀ m, ∃ L, L ≤ m ∧ (∀ k, k < L → N / 2 ^ (8 * k) ≠ 0) ∧ ∀ k, L ≤ k → k < m → N / 2 ^ (8 * k) = 0
  | 0 => ⟨0, Nat.le_refl _, fun k hk => by omega, fun k h1 h2 => by omega⟩
  | m + 1 => by
    obtain ⟨L, h1, h2, h3⟩ := cz_len_of N m
    by_cases hL : L < m
    · refine ⟨L, by omega, h2, fun k k1 k2 => ?_⟩
      exact cz_up_le N (h3 L (Nat.le_refl _) hL) k1
    · obtain rfl : L = m := by omega
      by_cases h0 : N / 2 ^ (8 * L) = 0
      · exact ⟨L, by omega, h2, fun k k1 k2 => cz_up_le N h0 k1⟩
      · refine ⟨L + 1, Nat.le_refl _, fun k hk => ?_, fun k k1 k2 => by omega⟩
        by_cases hkL : k = L
        · subst hkL; exact h0
        · exact h2 k (by omega)
theorem cz_by_v {N k : Nat} (hN : N < 2 ^ 64) (hk : k < 8) : Int64.toInt32 (cz_usl (cz_L N) (nI 8 * nI k) &&& (255 : Int64)) = nI (cz_by N k) := by
  have h1 : N / 2 ^ (8 * k) < 2 ^ 64 := Nat.lt_of_le_of_lt (Nat.div_le_self _ _) hN
  rw [pk_mul, cz_usl_L hN (by omega), cz_and_L h1, cz_L32 _ (Nat.mod_lt _ (by decide))]
  rfl
def cz_gc (N L : Nat) : Prop := ∀ k, k < L → 33 ≤ cz_by N k ∧ cz_by N k ≤ 126
theorem c_lengthOf {N L : Nat} (hN : N < 2 ^ 64) (hL : L ≤ 8) (h1 : ∀ k, k < L → N / 2 ^ (8 * k) ≠ 0) (h2 : ∀ k, L ≤ k → k < 8 → N / 2 ^ (8 * k) = 0) : (cz_gc N L → f_X4_lengthOf (cz_L N) = some (nI L)) ∧ (¬ cz_gc N L → f_X4_lengthOf (cz_L N) = some (nI 0)) := by
  have key : ∀ (d k fuel : Nat), k + d = L → d < fuel → cz_gc N k → (cz_gc N L → cz_it2 (f_X4_lengthOf_L4 (fun x9 x10 => some x9)) fuel (nI k) (cz_L (N / 2 ^ (8 * k))) = some (nI L)) ∧ (¬ cz_gc N L → cz_it2 (f_X4_lengthOf_L4 (fun x9 x10 => some x9)) fuel (nI k) (cz_L (N / 2 ^ (8 * k))) = some (nI 0)) := by
    intro d
    induction d with
    | zero =>
      intro k fuel hk hf hg
      obtain rfl : k = L := by omega
      obtain ⟨g, rfl⟩ : ∃ g, fuel = g + 1 := ⟨fuel - 1, by omega⟩
      refine ⟨fun _ => ?_, fun z => absurd hg z⟩
      show f_X4_lengthOf_L4 (fun x9 x10 => some x9) (cz_it2 (f_X4_lengthOf_L4 (fun x9 x10 => some x9)) g) (nI k) (cz_L (N / 2 ^ (8 * k))) = _
      rw [f_X4_lengthOf_L4]
      by_cases h8 : k = 8
      · subst h8; rw [if_pos (nI_le (Nat.le_refl _) (by decide))]
      · rw [if_neg (nI_ge (by omega) (by decide)), h2 k (Nat.le_refl _) (by omega), if_pos (by rw [cz_cmp0 (by decide)])]
    | succ d ih =>
      intro k fuel hk hf hg
      obtain ⟨g, rfl⟩ : ∃ g, fuel = g + 1 := ⟨fuel - 1, by omega⟩
      have hNk : N / 2 ^ (8 * k) < 2 ^ 64 := Nat.lt_of_le_of_lt (Nat.div_le_self _ _) hN
      have hst : cz_it2 (f_X4_lengthOf_L4 (fun x9 x10 => some x9)) (g + 1) (nI k) (cz_L (N / 2 ^ (8 * k))) = if nI (cz_by N k) < nI 33 then some (nI 0) else if nI (cz_by N k) ≤ nI 126 then cz_it2 (f_X4_lengthOf_L4 (fun x9 x10 => some x9)) g (nI (k + 1)) (cz_L (N / 2 ^ (8 * (k + 1)))) else some (nI 0) := by
        show f_X4_lengthOf_L4 (fun x9 x10 => some x9) (cz_it2 (f_X4_lengthOf_L4 (fun x9 x10 => some x9)) g) (nI k) (cz_L (N / 2 ^ (8 * k))) = _
        have hE : ¬ lg_cmp (cz_L (N / 2 ^ (8 * k))) (0 : Int64) = nI 0 := by rw [cz_cmp0 hNk]; exact h1 k (by omega)
        rw [f_X4_lengthOf_L4, if_neg (nI_ge (by omega) (by decide)), if_neg hE, cz_and_L hNk, cz_L32 _ (Nat.mod_lt _ (by decide)), cz_usl_L hNk (by decide), cz_up_s, cz_lt_e, cz_lt_e, cz_lt_e, nI_add]
        rfl
      have hb : cz_by N k < 256 := Nat.mod_lt _ (by decide)
      rw [hst]
      by_cases hlo : cz_by N k < 33
      · rw [if_pos (nI_lt hlo (by decide))]
        exact ⟨fun z => absurd (z k (by omega)).1 (by omega), fun _ => rfl⟩
      · rw [if_neg (nI_nlt (by omega) (by omega))]
        by_cases hhi : cz_by N k ≤ 126
        · rw [if_pos (nI_le hhi (by decide))]
          exact ih (k + 1) g (by omega) (by omega) (fun j hj => by
            by_cases hjk : j = k
            · subst hjk; exact ⟨by omega, hhi⟩
            · exact hg j (by omega))
        · rw [if_neg (nI_ge (by omega) (by omega))]
          exact ⟨fun z => absurd (z k (by omega)).2 hhi, fun _ => rfl⟩
  have := key L 0 4096 (by omega) (by omega) (fun k hk => by omega)
  rw [Nat.mul_zero, Nat.pow_zero, Nat.div_one] at this
  exact this
/-- the reference's look at the characters -/
theorem m_putL8 {M : cz_M} {a N L : Nat} (hN : N < 2 ^ 64) (hL : L ≤ 8) (hL1 : 1 ≤ L) (h1 : ∀ k, 0 < k → k < L → N / 2 ^ (8 * k) ≠ 0) (h2 : ∀ k, L ≤ k → k < 8 → N / 2 ^ (8 * k) = 0) (K : Int32 → Int32 → Int32 → Option (Int32 × cz_M)) :
    (cz_gc N L → cz_it3 (f_X5_put_L8 a (cz_L N) M K) 4096 (nI 0) (nI 0) (nI 0) = K (nI L) (nI 0) (nI 8)) ∧ (¬ cz_gc N L → cz_it3 (f_X5_put_L8 a (cz_L N) M K) 4096 (nI 0) (nI 0) (nI 0) = K (nI L) (nI 1) (nI 8)) := by
  have h10 : (nI 1 = nI 0) = False := eq_false (by decide)
  have h00 : (nI 0 = nI 0) = True := eq_true rfl
  obtain ⟨x, y, ⟨i1, i2, i3⟩, h⟩ := cz_for3c (F := f_X5_put_L8 a (cz_L N) M K) (fun k (x y : Int32) => x = nI (min k L) ∧ (cz_gc N (min k L) → y = nI 0) ∧ (¬ cz_gc N (min k L) → y = nI 1)) (fun x y => K x y (nI 8)) 8
    (fun k x y hk ⟨i1, i2, i3⟩ => by
      subst i1
      have hNk : N / 2 ^ (8 * k) < 2 ^ 64 := Nat.lt_of_le_of_lt (Nat.div_le_self _ _) hN
      have hb : cz_by N k < 256 := Nat.mod_lt _ (by decide)
      have hc : (lg_cmp (cz_usl (cz_L N) (nI 8 * nI k)) (0 : Int64) = nI 0) = (N / 2 ^ (8 * k) = 0) := by rw [pk_mul, cz_usl_L hN (by omega), cz_cmp0 hNk]
      have hk0 : (nI k ≤ nI 0) = (k = 0) := by rw [cz_leN (by omega) (by decide)]; exact propext ⟨fun z => by omega, fun z => by omega⟩
      have hin : f_X5_in (nI (cz_by N k)) (nI 33) (nI 126) = some (if 33 ≤ cz_by N k ∧ cz_by N k ≤ 126 then nI 1 else nI 0) := m_inN (by omega) (by decide) (by decide)
      by_cases hE : L ≤ k
      · -- behind the end
        have hz := h2 k hE hk
        have hk1 : (k = 0) = False := eq_false (by omega)
        refine ⟨nI (min k L), y, fun rec => ?_, ?_, ?_⟩
        · have hy : y = nI 0 ∨ y = nI 1 := by
            by_cases hg : cz_gc N (min k L)
            · exact Or.inl (i2 hg)
            · exact Or.inr (i3 hg)
          rw [f_X5_put_L8, if_neg (nI_ge hk (by decide)), cz_by_v hN hk, cz_lt_e, hin]
          simp only [cz_lt_e, hc, hk0, hk1, eq_true hz, if_true, if_false, h10, h00, nI_add, Nat.add_zero]
          rcases hy with rfl | rfl
          · simp only [h00, if_true]
          · simp only [h10, if_false]
        · rw [Nat.min_eq_right hE, Nat.min_eq_right (by omega)]
        · rw [Nat.min_eq_right hE] at i2 i3
          rw [Nat.min_eq_right (by omega)]
          exact ⟨i2, i3⟩
      · have hm : min k L = k := Nat.min_eq_left (by omega)
        have hm1 : min (k + 1) L = k + 1 := Nat.min_eq_left (by omega)
        rw [hm] at i2 i3 ⊢
        rw [hm1]
        have hnE : (k = 0) ∨ ((k = 0) = False ∧ (N / 2 ^ (8 * k) = 0) = False) := by
          by_cases h0 : k = 0
          · exact Or.inl h0
          · exact Or.inr ⟨eq_false h0, eq_false (h1 k (by omega) (by omega))⟩
        have hst : ∀ rec, f_X5_put_L8 a (cz_L N) M K rec (nI k) y (nI k) = if y = nI 0 then (if 33 ≤ cz_by N k ∧ cz_by N k ≤ 126 then rec (nI (k + 1)) (nI 0) (nI (k + 1)) else rec (nI (k + 1)) (nI 1) (nI (k + 1))) else rec (nI (k + 1)) (nI 1) (nI (k + 1)) := fun rec => by
          rw [f_X5_put_L8, if_neg (nI_ge hk (by decide)), cz_by_v hN hk, cz_lt_e, hin]
          have hbind : ∀ (A B : Option (Int32 × cz_M)), ((some (if 33 ≤ cz_by N k ∧ cz_by N k ≤ 126 then nI 1 else nI 0)).bind fun v => if v = nI 0 then B else A) = if 33 ≤ cz_by N k ∧ cz_by N k ≤ 126 then A else B := fun A B => by
            by_cases hg : 33 ≤ cz_by N k ∧ cz_by N k ≤ 126
            · simp only [if_pos hg, Option.bind_some, h10, if_false]
            · simp only [if_neg hg, Option.bind_some, h00, if_true]
          rcases hnE with hz | ⟨hz1, hz2⟩
          · simp only [cz_lt_e, hk0, eq_true hz, if_true, if_false, h10, h00, nI_add, hbind]
          · simp only [cz_lt_e, hc, hk0, hz1, hz2, if_true, if_false, h10, h00, nI_add, hbind]
        by_cases hg : cz_gc N k
        · have hy := i2 hg
          subst hy
          by_cases hgk : 33 ≤ cz_by N k ∧ cz_by N k ≤ 126
          · have hg1 : cz_gc N (k + 1) := fun j hj => by
              by_cases hjk : j = k
              · subst hjk; exact hgk
              · exact hg j (by omega)
            exact ⟨_, _, fun rec => by rw [hst, if_pos rfl, if_pos hgk], rfl, fun _ => rfl, fun z => absurd hg1 z⟩
          · have hg1 : ¬ cz_gc N (k + 1) := fun z => hgk (z k (by omega))
            exact ⟨_, _, fun rec => by rw [hst, if_pos rfl, if_neg hgk], rfl, fun z => absurd z hg1, fun _ => rfl⟩
        · have hy := i3 hg
          subst hy
          have hg1 : ¬ cz_gc N (k + 1) := fun z => hg (fun j hj => z j (by omega))
          exact ⟨_, _, fun rec => by rw [hst, if_neg (by decide)], rfl, fun z => absurd z hg1, fun _ => rfl⟩)
    (fun x y hI rec => by rw [f_X5_put_L8, if_pos (nI_le (Nat.le_refl _) (by decide))]) 8 0 (nI 0) (nI 0) 4096 (by omega) (by omega) ⟨by rw [Nat.zero_min], fun _ => rfl, fun z => absurd (fun k hk => by omega) z⟩
  rw [Nat.min_eq_right hL] at i1 i2 i3
  exact ⟨fun z => by rw [h, i1, i2 z], fun z => by rw [h, i1, i3 z]⟩
