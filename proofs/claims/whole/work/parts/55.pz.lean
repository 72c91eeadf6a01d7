/-! new objects -/
theorem cz_i1 : ∀ k, k < 8 → cz_ini 462 (5 + k) = nI ((k / 2 + k % 2) % 4) := by decide +kernel
theorem cz_i2 : ∀ c, c < 4 → cz_ini 462 (13 + 4 * c) = nI 0 ∧ cz_ini 462 (13 + 4 * c + 3) = nI 0 := by decide +kernel
theorem cz_i3 : ∀ r, r < 2 → cz_ini 462 (29 + r) = nI 0 ∧ cz_ini (54 + 2 * r) 1 = nI 0 ∧ cz_ini 117 r = nI 0 ∧ cz_ini 466 r = nI 0 := by decide +kernel
theorem cz_i4 : ∀ k, k < 3 → cz_ini 2 k = cz_ini 462 k := by decide +kernel
theorem cz_i5 : ∀ k, k < 8 → cz_ini 4 k = cz_ini 462 (5 + k) := by decide +kernel
theorem cz_i6 : ∀ c, c < 4 → ∀ f, f < 4 → cz_ini (10 + c) f = cz_ini 462 (13 + 4 * c + f) := by decide +kernel
theorem cz_i7 : ∀ j, j < 40 → cz_ini 468 j = nI 0 ∧ cz_ini 469 j = nI 0 := by decide +kernel
theorem cz_iv_0 (b : Nat) : cz_iv b (cz_M0 b) := by
  have hM : ∀ x k, (cz_M0 b).1 x k = cz_ini (x - b) k := fun _ _ => rfl
  have ok : cz_ok (cz_ini 462) 0 0 (fun _ => []) := by
    refine ⟨⟨⟨by decide, by decide +kernel, by decide, by decide +kernel⟩, ⟨⟨3, by decide, by decide +kernel⟩, ⟨2, by decide, by decide +kernel⟩, ⟨2, by decide, by decide +kernel⟩⟩, fun k hk => ⟨(k / 2 + k % 2) % 4, Nat.mod_lt _ (by decide), cz_i1 k hk⟩, fun c hc => ⟨0, by decide, (cz_i2 c hc).1⟩, fun r hr => ⟨(cz_i3 r hr).1, by simp, fun k h => absurd h (by simp), by simp, fun i hi => absurd hi (by simp)⟩, fun i hi => absurd hi (by omega), fun c hc => ⟨0, by decide, (cz_i2 c hc).2⟩⟩, fun i hi => absurd hi (by omega)⟩
  refine ⟨(cz_ini 462, 0, 0, fun _ => []), fun _ => (cz_ini 462, 0, 0, fun _ => []), 0, fun _ => (cz_ini 462, 0, 0, fun _ => []), fun _ => 0, fun _ => 0, 0, ⟨⟨ok, Nat.zero_le _⟩, ⟨by decide, fun i hi => absurd hi (by omega)⟩, fun i hi => ⟨Nat.zero_lt_two, fun h => absurd h Nat.zero_ne_one⟩, by decide, fun k hk => absurd hk (by omega)⟩, ⟨?_, ?_, ⟨fun i => i, fun i hi => ⟨hi, ?_⟩, fun i j _ _ h => h⟩, fun i hi => absurd hi (by omega), fun i hi => ⟨?_, fun h => absurd h Nat.zero_ne_one⟩, ?_, fun k hk => absurd hk (by omega)⟩, ⟨?_, ?_, fun i hi => absurd hi (by omega), fun i hi => ⟨?_, fun h => absurd h Nat.zero_ne_one⟩, ?_, fun k hk => absurd hk (by omega), ⟨fun j hj => Or.inl ?_, fun j hj => Or.inl ?_⟩⟩⟩
  · refine ⟨fun k hk => ?_, ⟨?_, ?_⟩, fun k hk => ?_, fun c hc f hf => ?_, fun r hr => ⟨?_, fun k h => absurd h (by simp)⟩, fun i hi => absurd hi (Nat.not_lt_zero i)⟩
    · rw [hM, show b + 1 + 1 - b = 2 by omega]; exact cz_i4 k hk
    · rw [hM, show b + 1 - b = 1 by omega]; decide +kernel
    · rw [hM, show b + 1 - b = 1 by omega]; decide +kernel
    · rw [hM, show b + 1 + 3 - b = 4 by omega]; exact cz_i5 k hk
    · rw [hM, show b + 1 + 2 + (7 + c) - b = 10 + c by omega]; exact cz_i6 c hc f hf
    · rw [hM, show b + 1 + 5 + (48 + 2 * r) - b = 54 + 2 * r by omega]; exact (cz_i3 r hr).2.1
  · rw [hM, Nat.sub_self]; decide +kernel
  · show b + (119 + 57 * i) = b + 119 + 57 * i
    omega
  · rw [hM, show b + 117 - b = 117 by omega]; exact (cz_i3 i hi).2.2.1
  · rw [hM, Nat.sub_self]; decide +kernel
  · funext k
    rw [hM, show b + 461 + 1 - b = 462 by omega]
  · rw [hM, show b + 461 - b = 461 by omega]; decide +kernel
  · rw [hM, show b + 461 + 5 - b = 466 by omega]; exact (cz_i3 i hi).2.2.2
  · rw [hM, show b + 461 - b = 461 by omega]; decide +kernel
  · rw [hM, show b + 461 + 7 - b = 468 by omega]; exact (cz_i7 j hj).1
  · rw [hM, show b + 461 + 8 - b = 469 by omega]; exact (cz_i7 j hj).2
