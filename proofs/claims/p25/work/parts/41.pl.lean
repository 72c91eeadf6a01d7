/-! settings, roster, sets -/
theorem cz_ok_gs {s s' : Nat → Int32} {n W : Nat} {R : Nat → List Nat} (h : ∀ j, (j = 3 ∨ j = 4 ∨ 29 ≤ j ∨ (13 ≤ j ∧ (j - 13) % 4 = 3)) → s' j = s j) (hset : (∃ k, k ≤ 9 ∧ s' 0 = nI k) ∧ (∃ k, k ≤ 8 ∧ s' 1 = nI k) ∧ (∃ k, k ≤ 5 ∧ s' 2 = nI k)) (hro : ∀ k, k < 8 → ∃ c, c < 4 ∧ s' (5 + k) = nI c) (hst : ∀ c, c < 4 → ∃ S, S < 2 ^ 26 ∧ s' (13 + 4 * c) = nI S) (ok : cz_ok s n W R) : cz_ok s' n W R := by
  obtain ⟨⟨⟨hn, hs4, hW, hs3⟩, -, -, -, hrw, hle, htc⟩, hno⟩ := ok
  refine ⟨⟨⟨hn, (h 4 (by omega)).trans hs4, hW, (h 3 (by omega)).trans hs3⟩, hset, hro, hst, fun r hr => ?_, fun i hi => ?_, fun c hc => ?_⟩, fun i hi => ?_⟩
  · obtain ⟨l1, l2, l3, l4, l5⟩ := hrw r hr
    refine ⟨(h _ (by omega)).trans l1, l2, fun k hk => (h _ (by omega)).trans (l3 k hk), l4, fun i hi => ?_⟩
    have h5 := l5 i hi
    exact ⟨h5.1, (h _ (by omega)).trans h5.2.1, (h _ (by omega)).trans h5.2.2⟩
  · have := hle i hi
    unfold cz_le cz_lw at this ⊢
    rw [h (111 + 11 * i) (by omega), h (111 + 11 * i + 1) (by omega), h (111 + 11 * i + 2) (by omega), h (111 + 11 * i + 3) (by omega), h (111 + 11 * i + 4) (by omega), h (111 + 11 * i + 5) (by omega), h (111 + 11 * i + 6) (by omega), h (111 + 11 * i + 7) (by omega), h (111 + 11 * i + 8) (by omega), h (111 + 11 * i + 9) (by omega), h (111 + 11 * i + 10) (by omega)]
    exact this
  · rw [h _ (by omega)]; exact htc c hc
  · rw [h _ (by omega)]; exact hno i hi
theorem cz_rp_g {M M' : cz_M} {p n : Nat} {s s' : Nat → Int32} {R : Nat → List Nat} (hM : ∀ x, x = p ∨ p + 13 ≤ x → M'.1 x = M.1 x) (hM2 : M'.2.1 = M.2.1) (h : ∀ j, (j = 3 ∨ j = 4 ∨ 29 ≤ j) → s' j = s j) (h1 : ∀ k, k < 3 → M'.1 (p + 1) k = s' k) (h2 : ∀ k, k < 8 → M'.1 (p + 3) k = s' (5 + k)) (h3 : ∀ c, c < 4 → ∀ f, f < 4 → M'.1 (p + 2 + (7 + c)) f = s' (13 + 4 * c + f)) (hlw : ∀ j, j < n → cz_lw s j) (rp : cz_rp M p s n R) : cz_rp M' p s' n R := by
  obtain ⟨-, ⟨r2, r3⟩, -, -, r6, r7⟩ := rp
  refine ⟨h1, ⟨?_, ?_⟩, h2, h3, fun r hr => ?_, fun i hi => ?_⟩
  · rw [hM p (Or.inl rfl), h 3 (by omega)]; exact r2
  · rw [hM p (Or.inl rfl), h 4 (by omega)]; exact r3
  · unfold cz_rr
    rw [hM _ (by omega), hM _ (by omega)]
    exact r6 r hr
  · exact cz_rl_c (hM _ (by omega)) (by rw [hM2]) (fun f hf => h _ (by omega)) (h 3 (by omega)) (hlw i hi) (r7 i hi)
theorem cz_ok_lw {s : Nat → Int32} {n W : Nat} {R : Nat → List Nat} (ok : cz_ok s n W R) : ∀ j, j < n → cz_lw s j := fun j hj => (ok.1.2.2.2.2.2.1 j hj).1
