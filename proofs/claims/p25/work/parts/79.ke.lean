/-! what else holds of a state: masks, delays, who let a letter through; what censors have read and turned back -/
def cz_gl (s : Nat → Int32) (W i : Nat) : Prop := ∃ l m, 1 ≤ l ∧ l ≤ 8 ∧ s (111 + 11 * i + 8) = nI l ∧ m < 2 ^ l ∧ s (111 + 11 * i + 5) = nI m ∧ (s (111 + 11 * i + 2) = nI 1 → (∃ v d, 1 ≤ d ∧ v + d ≤ W ∧ s (111 + 11 * i + 3) = nI v ∧ s (111 + 11 * i + 4) = nI d) ∧ ∃ c, c < 4 ∧ s (111 + 11 * i + 7) = nI c) ∧ (s (111 + 11 * i + 2) ≠ nI 1 → m = 0 ∧ s (111 + 11 * i + 7) = (-6 : Int32))
def cz_gk (s : Nat → Int32) (W c : Nat) : Prop := ∃ t q, t ≤ q ∧ q ≤ 18 * W ∧ s (13 + 4 * c + 3) = nI t ∧ s (13 + 4 * c + 1) = nI q
def cz_gx (A : cz_S) : Prop := (∀ i, i < A.2.1 → cz_gl A.1 A.2.2.1 i) ∧ ∀ c, c < 4 → cz_gk A.1 A.2.2.1 c
theorem cz_gl_c {s s' : Nat → Int32} {W W' i : Nat} (hW : W ≤ W') (h : ∀ f, f < 11 → s' (111 + 11 * i + f) = s (111 + 11 * i + f)) (hg : cz_gl s W i) : cz_gl s' W' i := by
  unfold cz_gl at hg ⊢
  obtain ⟨l, m, h1, h2, h3, h4, h5, h6, h7⟩ := hg
  rw [h 8 (by decide), h 5 (by decide), h 2 (by decide), h 3 (by decide), h 4 (by decide), h 7 (by decide)]
  exact ⟨l, m, h1, h2, h3, h4, h5, fun z => by
    obtain ⟨⟨v, d, q1, q2, q3, q4⟩, q5⟩ := h6 z
    exact ⟨⟨v, d, q1, by omega, q3, q4⟩, q5⟩, h7⟩
theorem cz_gx_gs {s s' : Nat → Int32} {n W : Nat} {R R' : Nat → List Nat} (h : ∀ j, (111 ≤ j ∨ (13 ≤ j ∧ (j - 13) % 4 = 1) ∨ (13 ≤ j ∧ (j - 13) % 4 = 3)) → s' j = s j) (hg : cz_gx (s, n, W, R)) : cz_gx (s', n, W, R') := by
  refine ⟨fun i hi => cz_gl_c (Nat.le_refl _) (fun f hf => h _ (by omega)) (hg.1 i hi), fun c hc => ?_⟩
  obtain ⟨t, q, h1, h2, h3, h4⟩ := hg.2 c hc
  exact ⟨t, q, h1, h2, (h _ (by omega)).trans h3, (h _ (by omega)).trans h4⟩
theorem cz_gl_wk {s : Nat → Int32} {n W i : Nat} {R : Nat → List Nat} (ok : cz_ok s n W R) (hi : i < n) (hg : cz_gl s W i) : cz_gl (cz_wK s n W R) (W + 1) i := by
  by_cases h0 : s (111 + 11 * i + 2) = nI 0
  · obtain ⟨r, hr, hr1, hr2⟩ := (ok.1.2.2.2.2.2.1 i hi).2.2.1
    obtain ⟨v, hv, hve⟩ := (ok.1.2.2.2.2.2.1 i hi).2.2.2.2.1
    obtain ⟨k, hk, hke⟩ := List.mem_iff_getElem.mp (hr2 h0)
    subst hke
    have e := fun f hf => cz_wK_t (f := f) ok hr hf hk
    have hcl : ∀ r, r < 2 → cz_no s (5 + 2 * (W % 4) + r) < 4 := fun r hr => by
      obtain ⟨n0, n1, -⟩ := cz_ok_no ok.1
      rcases (show r = 0 ∨ r = 1 by omega) with rfl | rfl
      · exact n0
      · exact n1
    obtain ⟨l, m, h1, h2, h3, h4, h5, h6, h7⟩ := hg
    obtain ⟨rfl, h8⟩ := h7 (by rw [h0]; decide)
    have e2 := e 2 (by decide)
    have e3 := e 3 (by decide)
    have e4 := e 4 (by decide)
    have e5 := e 5 (by decide)
    have e7 := e 7 (by decide)
    have e8 := e 8 (by decide)
    rcases cz_fa_c s W R r k with ht | ht | ht | ht | ht
    · rw [ht] at e2 e3 e4 e5 e7 e8
      have e2 : cz_wK s n W R (111 + 11 * (R r)[k] + 2) = nI 1 := e2
      have e3 : cz_wK s n W R (111 + 11 * (R r)[k] + 3) = s (111 + 11 * (R r)[k] + 3) := e3
      have e4 : cz_wK s n W R (111 + 11 * (R r)[k] + 4) = nI (W + 1) - s (111 + 11 * (R r)[k] + 3) := e4
      have e5 : cz_wK s n W R (111 + 11 * (R r)[k] + 5) = nI (cz_ms s (cz_no s (5 + 2 * (W % 4) + r)) (R r)[k]) := e5
      have e7 : cz_wK s n W R (111 + 11 * (R r)[k] + 7) = nI (cz_no s (5 + 2 * (W % 4) + r)) := e7
      have e8 : cz_wK s n W R (111 + 11 * (R r)[k] + 8) = s (111 + 11 * (R r)[k] + 8) := e8
      refine ⟨l, cz_ms s (cz_no s (5 + 2 * (W % 4) + r)) (R r)[k], h1, h2, e8.trans h3, ?_, e5, fun _ => ⟨⟨v, W + 1 - v, by omega, by omega, e3.trans hve, by rw [e4, hve, cz_subN (by omega)]⟩, _, hcl r hr, e7⟩, fun z => absurd e2 z⟩
      unfold cz_ms
      rw [h3, cz_cl (by omega)]
      exact cz_mk_lt _ _ _
    · rw [ht] at e2 e5 e7 e8
      have e2 : cz_wK s n W R (111 + 11 * (R r)[k] + 2) = s (111 + 11 * (R r)[k] + 2) := e2
      have e5 : cz_wK s n W R (111 + 11 * (R r)[k] + 5) = s (111 + 11 * (R r)[k] + 5) := e5
      have e7 : cz_wK s n W R (111 + 11 * (R r)[k] + 7) = s (111 + 11 * (R r)[k] + 7) := e7
      have e8 : cz_wK s n W R (111 + 11 * (R r)[k] + 8) = s (111 + 11 * (R r)[k] + 8) := e8
      exact ⟨l, 0, h1, h2, e8.trans h3, h4, e5.trans h5, fun z => absurd (e2.symm.trans z) (by rw [h0]; decide), fun _ => ⟨rfl, e7.trans h8⟩⟩
    · rw [ht] at e2 e5 e7 e8
      have e2 : cz_wK s n W R (111 + 11 * (R r)[k] + 2) = s (111 + 11 * (R r)[k] + 2) := e2
      have e5 : cz_wK s n W R (111 + 11 * (R r)[k] + 5) = s (111 + 11 * (R r)[k] + 5) := e5
      have e7 : cz_wK s n W R (111 + 11 * (R r)[k] + 7) = s (111 + 11 * (R r)[k] + 7) := e7
      have e8 : cz_wK s n W R (111 + 11 * (R r)[k] + 8) = s (111 + 11 * (R r)[k] + 8) := e8
      exact ⟨l, 0, h1, h2, e8.trans h3, h4, e5.trans h5, fun z => absurd (e2.symm.trans z) (by rw [h0]; decide), fun _ => ⟨rfl, e7.trans h8⟩⟩
    · rw [ht] at e2 e5 e7 e8
      have e2 : cz_wK s n W R (111 + 11 * (R r)[k] + 2) = s (111 + 11 * (R r)[k] + 2) := e2
      have e5 : cz_wK s n W R (111 + 11 * (R r)[k] + 5) = s (111 + 11 * (R r)[k] + 5) := e5
      have e7 : cz_wK s n W R (111 + 11 * (R r)[k] + 7) = s (111 + 11 * (R r)[k] + 7) := e7
      have e8 : cz_wK s n W R (111 + 11 * (R r)[k] + 8) = s (111 + 11 * (R r)[k] + 8) := e8
      exact ⟨l, 0, h1, h2, e8.trans h3, h4, e5.trans h5, fun z => absurd (e2.symm.trans z) (by rw [h0]; decide), fun _ => ⟨rfl, e7.trans h8⟩⟩
    · rw [ht] at e2 e5 e7 e8
      have e2 : cz_wK s n W R (111 + 11 * (R r)[k] + 2) = nI 2 := e2
      have e5 : cz_wK s n W R (111 + 11 * (R r)[k] + 5) = s (111 + 11 * (R r)[k] + 5) := e5
      have e7 : cz_wK s n W R (111 + 11 * (R r)[k] + 7) = s (111 + 11 * (R r)[k] + 7) := e7
      have e8 : cz_wK s n W R (111 + 11 * (R r)[k] + 8) = s (111 + 11 * (R r)[k] + 8) := e8
      exact ⟨l, 0, h1, h2, e8.trans h3, h4, e5.trans h5, fun z => absurd (e2.symm.trans z) (by decide), fun _ => ⟨rfl, e7.trans h8⟩⟩
  · exact cz_gl_c (Nat.le_succ _) (fun f hf => cz_wK_f ok hi hf h0) hg
theorem cz_gx_wk {s : Nat → Int32} {n W : Nat} {R : Nat → List Nat} (ok : cz_ok s n W R) (hg : cz_gx (s, n, W, R)) : cz_gx (cz_wK s n W R, n, W + 1, cz_wR s W R) := by
  refine ⟨fun i hi => cz_gl_wk ok hi (hg.1 i hi), fun c hc => ?_⟩
  obtain ⟨t, q, h1, h2, h3, h4⟩ := hg.2 c hc
  obtain ⟨d, e, g1, g2, g3, g4⟩ := cz_rc_wk ok hc
  have h2 : q ≤ 18 * W := h2
  exact ⟨t + e, q + d, by omega, by show q + d ≤ 18 * (W + 1); omega, by show cz_wK s n W R (13 + 4 * c + 3) = _; rw [g4, show s (13 + 4 * c + 3) = nI t from h3, nI_add], by show cz_wK s n W R (13 + 4 * c + 1) = _; rw [g3, show s (13 + 4 * c + 1) = nI q from h4, nI_add]⟩
theorem cz_gx_sk {s : Nat → Int32} {n W : Nat} {R : Nat → List Nat} (ok : cz_ok s n W R) (hg : cz_gx (s, n, W, R)) : ∀ k, W + k < 2 ^ 20 → cz_gx ((cz_sk s n W R k).1, n, W + k, (cz_sk s n W R k).2)
  | 0, _ => hg
  | k + 1, h => cz_gx_wk (cz_ok_sk ok k (by omega)) (cz_gx_sk ok hg k (by omega))
theorem cz_gx_bn {s : Nat → Int32} {n W r p : Nat} {R : Nat → List Nat} (ok : cz_ok s n W R) (hr : r < 2) (hp : p < (R r).length) (hg : cz_gx (s, n, W, R)) : cz_gx (cz_bn s (R r)[p] r p (R r).length, n, W, cz_bR R r p) := by
  have hl := (ok.1.2.2.2.2.1 r hr).2.1
  have h5 := (ok.1.2.2.2.2.1 r hr).2.2.2.2 (R r)[p] (List.getElem_mem hp)
  have ho : ∀ j, j ≠ 111 + 11 * (R r)[p] + 2 → (j < 29 ∨ 111 ≤ j) → cz_bn s (R r)[p] r p (R r).length j = s j := fun j h1 h2 => cz_bn_o hl (by omega) h1 (by omega) (by omega)
  refine ⟨fun i hi => ?_, fun c hc => ?_⟩
  · by_cases h : i = (R r)[p]
    · obtain ⟨l, m, h1, h2, h3, h4, h6, h7, h8⟩ := hg.1 i hi
      subst h
      obtain ⟨rfl, h9⟩ := h8 (by show s _ ≠ _; rw [h5.2.2]; decide)
      have e2 : cz_bn s (R r)[p] r p (R r).length (111 + 11 * (R r)[p] + 2) = nI 2 := cz_bn_i hr hl (by omega)
      exact ⟨l, 0, h1, h2, (ho _ (by omega) (by omega)).trans h3, h4, (ho _ (by omega) (by omega)).trans h6, fun z => absurd (e2.symm.trans z) (by decide), fun _ => ⟨rfl, (ho _ (by omega) (by omega)).trans h9⟩⟩
    · exact cz_gl_c (Nat.le_refl _) (fun f hf => ho _ (by omega) (by omega)) (hg.1 i hi)
  · obtain ⟨t, q, h1, h2, h3, h4⟩ := hg.2 c hc
    exact ⟨t, q, h1, h2, (ho _ (by omega) (by omega)).trans h3, (ho _ (by omega) (by omega)).trans h4⟩
theorem cz_gx_wr {s : Nat → Int32} {n W t r m u v l : Nat} {R R' : Nat → List Nat} (hr : r < 2) (hl : l < 40) (hm : 1 ≤ m) (hm8 : m ≤ 8) (hg : cz_gx (s, n, W, R)) : cz_gx (cz_wr s n t r m u v l, n + 1, W, R') := by
  refine ⟨fun i hi => ?_, fun c hc => ?_⟩
  · by_cases h : i = n
    · subst h
      have e := fun f hf => cz_wr_f (s := s) (n := i) (t := t) (m := m) (u := u) (v := v) hr hl f hf
      have e2 : cz_wr s i t r m u v l (111 + 11 * i + 2) = nI 0 := e 2 (by decide)
      have e5 : cz_wr s i t r m u v l (111 + 11 * i + 5) = nI 0 := e 5 (by decide)
      have e7 : cz_wr s i t r m u v l (111 + 11 * i + 7) = (-6 : Int32) := e 7 (by decide)
      have e8 : cz_wr s i t r m u v l (111 + 11 * i + 8) = nI m := e 8 (by decide)
      exact ⟨m, 0, hm, hm8, e8, Nat.two_pow_pos m, e5, fun z => absurd (e2.symm.trans z) (by decide), fun _ => ⟨rfl, e7⟩⟩
    · have hi : i < n + 1 := hi
      exact cz_gl_c (Nat.le_refl _) (fun f hf => cz_wr_o (by omega) (by omega) (by omega) (by omega)) (hg.1 i (by show i < n; omega))
  · obtain ⟨t, q, h1, h2, h3, h4⟩ := hg.2 c hc
    exact ⟨t, q, h1, h2, (cz_wr_o (by omega) (by omega) (by omega) (by omega)).trans h3, (cz_wr_o (by omega) (by omega) (by omega) (by omega)).trans h4⟩
