/-! when letters come, and weeks that pass -/
theorem cz_sk_add {s : Nat → Int32} {n W : Nat} {R : Nat → List Nat} (k : Nat) : ∀ j, cz_sk (cz_sk s n W R k).1 n (W + k) (cz_sk s n W R k).2 j = cz_sk s n W R (k + j)
  | 0 => rfl
  | j + 1 => by
    have ih := cz_sk_add (s := s) (n := n) (W := W) (R := R) k j
    show (cz_wK (cz_sk (cz_sk s n W R k).1 n (W + k) (cz_sk s n W R k).2 j).1 n (W + k + j) (cz_sk (cz_sk s n W R k).1 n (W + k) (cz_sk s n W R k).2 j).2, cz_wR (cz_sk (cz_sk s n W R k).1 n (W + k) (cz_sk s n W R k).2 j).1 (W + k + j) (cz_sk (cz_sk s n W R k).1 n (W + k) (cz_sk s n W R k).2 j).2) = (cz_wK (cz_sk s n W R (k + j)).1 n (W + (k + j)) (cz_sk s n W R (k + j)).2, cz_wR (cz_sk s n W R (k + j)).1 (W + (k + j)) (cz_sk s n W R (k + j)).2)
    rw [ih, Nat.add_assoc]
/-- a settled letter stays settled -/
theorem cz_sk_st {s : Nat → Int32} {n W : Nat} {R : Nat → List Nat} (ok : cz_ok s n W R) {i k f : Nat} (hi : i < n) (hf : f < 11) (h : (cz_sk s n W R k).1 (111 + 11 * i + 2) ≠ nI 0) : ∀ d, W + (k + d) < 2 ^ 20 → (cz_sk s n W R (k + d)).1 (111 + 11 * i + f) = (cz_sk s n W R k).1 (111 + 11 * i + f) ∧ (cz_sk s n W R (k + d)).1 (111 + 11 * i + 2) = (cz_sk s n W R k).1 (111 + 11 * i + 2)
  | 0, _ => ⟨rfl, rfl⟩
  | d + 1, hW => by
    obtain ⟨h1, h2⟩ := cz_sk_st ok hi hf h d (by omega)
    have okk := cz_ok_sk ok (k + d) (by omega)
    have hn : (cz_sk s n W R (k + d)).1 (111 + 11 * i + 2) ≠ nI 0 := by rw [h2]; exact h
    exact ⟨(cz_wK_f okk hi hf hn).trans h1, (cz_wK_f okk hi (by decide) hn).trans h2⟩
theorem cz_uv_c {s : Nat → Int32} {n W : Nat} {R : Nat → List Nat} (ok : cz_ok s n W R) {i : Nat} (hi : i < n) (hW : W + 100 < 2 ^ 20) :
    (∃ u, u ≤ 100 ∧ cz_uv s n W R i = nI u ∧ (cz_sk s n W R u).1 (111 + 11 * i + 2) = nI 1 ∧ ∀ j, j < u → (cz_sk s n W R j).1 (111 + 11 * i + 2) = nI 0) ∨ (cz_uv s n W R i = (-6 : Int32) ∧ ∀ j, j ≤ 100 → (cz_sk s n W R j).1 (111 + 11 * i + 2) ≠ nI 1) := by
  obtain ⟨h1, h2, h3, h4⟩ := cz_un_sp (fun k => decide ((cz_sk s n W R k).1 (111 + 11 * i + 2) = nI 0)) 100 0
  have h2 : cz_uK s n W R i ≤ 100 := by have : cz_uK s n W R i ≤ 0 + 100 := h2; omega
  have h3 : ∀ j, j < cz_uK s n W R i → (cz_sk s n W R j).1 (111 + 11 * i + 2) = nI 0 := fun j hj => of_decide_eq_true (h3 j (Nat.zero_le _) hj)
  have h4 : cz_uK s n W R i < 100 → (cz_sk s n W R (cz_uK s n W R i)).1 (111 + 11 * i + 2) ≠ nI 0 := fun hlt z => h4 (by show cz_uK s n W R i < 0 + 100; omega) (decide_eq_true z)
  by_cases hc : (cz_sk s n W R (cz_uK s n W R i)).1 (111 + 11 * i + 2) = nI 1
  · refine Or.inl ⟨cz_uK s n W R i, h2, ?_, hc, h3⟩
    unfold cz_uv
    rw [if_pos hc]
  · refine Or.inr ⟨by unfold cz_uv; rw [if_neg hc], fun j hj z => ?_⟩
    by_cases hlt : j < cz_uK s n W R i
    · rw [h3 j hlt] at z
      exact absurd z (by decide)
    · by_cases h100 : cz_uK s n W R i < 100
      · have h5 := (cz_sk_st ok hi (f := 2) (by decide) (h4 h100) (j - cz_uK s n W R i) (by omega)).1
        rw [show cz_uK s n W R i + (j - cz_uK s n W R i) = j by omega, z] at h5
        exact hc h5.symm
      · have hj2 : j = cz_uK s n W R i := by omega
        rw [hj2] at z
        exact hc z
/-- behind some weeks it comes that much earlier -/
theorem cz_uv_k {s : Nat → Int32} {n W k : Nat} {R : Nat → List Nat} (ok : cz_ok s n W R) {i : Nat} (hi : i < n) (hk : k ≤ 100) (hW : W + 200 < 2 ^ 20) :
    ∃ u' : Int32, cz_uv (cz_sk s n W R k).1 n (W + k) (cz_sk s n W R k).2 i = u' ∧ ((cz_uv s n W R i = (-6 : Int32) ∧ (u' = (-6 : Int32) ∨ ∃ q, 100 - k < q ∧ q ≤ 100 ∧ u' = nI q)) ∨ ∃ u, u ≤ 100 ∧ cz_uv s n W R i = nI u ∧ ((u ≤ k ∧ u' = nI 0) ∨ (k < u ∧ u' = nI (u - k)))) := by
  have okk := cz_ok_sk ok k (by omega)
  refine ⟨_, rfl, ?_⟩
  have hA := cz_uv_c ok hi (by omega)
  have hB := cz_uv_c okk hi (by omega)
  simp only [cz_sk_add] at hB
  rcases hA with ⟨u, hu, e1, e2, e3⟩ | ⟨e1, e2⟩
  · refine Or.inr ⟨u, hu, e1, ?_⟩
    by_cases hle : u ≤ k
    · refine Or.inl ⟨hle, ?_⟩
      have h1 : (cz_sk s n W R k).1 (111 + 11 * i + 2) = nI 1 := by
        have h5 := (cz_sk_st ok hi (f := 2) (by decide) (k := u) (by rw [e2]; decide) (k - u) (by omega)).1
        rw [show u + (k - u) = k by omega, e2] at h5
        exact h5
      rw [cz_uv_n (by rw [h1]; decide), if_pos h1]
    · refine Or.inr ⟨by omega, ?_⟩
      rcases hB with ⟨q, hq, g1, g2, g3⟩ | ⟨g1, g2⟩
      · rw [g1]
        rcases Nat.lt_trichotomy (k + q) u with h | h | h
        · rw [e3 _ h] at g2
          exact absurd g2 (by decide)
        · rw [show q = u - k by omega]
        · have := g3 (u - k) (by omega)
          rw [show k + (u - k) = u by omega, e2] at this
          exact absurd this (by decide)
      · have := g2 (u - k) (by omega)
        rw [show k + (u - k) = u by omega] at this
        exact absurd e2 this
  · refine Or.inl ⟨e1, ?_⟩
    rcases hB with ⟨q, hq, g1, g2, g3⟩ | ⟨g1, g2⟩
    · refine Or.inr ⟨q, ?_, hq, g1⟩
      by_cases h : k + q ≤ 100
      · exact absurd g2 (e2 _ h)
      · omega
    · exact Or.inl g1
section LD
variable {b : Nat} {M : cz_M} {s : Nat → Int32} {n W : Nat} {R : Nat → List Nat} {hist : Nat → cz_S} {pc : Nat} {slot : Nat → cz_S} {used pad : Nat → Nat} {len : Nat}
/-- why a letter doesn't come, against when it comes, and against who is burnt -/
theorem l_why {i : Nat} (ok : cz_ok s n W R) (hi : i < n) (hW : W + 100 < 2 ^ 20) : ∃ w, w ≤ 5 ∧ (w = 0 ↔ cz_uv s n W R i = nI 1) ∧ (w = 5 → cz_ct s 2 n < cz_ct (cz_sk s n W R 1).1 2 n) ∧ ∀ M, cz_J b M (s, n, W, R) hist pc slot used pad len → ∃ M1, f_X4_why M b (nI i) = some (nI w, M1) ∧ cz_J b M1 (s, n, W, R) hist pc slot used pad len := by
  by_cases h0 : s (111 + 11 * i + 2) = nI 0
  · obtain ⟨r, hr, hr1, hr2⟩ := (ok.1.2.2.2.2.2.1 i hi).2.2.1
    obtain ⟨k, hk, hke⟩ := List.mem_iff_getElem.mp (hr2 h0)
    have hfc := cz_fa_c s W R r k
    have e2 := cz_wK_t (f := 2) ok hr (by decide) hk
    rw [hke] at e2
    have e2 : (cz_sk s n W R 1).1 (111 + 11 * i + 2) = _ := e2
    have hwy : ∀ M, cz_J b M (s, n, W, R) hist pc slot used pad len → ∃ M1, f_X4_why M b (nI i) = some (nI (cz_fa s W R r k), M1) ∧ cz_J b M1 (s, n, W, R) hist pc slot used pad len := fun M J => by
      obtain ⟨M1, f1, J1⟩ := k_why J hr hk
      rw [hke] at f1
      exact ⟨M1, f1, J1⟩
    generalize cz_fa s W R r k = t at hfc e2 hwy
    refine ⟨t, by omega, ?_, fun ht => ?_, hwy⟩
    · rcases cz_uv_c ok hi hW with ⟨u, hu, g1, g2, g3⟩ | ⟨g1, g2⟩
      · rw [g1]
        have hu0 : u ≠ 0 := fun z => by
          rw [z] at g2
          exact absurd (h0.symm.trans g2) (by decide)
        have hiff : nI u = nI 1 ↔ u = 1 := ⟨fun z => cz_nI_inj (by omega) (by omega) z, fun z => by rw [z]⟩
        rw [hiff]
        constructor
        · intro ht
          rw [ht] at e2
          have e2 : (cz_sk s n W R 1).1 (111 + 11 * i + 2) = nI 1 := e2
          by_cases h1 : u = 1
          · exact h1
          · have := g3 1 (by omega)
            rw [e2] at this
            exact absurd this (by decide)
        · intro h1
          rw [h1] at g2
          rcases hfc with rfl | rfl | rfl | rfl | rfl
          · rfl
          · have e2 : (cz_sk s n W R 1).1 (111 + 11 * i + 2) = s (111 + 11 * i + 2) := e2
            rw [g2, h0] at e2; exact absurd e2 (by decide)
          · have e2 : (cz_sk s n W R 1).1 (111 + 11 * i + 2) = s (111 + 11 * i + 2) := e2
            rw [g2, h0] at e2; exact absurd e2 (by decide)
          · have e2 : (cz_sk s n W R 1).1 (111 + 11 * i + 2) = s (111 + 11 * i + 2) := e2
            rw [g2, h0] at e2; exact absurd e2 (by decide)
          · have e2 : (cz_sk s n W R 1).1 (111 + 11 * i + 2) = nI 2 := e2
            rw [g2] at e2; exact absurd e2 (by decide)
      · rw [g1]
        refine ⟨fun ht => ?_, fun z => absurd z (by decide)⟩
        rw [ht] at e2
        exact absurd e2 (g2 1 (by omega))
    · rw [ht] at e2
      have e2 : (cz_sk s n W R 1).1 (111 + 11 * i + 2) = nI 2 := e2
      have hmono : ∀ j, j < n → s (111 + 11 * j + 2) = nI 2 → (cz_sk s n W R 1).1 (111 + 11 * j + 2) = nI 2 := fun j hj z => (cz_wK_f ok hj (by decide) (by rw [z]; decide)).trans z
      have key : ∀ k, k ≤ n → cz_ct s 2 k ≤ cz_ct (cz_sk s n W R 1).1 2 k ∧ (i < k → cz_ct s 2 k < cz_ct (cz_sk s n W R 1).1 2 k) := by
        intro k
        induction k with
        | zero => intro _; exact ⟨Nat.le_refl _, fun z => by omega⟩
        | succ k ih =>
          intro hkn
          obtain ⟨a1, a2⟩ := ih (by omega)
          have e : ∀ q : Nat → Int32, cz_ct q 2 (k + 1) = cz_ct q 2 k + (if q (111 + 11 * k + 2) = nI 2 then 1 else 0) := fun q => rfl
          rw [e, e]
          by_cases hki : k = i
          · subst hki
            rw [if_neg (by rw [h0]; decide), if_pos e2]
            exact ⟨by omega, fun _ => by omega⟩
          · by_cases hs : s (111 + 11 * k + 2) = nI 2
            · rw [if_pos hs, if_pos (hmono k (by omega) hs)]
              exact ⟨by omega, fun z => by have := a2 (by omega); omega⟩
            · rw [if_neg hs]
              exact ⟨by omega, fun z => by have := a2 (by omega); omega⟩
      exact (key n (Nat.le_refl _)).2 hi
  · refine ⟨1, by omega, ⟨fun z => absurd z (by decide), fun z => ?_⟩, fun z => absurd z (by decide), fun M J => ⟨M, k_why1 J hi h0, J⟩⟩
    rw [cz_uv_n h0] at z
    split at z
    · exact absurd z (by decide)
    · exact absurd z (by decide)
theorem l_pass1 (x1 x2 x3 x4 x5 x6 x7 x8 : Int32) : ∀ (d k fuel : Nat) (M : cz_M) (f : Nat → Int32), k + d = n → d < fuel → cz_J b M (s, n, W, R) hist pc slot used pad len → (∀ j, j < k → f j = cz_uv s n W R j) →
    ∃ M' f', cz_J b M' (s, n, W, R) hist pc slot used pad len ∧ (∀ j, j < n → f' j = cz_uv s n W R j) ∧ ∀ K, cz_it3 (f_L_passes_L65 b x1 x2 x3 x4 x5 x6 x7 x8 K) fuel (nI k) f M = K (nI n) f' M' := by
  intro d
  induction d with
  | zero =>
    intro k fuel M f hk hf J h
    obtain rfl : k = n := by omega
    obtain ⟨g, rfl⟩ : ∃ g, fuel = g + 1 := ⟨fuel - 1, by omega⟩
    have hn := (k_ok J).1.1.1
    refine ⟨M, f, J, h, fun K => ?_⟩
    show f_L_passes_L65 b x1 x2 x3 x4 x5 x6 x7 x8 K (cz_it3 (f_L_passes_L65 b x1 x2 x3 x4 x5 x6 x7 x8 K) g) _ _ _ = _
    rw [f_L_passes_L65, k_count4 J, cz_b2_s, if_pos (nI_le (Nat.le_refl _) (by omega))]
  | succ d ih =>
    intro k fuel M f hk hf J h
    obtain ⟨g, rfl⟩ : ∃ g, fuel = g + 1 := ⟨fuel - 1, by omega⟩
    have ok := k_ok J
    have hW9 := k_W J
    have hn := ok.1.1.1
    have hkn : k < n := by omega
    obtain ⟨M1, f1, J1⟩ := k_until J hkn
    obtain ⟨w, hw5, hw0, hwb, hwy⟩ := l_why (b := b) (hist := hist) (pc := pc) (slot := slot) (used := used) (pad := pad) (len := len) ok hkn (by omega)
    obtain ⟨M2, f2, J2⟩ := hwy M1 J1
    obtain ⟨M3, f3, J3⟩ := hwy M2 J2
    obtain ⟨M4, ⟨-, f4, -⟩, J4⟩ := k_if J3 (k := 1) (by decide) (by decide)
    have hfk : ∀ j, j < k + 1 → upd f k (cz_uv s n W R k) j = cz_uv s n W R j := fun j hj => by
      by_cases hjk : j = k
      · subst hjk; rw [pk_us]
      · rw [pk_un hjk]; exact h j (by omega)
    have c40 := cz_ct_le s 2 n
    have c41 := cz_ct_le (cz_sk s n W R 1).1 2 n
    have st : ∃ Mx, cz_J b Mx (s, n, W, R) hist pc slot used pad len ∧ ∀ K rec, f_L_passes_L65 b x1 x2 x3 x4 x5 x6 x7 x8 K rec (nI k) f M = rec (nI (k + 1)) (upd f k (cz_uv s n W R k)) Mx := by
      have hcl : Int32.toNatClampNeg (nI k) = k := cz_cl (by omega)
      by_cases hw : w = 5
      · refine ⟨M4, J4, fun K rec => ?_⟩
        have hlt := hwb hw
        have hne0 : ¬ nI w = nI 0 := by rw [hw]; decide
        have hne1 : ¬ cz_uv s n W R k = nI 1 := fun z => by have := hw0.mpr z; omega
        rw [f_L_passes_L65, k_count4 J, cz_b2_s, if_neg (nI_ge hkn (by omega)), f1, cz_b2_s, cz_gdn (by omega) (by decide), cz_lt_e, f2, cz_b2_s, if_neg hne0, cz_gdn (by omega) (by decide), hcl, pk_us, if_neg hne1, f3, cz_b2_s, if_pos (by rw [hw]), f4, cz_b2_s, cz_subN (by omega), if_neg (nI_ge (by omega) (by omega)), cz_lt_e, nI_add]
      · refine ⟨M3, J3, fun K rec => ?_⟩
        have hne5 : ¬ nI w = nI 5 := fun z => hw (cz_nI_inj (by omega) (by omega) z)
        rw [f_L_passes_L65, k_count4 J, cz_b2_s, if_neg (nI_ge hkn (by omega)), f1, cz_b2_s, cz_gdn (by omega) (by decide), cz_lt_e, f2, cz_b2_s, hcl, pk_us]
        by_cases h0 : w = 0
        · rw [if_pos (by rw [h0]), cz_gdn (by omega) (by decide), if_pos (hw0.mp h0), f3, cz_b2_s, if_neg hne5, cz_lt_e, nI_add]
        · rw [if_neg (fun z => h0 (cz_nI_inj (by omega) (by omega) z)), cz_gdn (by omega) (by decide), if_neg (fun z => h0 (hw0.mpr z)), f3, cz_b2_s, if_neg hne5, cz_lt_e, nI_add]
    obtain ⟨Mx, Jx, sx⟩ := st
    obtain ⟨M', f', a1, a2, a3⟩ := ih (k + 1) g Mx (upd f k (cz_uv s n W R k)) (by omega) (by omega) Jx hfk
    exact ⟨M', f', a1, a2, fun K => (sx K _).trans (a3 K)⟩
theorem l_pass2 {s0 : Nat → Int32} {W0 q : Nat} {R0 : Nat → List Nat} (x11 : Int32) (hq : q ≤ 52) (hu : ∀ i, i < n → ∃ u' : Int32, cz_uv s n W R i = u' ∧ ((cz_uv s0 n W0 R0 i = (-6 : Int32) ∧ (u' = (-6 : Int32) ∨ ∃ p, 100 - q < p ∧ p ≤ 100 ∧ u' = nI p)) ∨ ∃ u, u ≤ 100 ∧ cz_uv s0 n W0 R0 i = nI u ∧ ((u ≤ q ∧ u' = nI 0) ∨ (q < u ∧ u' = nI (u - q))))) :
    ∀ (d k fuel : Nat) (M : cz_M) (f : Nat → Int32), k + d = n → d < fuel → cz_J b M (s, n, W, R) hist pc slot used pad len → (∀ j, j < n → f j = cz_uv s0 n W0 R0 j) →
    ∃ M', cz_J b M' (s, n, W, R) hist pc slot used pad len ∧ ∀ K, cz_it3 (f_L_passes_L234 b (nI q) x11 K) fuel (nI k) f M = K (nI n) f M' := by
  intro d
  induction d with
  | zero =>
    intro k fuel M f hk hf J h
    obtain rfl : k = n := by omega
    obtain ⟨g, rfl⟩ : ∃ g, fuel = g + 1 := ⟨fuel - 1, by omega⟩
    have hn := (k_ok J).1.1.1
    refine ⟨M, J, fun K => ?_⟩
    show f_L_passes_L234 b (nI q) x11 K (cz_it3 (f_L_passes_L234 b (nI q) x11 K) g) _ _ _ = _
    rw [f_L_passes_L234, k_count4 J, cz_b2_s, if_pos (nI_le (Nat.le_refl _) (by omega))]
  | succ d ih =>
    intro k fuel M f hk hf J h
    obtain ⟨g, rfl⟩ : ∃ g, fuel = g + 1 := ⟨fuel - 1, by omega⟩
    have ok := k_ok J
    have hn := ok.1.1.1
    have hkn : k < n := by omega
    obtain ⟨M1, f1, J1⟩ := k_until J hkn
    have hcl : Int32.toNatClampNeg (nI k) = k := cz_cl (by omega)
    obtain ⟨M', a1, a3⟩ := ih (k + 1) g M1 f (by omega) (by omega) J1 h
    refine ⟨M', a1, fun K => Eq.trans ?_ (a3 K)⟩
    show f_L_passes_L234 b (nI q) x11 K (cz_it3 (f_L_passes_L234 b (nI q) x11 K) g) _ _ _ = _
    obtain ⟨u', hu1, hu2⟩ := hu k hkn
    rw [f_L_passes_L234, k_count4 J, cz_b2_s, if_neg (nI_ge hkn (by omega)), f1, cz_b2_s, cz_gdn (by omega) (by decide), hcl, h k hkn, hu1]
    rcases hu2 with ⟨e1, e2⟩ | ⟨u, hu, e1, e2⟩
    · rw [e1, if_pos rfl]
      rcases e2 with rfl | ⟨p, hp1, hp2, rfl⟩
      · rw [if_pos rfl, cz_lt_e, nI_add]
      · rw [if_neg (cz_nIm (by omega)), cz_subN (by omega), if_neg (nI_ge (by omega) (by omega)), cz_lt_e, nI_add]
    · rw [e1, if_neg (cz_nIm (by omega)), cz_gdn (by omega) (by decide)]
      rcases e2 with ⟨h1, rfl⟩ | ⟨h1, rfl⟩
      · rw [if_neg (nI_nlt h1 (by omega)), if_pos rfl, cz_lt_e, nI_add]
      · rw [if_pos (nI_lt h1 (by omega)), cz_gdn (by omega) (by decide), cz_subN (by omega), if_pos rfl, cz_lt_e, nI_add]
theorem cz_ad (x y : Int32) : x + (y - x) = y := by rw [Int32.add_comm, Int32.sub_add_cancel]
theorem l_passes {k : Nat} (J : cz_J b M (s, n, W, R) hist pc slot used pad len) (h1 : 1 ≤ k) (h2 : k ≤ 52) (h3 : W + k ≤ 9999) :
    ∃ M', f_L_passes M b (nI k) = some (nI (cz_ck s n W R k), M') ∧ cz_J b M' ((cz_sk s n W R k).1, n, W + k, (cz_sk s n W R k).2) (cz_hp hist pc (s, n, W, R)) (cz_hc pc) slot used pad len := by
  have ok := k_ok J
  have hn := ok.1.1.1
  obtain ⟨M1, ⟨f1, -, -⟩, J1⟩ := k_if J (k := k) h1 (by omega)
  obtain ⟨M2, ⟨-, f2, -⟩, J2⟩ := k_if J1 (k := k) h1 (by omega)
  obtain ⟨M3, ⟨-, -, f3⟩, J3⟩ := k_if J2 (k := k) h1 (by omega)
  obtain ⟨M4, f4, J4, hf4, e4⟩ := l_pass1 (b := b) (s := s) (n := n) (W := W) (R := R) (hist := hist) (pc := pc) (slot := slot) (used := used) (pad := pad) (len := len) (nI k) (nI (cz_ck s n W R k)) (nI (cz_ct (cz_sk s n W R k).1 2 n) - nI (cz_ct s 2 n)) (nI (cz_sw (cz_sk s n W R k).1 n) - nI (cz_sw s n)) (nI (cz_ct s 1 n)) (nI (cz_ct s 2 n)) (nI (cz_sw s n)) (nI W) n 0 4096 M3 (fun _ => 0) (by omega) (by omega) J3 (fun j hj => by omega)
  obtain ⟨M5, f5, J5⟩ := k_pass J4 h1 h2 h3
  have hu : ∀ i, i < n → _ := fun i hi => cz_uv_k (k := k) ok hi (by omega) (by omega)
  obtain ⟨M6, J6, e6⟩ := l_pass2 (q := k) (nI (cz_ck s n W R k)) h2 hu n 0 4096 M5 f4 (by omega) (by omega) J5 hf4
  refine ⟨M6, ?_, J6⟩
  rw [f_L_passes, f1, cz_b2_s, f2, cz_b2_s, f3, cz_b2_s, k_count6 J3, cz_b2_s, k_count7 J3, cz_b2_s, k_count12 J3, cz_b2_s, k_count3 J3, cz_b2_s, cz_lt_e, e4, f5, cz_b2_s, if_pos rfl, k_count6 J5, cz_b2_s, cz_ct_sk ok k (by omega), nI_add, if_pos rfl, k_count7 J5, cz_b2_s, cz_ad, if_pos rfl, k_count12 J5, cz_b2_s, cz_ad, if_pos rfl, k_count3 J5, cz_b2_s, nI_add, if_pos rfl, e6]
end LD
