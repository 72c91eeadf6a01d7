/-! the censors and the roster -/
def cz_sf (s : Nat → Int32) (c : Nat) : Nat → Nat
  | 0 => 0
  | k + 1 => cz_sf s c k + (if s (5 + k) = nI c then 1 else 0)
theorem c_shiftsOf {M : cz_M} {p c : Nat} {s : Nat → Int32} (h : ∀ k, k < 8 → M.1 (p + 3) k = s (5 + k)) : f_X2_shiftsOf M p (nI c) = some (nI (cz_sf s c 8)) := by
  rw [f_X2_shiftsOf]
  obtain ⟨x, hI, h⟩ := cz_for2b (F := f_X2_shiftsOf_L4 p (nI c) M (fun x10 x11 => some x10)) (fun k (x : Int32) => x = nI (cz_sf s c k)) (fun x => some x) 8
    (fun k x hk hI => by
      subst hI
      refine ⟨nI (cz_sf s c (k + 1)), fun rec => ?_, rfl⟩
      rw [f_X2_shiftsOf_L4, if_neg (nI_ge hk (by omega)), cz_gdn hk (by decide), cz_cl (by omega), h k hk, cz_sf]
      simp only [cz_lt_e, nI_add]
      split
      · rfl
      · rfl)
    (fun x hI rec => by rw [f_X2_shiftsOf_L4, if_pos (nI_le (Nat.le_refl _) (by omega))]) 8 0 (nI 0) 4096 (by omega) (by omega) rfl
  rw [h, hI]
theorem m_shiftsOf {M : cz_M} {a c : Nat} {s : Nat → Int32} (hs : M.1 (a + 1) = s) : f_X5_shiftsOf M a (nI c) = some (nI (cz_sf s c 8)) := by
  rw [f_X5_shiftsOf]
  obtain ⟨x, hI, h⟩ := cz_for2b (F := f_X5_shiftsOf_L4 a (nI c) M (fun x10 x11 => some x10)) (fun k (x : Int32) => x = nI (cz_sf s c k)) (fun x => some x) 8
    (fun k x hk hI => by
      subst hI
      refine ⟨nI (cz_sf s c (k + 1)), fun rec => ?_, rfl⟩
      rw [f_X5_shiftsOf_L4, if_neg (nI_ge hk (by omega)), nI_add, cz_gdn (by omega) (by decide), cz_cl (by omega), hs, cz_sf]
      simp only [cz_lt_e, nI_add]
      split
      · rfl
      · rfl)
    (fun x hI rec => by rw [f_X5_shiftsOf_L4, if_pos (nI_le (Nat.le_refl _) (by omega))]) 8 0 (nI 0) 4096 (by omega) (by omega) rfl
  rw [h, hI]
theorem cz_lt_of_ge {x : Int32} {n : Nat} (hn : n < 2 ^ 31) (h : nI n ≤ x) : ¬ x < nI 0 ∧ ¬ x < nI n := by
  refine ⟨fun z => ?_, fun z => cz_lt_not z h⟩
  rw [Int32.lt_iff_toInt_lt] at z
  rw [Int32.le_iff_toInt_le, nI_toInt hn] at h
  have e0 : (nI 0).toInt = 0 := by decide
  omega
theorem o_censor (M : cz_M) (b : Nat) (x y : Int32) (iv : cz_iv b M) : ∃ v, f_X4_censor M b x y = some v ∧ f_X5_censor M (b + 461) x y = some v := by
  obtain ⟨now, hist, pc, slot, used, pad, len, wf, cv, rv⟩ := id iv
  obtain ⟨s, n, W, R⟩ := now
  have hv1 : M.1 (b + 461 + 1) = s := rv.1
  have hcen : ∀ c, c < 4 → ∀ f, f < 4 → M.1 (b + 1 + 2 + (7 + c)) f = s (13 + 4 * c + f) := cv.1.2.2.2.1
  have hros : ∀ k, k < 8 → M.1 (b + 1 + 3) k = s (5 + k) := cv.1.2.2.1
  rcases cz_rng x 4 (by decide) with ⟨c, hc, rfl⟩ | h | h
  · have hx4 : f_X4_censor M b (nI c) y = if y = nI 0 then some (s (13 + 4 * c + 0)) else if y = nI 1 then some (nI (cz_sf s c 8)) else if y = nI 2 then some (s (13 + 4 * c + 1)) else if y = nI 3 then some (s (13 + 4 * c + 2)) else if y = nI 4 then some (s (13 + 4 * c + 3)) else some (-2 : Int32) := by
      rw [f_X4_censor, if_neg (nI_nlt (Nat.zero_le _) (by omega)), if_pos (nI_lt hc (by decide)), cz_gdn hc (by decide), cz_cl (by omega), cz_lt_e, hcen c hc 0 (by decide), hcen c hc 1 (by decide), hcen c hc 2 (by decide), hcen c hc 3 (by decide), c_shiftsOf hros]
      rfl
    have hx5 : f_X5_censor M (b + 461) (nI c) y = if y = nI 1 then some (nI (cz_sf s c 8)) else if y = nI 0 then some (s (13 + 4 * c + 0)) else ((f_X5_in y (nI 2) (nI 4)).bind fun v5 => if v5 = nI 0 then (some (-2 : Int32)) else ((f_X5_ofCensor (nI c) (y - (nI 1))).bind fun v8 => cz_gd (cz_ib v8 551) (some (M.1 (b + 461 + 1) (Int32.toNatClampNeg v8))))) := by
      rw [f_X5_censor, m_inN (by omega) (by decide) (by decide), if_pos (by omega), Option.bind_some, if_neg (by decide), m_shiftsOf hv1, m_ofCensor, Option.bind_some, Option.bind_some, cz_gdn (by omega) (by decide), cz_cl (by omega), hv1]
    rw [hx4, hx5]
    by_cases y0 : y = nI 0
    · subst y0
      exact ⟨_, by rw [if_pos rfl], by rw [if_neg (by decide), if_pos rfl]⟩
    · by_cases y1 : y = nI 1
      · subst y1
        exact ⟨_, by rw [if_neg (by decide), if_pos rfl], by rw [if_pos rfl]⟩
      · rw [if_neg y0, if_neg y1, if_neg y1, if_neg y0]
        rcases cz_rng y 5 (by decide) with ⟨k, hk, rfl⟩ | h | h
        · have h2 : 2 ≤ k := by
            rcases (show k = 0 ∨ k = 1 ∨ 2 ≤ k by omega) with rfl | rfl | h
            · exact absurd rfl y0
            · exact absurd rfl y1
            · exact h
          have hz : ((f_X5_in (nI k) (nI 2) (nI 4)).bind fun v5 => if v5 = nI 0 then (some (-2 : Int32)) else ((f_X5_ofCensor (nI c) (nI k - (nI 1))).bind fun v8 => cz_gd (cz_ib v8 551) (some (M.1 (b + 461 + 1) (Int32.toNatClampNeg v8))))) = some (s (13 + 4 * c + (k - 1))) := by
            rw [m_inN (by omega) (by decide) (by decide), if_pos (show 2 ≤ k ∧ k ≤ 4 by omega), Option.bind_some, if_neg (by decide), cz_subN (by omega), m_ofCensor, Option.bind_some, cz_gdn (by omega) (by decide), cz_cl (by omega), hv1]
          rw [hz]
          rcases (show k = 2 ∨ k = 3 ∨ k = 4 by omega) with rfl | rfl | rfl
          · exact ⟨_, by rw [if_pos rfl], rfl⟩
          · exact ⟨_, by rw [if_neg (by decide), if_pos rfl], rfl⟩
          · exact ⟨_, by rw [if_neg (by decide), if_neg (by decide), if_pos rfl], rfl⟩
        · have hne : ∀ j, j < 5 → y ≠ nI j := fun j hj z => by rw [z] at h; exact absurd h (nI_pos (by omega))
          refine ⟨(-2 : Int32), by rw [if_neg (hne 2 (by decide)), if_neg (hne 3 (by decide)), if_neg (hne 4 (by decide))], ?_⟩
          rw [m_in, if_pos, Option.bind_some, if_pos rfl]
          rw [Int32.lt_iff_toInt_lt] at h ⊢
          have e2 : (nI 2).toInt = 2 := by decide
          have e0 : (0 : Int32).toInt = 0 := by decide
          omega
        · have hne : ∀ j, j < 5 → y ≠ nI j := fun j hj z => by rw [z] at h; exact absurd h (nI_ge hj (by omega))
          refine ⟨(-2 : Int32), by rw [if_neg (hne 2 (by decide)), if_neg (hne 3 (by decide)), if_neg (hne 4 (by decide))], ?_⟩
          have e2 : (nI 2).toInt = 2 := by decide
          have e4 : (nI 4).toInt = 4 := by decide
          have e5 : (nI 5).toInt = 5 := by decide
          rw [Int32.le_iff_toInt_le] at h
          rw [m_in, if_neg (by rw [Int32.lt_iff_toInt_lt]; omega), if_pos (by rw [Int32.lt_iff_toInt_lt]; omega), Option.bind_some, if_pos rfl]
  · exact ⟨_, by rw [f_X4_censor, if_pos (by rw [cz_l0] at h; exact h)], by rw [f_X5_censor, m_in_out (by decide) (Or.inl h), Option.bind_some, if_pos rfl]⟩
  · have h2 := cz_lt_of_ge (by decide) h
    exact ⟨_, by rw [f_X4_censor, if_neg h2.1, if_neg h2.2], by rw [f_X5_censor, m_in_out (by decide) (Or.inr h), Option.bind_some, if_pos rfl]⟩
theorem o_onShift (M : cz_M) (b : Nat) (x y : Int32) (iv : cz_iv b M) : ∃ v, f_X4_onShift M b x y = some v ∧ f_X5_onShift M (b + 461) x y = some v := by
  obtain ⟨now, hist, pc, slot, used, pad, len, wf, cv, rv⟩ := id iv
  obtain ⟨s, n, W, R⟩ := now
  have hv1 : M.1 (b + 461 + 1) = s := rv.1
  have hros : ∀ k, k < 8 → M.1 (b + 1 + 3) k = s (5 + k) := cv.1.2.2.1
  have ok : cz_ok s n W R := wf.1.1
  rcases cz_in1 (x := y) with ⟨r, hr, rfl, hin⟩ | ⟨hx, hin⟩
  · have h4 : f_X4_onShift M b x (nI r) = if x < nI 0 then some (-2 : Int32) else if x ≤ nI 9999 then ((f_X2_censorNumber M (b + 1) x (nI r)).bind fun v6 => some v6) else some (-2 : Int32) := by
      rw [f_X4_onShift, if_neg (nI_nlt (Nat.zero_le _) (by omega)), if_pos (nI_lt hr (by decide))]
    rw [h4]
    by_cases h1 : x < nI 0
    · exact ⟨_, by rw [if_pos h1], by rw [f_X5_onShift, hin, Option.bind_some, if_neg (by decide), m_in, if_pos h1, Option.bind_some, if_pos rfl]⟩
    · rw [if_neg h1]
      by_cases h2 : nI 9999 < x
      · exact ⟨_, by rw [if_neg (cz_lt_not h2)], by rw [f_X5_onShift, hin, Option.bind_some, if_neg (by decide), m_in, if_neg h1, if_pos h2, Option.bind_some, if_pos rfl]⟩
      · rw [if_pos (cz_not_lt h2)]
        obtain ⟨w, hw1, hw2, rfl⟩ := cz_btw (by decide) h1 h2 (by decide)
        have h4 : w % 4 < 4 := Nat.mod_lt _ (by decide)
        obtain ⟨c, hc, hce⟩ := ok.1.2.2.1 (2 * (w % 4) + r) (by omega)
        refine ⟨nI c, by rw [c_censorNumber M (b + 1) hr (by omega) ((hros _ (by omega)).trans hce)]; rfl, ?_⟩
        rw [f_X5_onShift, hin, Option.bind_some, if_neg (by decide), m_inN (by omega) (by decide) (by decide), if_pos (by omega), Option.bind_some, if_neg (by decide), pk_rem (by omega) (by decide) (by decide), pk_mul, nI_add, nI_add, cz_gdn (by omega) (by decide), cz_cl (by omega), hv1, Nat.add_assoc, hce]
  · refine ⟨(-1 : Int32), ?_, by rw [f_X5_onShift, hin, Option.bind_some, if_pos rfl]⟩
    rw [f_X4_onShift]
    rcases hx with hx | ⟨hx, hx2⟩
    · rw [if_pos hx]
    · rw [if_neg hx, if_neg hx2]
