/-! the fault, on both sides -/
/-- K letters stand from a place on, and no fault is there -/
def cz_vl (pad : Nat → Nat) (len : Nat) : Nat → Nat → Prop
  | 0, _ => False
  | K + 1, p => 3 ≤ cz_rt pad len p ∧ ((p + cz_rt pad len p = len ∧ K = 0) ∨ (p + cz_rt pad len p < len ∧ pad (p + cz_rt pad len p) = 44 ∧ cz_vl pad len K (p + cz_rt pad len p + 1)))
/-- the reference's memory, but for the count of letters -/
def cz_td (a : Nat) (M m : cz_M) : Prop := cz_fr (fun x => x = a) M m ∧ ∀ k, k ≠ 11 → m.1 a k = M.1 a k
theorem cz_td.tr {a : Nat} {M m n : cz_M} (h : cz_td a M m) (h2 : cz_td a m n) : cz_td a M n := ⟨h.1.tr h2.1, fun k hk => (h2.2 k hk).trans (h.2 k hk)⟩
theorem cz_td.mI {a : Nat} {M : cz_M} {v : Int32} : cz_td a M (cz_mI M a 11 v) := ⟨cz_fr.mI rfl, fun k hk => by rw [cz_mI_s, pk_un hk]⟩
theorem m_wrongL {a len : Nat} {pad : Nat → Nat} (hl : len ≤ 60) (hc : ∀ k, k < len → pad k < 128) :
    ∀ (d p t fuel : Nat) (m : cz_M), len - p ≤ d → p ≤ len → d + 2 < fuel → m.1 a 7 = nI len → (∀ k, k < len → m.1 (a + 6) k = nI (pad k)) → m.1 a 11 = nI t →
      ∃ m', cz_td a m m' ∧ cz_it3 (f_X5_wrong_L9 a (fun x26 x27 M28 => some ((-6 : Int32), M28))) fuel (nI p) (nI 1) m = some (cz_fp pad len (len - p) 0 p, m') ∧ ((∃ q, q ≤ len ∧ cz_fp pad len (len - p) 0 p = nI q) ∨ (cz_fp pad len (len - p) 0 p = (-6 : Int32) ∧ ∃ K, K ≤ len - p + 1 ∧ cz_vl pad len K p ∧ m'.1 a 11 = nI (t + K))) := by
  intro d
  induction d with
  | zero =>
    intro p t fuel m hd hp hf h7 hpad h11
    obtain rfl : p = len := by omega
    obtain ⟨g, rfl⟩ : ∃ g, fuel = g + 1 := ⟨fuel - 1, by omega⟩
    have hr : cz_rt pad p p = 0 := by
      unfold cz_rt cz_nx
      rw [if_neg (by rw [if_neg (by omega)]; omega)]
    have hfp := cz_fp_l (pad := pad) hp
    rw [hr, if_pos (by decide)] at hfp
    refine ⟨m, ⟨cz_fr.rf, fun k hk => rfl⟩, ?_, Or.inl ⟨p, Nat.le_refl _, hfp⟩⟩
    show f_X5_wrong_L9 a (fun x26 x27 M28 => some ((-6 : Int32), M28)) (cz_it3 (f_X5_wrong_L9 a (fun x26 x27 M28 => some ((-6 : Int32), M28))) g) (nI p) (nI 1) m = _
    rw [f_X5_wrong_L9, if_neg (by decide), m_right hl h7 hpad hc (by omega), Option.bind_some, hr, cz_lt_e, if_neg (by decide), nI_add, hfp]
  | succ d ih =>
    intro p t fuel m hd hp hf h7 hpad h11
    obtain ⟨g, rfl⟩ : ∃ g, fuel = g + 1 := ⟨fuel - 1, by omega⟩
    have hfp := cz_fp_l (pad := pad) hp
    have hle := cz_rt_le (pad := pad) hp
    have hr10 := cz_rt_10 pad len p
    have h10 : ¬ (nI 1 = nI 0) := by decide
    have hst : f_X5_wrong_L9 a (fun x26 x27 M28 => some ((-6 : Int32), M28)) (cz_it3 (f_X5_wrong_L9 a (fun x26 x27 M28 => some ((-6 : Int32), M28))) g) (nI p) (nI 1) m = if cz_rt pad len p < 3 then some (nI (p + cz_rt pad len p), m) else if p + cz_rt pad len p < len then (if pad (p + cz_rt pad len p) = 44 then cz_it3 (f_X5_wrong_L9 a (fun x26 x27 M28 => some ((-6 : Int32), M28))) g (nI (p + cz_rt pad len p + 1)) (nI 1) (cz_mI m a 11 (nI (t + 1))) else some (nI (p + cz_rt pad len p), cz_mI m a 11 (nI (t + 1)))) else cz_it3 (f_X5_wrong_L9 a (fun x26 x27 M28 => some ((-6 : Int32), M28))) g (nI (p + cz_rt pad len p)) (nI 0) (cz_mI m a 11 (nI (t + 1))) := by
      rw [f_X5_wrong_L9, if_neg h10, m_right hl h7 hpad hc (by omega), Option.bind_some, cz_lt_e, nI_add]
      by_cases h3 : cz_rt pad len p < 3
      · rw [if_neg (nI_ge h3 (by omega)), if_pos h3]
      · rw [if_pos (nI_le (by omega) (by omega)), if_neg h3, h11, nI_add, cz_lt_e]
        have k7 : (cz_mI m a 11 (nI (t + 1))).1 a 7 = nI len := by rw [cz_mI_s, pk_un (by decide), h7]
        rw [k7]
        by_cases hlt : p + cz_rt pad len p < len
        · have hpc := hc _ hlt
          rw [if_neg (nI_ge hlt (by omega)), if_pos hlt, if_neg h10, cz_gdn (by omega) (by decide), cz_cl (by omega), cz_mI_o (by omega), hpad _ hlt]
          by_cases h44 : pad (p + cz_rt pad len p) = 44
          · rw [if_pos (by rw [h44]), if_pos h44, if_neg h10, cz_lt_e, nI_add]
          · rw [if_neg (fun z => h44 (cz_nI_inj (by omega) (by omega) z)), if_neg h44]
        · rw [if_pos (nI_le (by omega) (by omega)), if_neg hlt, if_pos rfl, if_pos rfl, cz_lt_e, nI_add, Nat.add_zero]
    have htl : cz_td a m (cz_mI m a 11 (nI (t + 1))) := cz_td.mI
    show ∃ m', cz_td a m m' ∧ f_X5_wrong_L9 a (fun x26 x27 M28 => some ((-6 : Int32), M28)) (cz_it3 (f_X5_wrong_L9 a (fun x26 x27 M28 => some ((-6 : Int32), M28))) g) (nI p) (nI 1) m = _ ∧ _
    rw [hst, hfp]
    by_cases h3 : cz_rt pad len p < 3
    · rw [if_pos h3, if_pos h3]
      exact ⟨m, ⟨cz_fr.rf, fun k hk => rfl⟩, rfl, Or.inl ⟨_, hle, rfl⟩⟩
    · rw [if_neg h3, if_neg h3]
      by_cases hlt : p + cz_rt pad len p < len
      · rw [if_pos hlt, if_pos hlt]
        by_cases h44 : pad (p + cz_rt pad len p) = 44
        · rw [if_pos h44, if_pos h44]
          obtain ⟨m', a1, a2, a3⟩ := ih (p + cz_rt pad len p + 1) (t + 1) g (cz_mI m a 11 (nI (t + 1))) (by omega) (by omega) (by omega) (by rw [htl.2 7 (by decide), h7]) (fun k hk => by rw [(htl.1.1 _ (by omega)).1]; exact hpad k hk) (by rw [cz_mI_s, pk_us])
          refine ⟨m', htl.tr a1, a2, ?_⟩
          rcases a3 with h | ⟨h1, K, hK, h2, h3'⟩
          · exact Or.inl h
          · refine Or.inr ⟨h1, K + 1, by omega, ⟨by omega, Or.inr ⟨hlt, h44, h2⟩⟩, ?_⟩
            rw [h3']
            congr 1
            omega
        · rw [if_neg h44, if_neg h44]
          exact ⟨_, htl, rfl, Or.inl ⟨_, by omega, rfl⟩⟩
      · rw [if_neg hlt, if_neg hlt]
        obtain ⟨g', rfl⟩ : ∃ g', g = g' + 1 := ⟨g - 1, by omega⟩
        refine ⟨_, htl, ?_, Or.inr ⟨rfl, 1, by omega, ⟨by omega, Or.inl ⟨by omega, rfl⟩⟩, by rw [cz_mI_s, pk_us]⟩⟩
        show f_X5_wrong_L9 a (fun x26 x27 M28 => some ((-6 : Int32), M28)) (cz_it3 (f_X5_wrong_L9 a (fun x26 x27 M28 => some ((-6 : Int32), M28))) g') (nI (p + cz_rt pad len p)) (nI 0) (cz_mI m a 11 (nI (t + 1))) = _
        rw [f_X5_wrong_L9, if_pos rfl]
theorem m_wrong {M : cz_M} {a len : Nat} {pad : Nat → Nat} (hl : len ≤ 60) (hc : ∀ k, k < len → pad k < 128) (h7 : M.1 a 7 = nI len) (hpad : ∀ k, k < len → M.1 (a + 6) k = nI (pad k)) :
    ∃ m', cz_td a M m' ∧ f_X5_wrong M a = some (cz_fp pad len len 0 0, m') ∧ ((∃ q, q ≤ len ∧ cz_fp pad len len 0 0 = nI q) ∨ (cz_fp pad len len 0 0 = (-6 : Int32) ∧ ∃ K, K ≤ 61 ∧ cz_vl pad len K 0 ∧ m'.1 a 11 = nI K)) := by
  have htl : cz_td a M (cz_mI M a 11 (nI 0)) := cz_td.mI
  obtain ⟨m', a1, a2, a3⟩ := m_wrongL (a := a) hl hc len 0 0 4096 (cz_mI M a 11 (nI 0)) (by omega) (by omega) (by omega) (by rw [htl.2 7 (by decide), h7]) (fun k hk => by rw [(htl.1.1 _ (by omega)).1]; exact hpad k hk) (by rw [cz_mI_s, pk_us])
  rw [Nat.sub_zero] at a2 a3
  refine ⟨m', htl.tr a1, by rw [f_X5_wrong, cz_lt_e]; exact a2, ?_⟩
  rcases a3 with h | ⟨h1, K, hK, h2, h3⟩
  · exact Or.inl h
  · exact Or.inr ⟨h1, K, by omega, h2, by rw [h3, Nat.zero_add]⟩
