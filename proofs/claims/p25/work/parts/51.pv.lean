/-! places, and the letter ahead -/
theorem c_placeOf_in {M : cz_M} {q : Nat} {L : List Nat} (rr : cz_rr M q L) (hL : L.length ≤ 40) (hi : ∀ i ∈ L, i < 40) (hnd : L.Nodup) {k : Nat} (hk : k < L.length) : f_X3_placeOf M q (nI L[k]) = some (nI k) := by
  rw [f_X3_placeOf]
  have key : ∀ (d j fuel : Nat), j + d = k → d < fuel → cz_it1 (f_X3_placeOf_L2 q (nI L[k]) M (fun x6 => some (-6 : Int32))) fuel (nI j) = some (nI k) := by
    intro d
    induction d with
    | zero =>
      intro j fuel hj hf
      obtain rfl : j = k := by omega
      obtain ⟨g, rfl⟩ : ∃ g, fuel = g + 1 := ⟨fuel - 1, by omega⟩
      show f_X3_placeOf_L2 q (nI L[j]) M (fun x6 => some (-6 : Int32)) (cz_it1 (f_X3_placeOf_L2 q (nI L[j]) M (fun x6 => some (-6 : Int32))) g) (nI j) = _
      rw [f_X3_placeOf_L2, rr.1, if_neg (nI_ge hk (by omega)), cz_gdn (by omega) (by decide), cz_cl (by omega), rr.2 j hk, if_pos rfl]
    | succ d ih =>
      intro j fuel hj hf
      obtain ⟨g, rfl⟩ : ∃ g, fuel = g + 1 := ⟨fuel - 1, by omega⟩
      have hjl : j < L.length := by omega
      have hj40 := hi _ (List.getElem_mem hjl)
      have hk40 := hi _ (List.getElem_mem hk)
      have hne : ¬ nI L[j] = nI L[k] := fun z => by
        have := cz_nd hnd hjl hk (cz_nI_inj (by omega) (by omega) z)
        omega
      show f_X3_placeOf_L2 q (nI L[k]) M (fun x6 => some (-6 : Int32)) (cz_it1 (f_X3_placeOf_L2 q (nI L[k]) M (fun x6 => some (-6 : Int32))) g) (nI j) = _
      rw [f_X3_placeOf_L2, rr.1, if_neg (nI_ge hjl (by omega)), cz_gdn (by omega) (by decide), cz_cl (by omega), rr.2 j hjl, if_neg hne, cz_lt_e, nI_add]
      exact ih (j + 1) g (by omega) (by omega)
  exact key k 0 4096 (by omega) (by omega)
theorem c_placeOf_out {M : cz_M} {q i : Nat} {L : List Nat} (rr : cz_rr M q L) (hL : L.length ≤ 40) (hi : ∀ i ∈ L, i < 40) (hi40 : i < 40) (hno : i ∉ L) : f_X3_placeOf M q (nI i) = some (-6 : Int32) := by
  rw [f_X3_placeOf]
  have key : ∀ (d j fuel : Nat), j + d = L.length → d < fuel → cz_it1 (f_X3_placeOf_L2 q (nI i) M (fun x6 => some (-6 : Int32))) fuel (nI j) = some (-6 : Int32) := by
    intro d
    induction d with
    | zero =>
      intro j fuel hj hf
      obtain rfl : j = L.length := by omega
      obtain ⟨g, rfl⟩ : ∃ g, fuel = g + 1 := ⟨fuel - 1, by omega⟩
      show f_X3_placeOf_L2 q (nI i) M (fun x6 => some (-6 : Int32)) (cz_it1 (f_X3_placeOf_L2 q (nI i) M (fun x6 => some (-6 : Int32))) g) (nI L.length) = _
      rw [f_X3_placeOf_L2, rr.1, if_pos (nI_le (Nat.le_refl _) (by omega))]
    | succ d ih =>
      intro j fuel hj hf
      obtain ⟨g, rfl⟩ : ∃ g, fuel = g + 1 := ⟨fuel - 1, by omega⟩
      have hjl : j < L.length := by omega
      have hj40 := hi _ (List.getElem_mem hjl)
      have hne : ¬ nI L[j] = nI i := fun z => hno (by rw [← cz_nI_inj (by omega) (by omega) z]; exact List.getElem_mem hjl)
      show f_X3_placeOf_L2 q (nI i) M (fun x6 => some (-6 : Int32)) (cz_it1 (f_X3_placeOf_L2 q (nI i) M (fun x6 => some (-6 : Int32))) g) (nI j) = _
      rw [f_X3_placeOf_L2, rr.1, if_neg (nI_ge hjl (by omega)), cz_gdn (by omega) (by decide), cz_cl (by omega), rr.2 j hjl, if_neg hne, cz_lt_e, nI_add]
      exact ih (j + 1) g (by omega) (by omega)
  exact key L.length 0 4096 (by omega) (by omega)
def cz_ah (s : Nat → Int32) (i : Nat) : Nat → Int32
  | 0 => (-6 : Int32)
  | j + 1 => if s (111 + 11 * j) = s (111 + 11 * i) then nI j else cz_ah s i j
theorem c_aheadOf {M : cz_M} {p i n : Nat} {s : Nat → Int32} (hn : n ≤ 40) (hi : i < n) (ht : ∀ j, j < n → M.1 (p + 4 + (9 + j)) 0 = s (111 + 11 * j)) : f_X2_aheadOf M p (nI i) = some (cz_ah s i i) := by
  rw [f_X2_aheadOf, cz_lt_e]
  have key : ∀ (j fuel : Nat), j ≤ i → j < fuel → cz_it1 (f_X2_aheadOf_L4 p (nI i) M (fun x10 => some (-6 : Int32))) fuel (nI j - nI 1) = some (cz_ah s i j) := by
    intro j
    induction j with
    | zero =>
      intro fuel hj hf
      obtain ⟨g, rfl⟩ : ∃ g, fuel = g + 1 := ⟨fuel - 1, by omega⟩
      show f_X2_aheadOf_L4 p (nI i) M (fun x10 => some (-6 : Int32)) (cz_it1 (f_X2_aheadOf_L4 p (nI i) M (fun x10 => some (-6 : Int32))) g) (nI 0 - nI 1) = _
      rw [f_X2_aheadOf_L4, if_pos (by decide)]
      rfl
    | succ j ih =>
      intro fuel hj hf
      obtain ⟨g, rfl⟩ : ∃ g, fuel = g + 1 := ⟨fuel - 1, by omega⟩
      rw [cz_subN (by omega), Nat.add_sub_cancel]
      show f_X2_aheadOf_L4 p (nI i) M (fun x10 => some (-6 : Int32)) (cz_it1 (f_X2_aheadOf_L4 p (nI i) M (fun x10 => some (-6 : Int32))) g) (nI j) = _
      rw [f_X2_aheadOf_L4, if_neg (nI_nlt (Nat.zero_le _) (by omega)), cz_gdn (by omega) (by decide), cz_gdn (by omega) (by decide), cz_cl (by omega), cz_cl (by omega), ht j (by omega), ht i hi, cz_ah]
      by_cases he : s (111 + 11 * j) = s (111 + 11 * i)
      · rw [if_pos he, if_pos he]
      · rw [if_neg he, if_neg he, cz_lt_e]
        have e : nI j + (-1 : Int32) = nI j - nI 1 := by
          rw [Int32.sub_eq_add_neg]
          rfl
        rw [e]
        exact ih g (by omega) (by omega)
  exact key i 4096 (Nat.le_refl _) (by omega)
