/-! places, and the letter ahead -/
theorem c_placeOf_in {M : cz_M} {q : Nat} {L : List Nat} (rr : cz_rr M q L) (hL : L.length ≤ 40) (hi : ∀ i ∈ L, i < 40) (hnd : L.Nodup) {k : Nat} (hk : k < L.length) : f_X3_placeOf M q (nI L[k]) = some (nI k) := by
  rw [f_X3_placeOf]
  have key : ∀ (d j fuel : Nat), j + d = k → d < fuel → cz_it1 (f_X3_placeOf_L2 q (nI L[k]) M (fun x6 => some (-6 : Int32))) fuel (nI j) = some (nI k) := by
    intro d
    induction d with
    | zero =>
      intro j fuel hj hf
      obtain rfl : j = k := by omega
      obtain ⟨g, rfl⟩ : ∃ g, fuel = g + 1 := ⟨fuel - 1, by omega⟩
      show f_X3_placeOf_L2 q (nI L[j]) M (fun x6 => some (-6 : Int32)) (cz_it1 (f_X3_placeOf_L2 q (nI L[j]) M (fun x6 => some (-6 : Int32))) g) (nI j) = _
      rw [f_X3_placeOf_L2, rr.1, if_neg (nI_ge hk (by omega)), cz_gdn (by omega) (by decide), cz_cl (by omega), rr.2 j hk, if_pos rfl]
    | succ d ih =>
      intro j fuel hj hf
      obtain ⟨g, rfl⟩ : ∃ g, fuel = g + 1 := ⟨fuel - 1, by omega⟩
      have hjl : j < L.length := by omega
      have hj40 := hi _ (List.getElem_mem hjl)
      have hk40 := hi _ (List.getElem_mem hk)
      have hne : ¬ nI L[j] = nI L[k] := fun z => by
        have := cz_nd hnd hjl hk (cz_nI_inj (by omega) (by omega) z)
        omega
      show f_X3_placeOf_L2 q (nI L[k]) M (fun x6 => some (-6 : Int32)) (cz_it1 (f_X3_placeOf_L2 q (nI L[k]) M (fun x6 => some (-6 : Int32))) g) (nI j) = _
      rw [f_X3_placeOf_L2, rr.1, if_neg (nI_ge hjl (by omega)), cz_gdn (by omega) (by decide), cz_cl (by omega), rr.2 j hjl, if_neg hne, cz_lt_e, nI_add]
      exact ih (j + 1) g (by omega) (by omega)
  exact key k 0 4096 (by omega) (by omega)
theorem c_placeOf_out {M : cz_M} {q i : Nat} {L : List Nat} (rr : cz_rr M q L) (hL : L.length ≤ 40) (hi : ∀ i ∈ L, i < 40) (hi40 : i < 40) (hno : i ∉ L) : f_X3_placeOf M q (nI i) = some (-6 : Int32) := by
  rw [f_X3_placeOf]
  have key : ∀ (d j fuel : Nat), j + d = L.length → d < fuel → cz_it1 (f_X3_placeOf_L2 q (nI i) M (fun x6 => some (-6 : Int32))) fuel (nI j) = some (-6 : Int32) := by
    intro d
    induction d with
    | zero =>
      intro j fuel hj hf
      obtain rfl : j = L.length := by omega
      obtain ⟨g, rfl⟩ : ∃ g, fuel = g + 1 := ⟨fuel - 1, by omega⟩
      show f_X3_placeOf_L2 q (nI i) M (fun x6 => some (-6 : Int32)) (cz_it1 (f_X3_placeOf_L2 q (nI i) M (fun x6 => some (-6 : Int32))) g) (nI L.length) = _
      rw [f_X3_placeOf_L2, rr.1, if_pos (nI_le (Nat.le_refl _) (by omega))]
    | succ d ih =>
      intro j fuel hj hf
      obtain ⟨g, rfl⟩ : ∃ g, fuel = g + 1 := ⟨fuel - 1, by omega⟩
      have hjl : j < L.length := by omega
      have hj40 := hi _ (List.getElem_mem hjl)
      have hne : ¬ nI L[j] = nI i := fun z => hno (by rw [← cz_nI_inj (by omega) (by omega) z]; exact List.getElem_mem hjl)
      show f_X3_placeOf_L2 q (nI i) M (fun x6 => some (-6 : Int32)) (cz_it1 (f_X3_placeOf_L2 q (nI i) M (fun x6 => some (-6 : Int32))) g) (nI j) = _
      rw [f_X3_placeOf_L2, rr.1, if_neg (nI_ge hjl (by omega)), cz_gdn (by omega) (by decide), cz_cl (by omega), rr.2 j hjl, if_neg hne, cz_lt_e, nI_add]
      exact ih (j + 1) g (by omega) (by omega)
  exact key L.length 0 4096 (by omega) (by omega)
theorem m_placeOf_in {M : cz_M} {a n r : Nat} {s : Nat → Int32} {L : List Nat} (hs : M.1 (a + 1) = s) (hn : n ≤ 40) (hr : r < 2) (ro : cz_ro s n r L) {k : Nat} (hk : k < L.length) : f_X5_placeOf M a (nI L[k]) = some (nI k) := by
  obtain ⟨l1, l2, l3, l4, l5⟩ := ro
  have h5 := l5 _ (List.getElem_mem hk)
  rw [f_X5_placeOf, m_of M a (by omega) (by decide), Option.bind_some, hs, h5.2.1]
  obtain ⟨x, hI, h⟩ := cz_for2b (F := f_X5_placeOf_L13 a (nI L[k]) (nI r) M (fun x13 x14 => some x13)) (fun j (x : Int32) => x = if k < j then nI k else (-6 : Int32)) (fun x => some x) L.length
    (fun j x hj hI => by
      have hj5 := l5 _ (List.getElem_mem hj)
      have hst : ∀ rec, f_X5_placeOf_L13 a (nI L[k]) (nI r) M (fun x13 x14 => some x13) rec x (nI j) = if nI L[j] = nI L[k] then rec (nI j) (nI (j + 1)) else rec x (nI (j + 1)) := fun rec => by
        rw [f_X5_placeOf_L13, nI_add, cz_gdn (by omega) (by decide), cz_cl (by omega), hs, l1, if_neg (nI_ge hj (by omega)), m_of M a (by omega) (by decide), Option.bind_some, hs, h5.2.2, if_pos rfl, m_inRow, Option.bind_some, cz_gdn (by omega) (by decide), cz_cl (by omega), l3 j hj]
        simp only [cz_lt_e, nI_add]
      by_cases hjk : j = k
      · subst hjk
        exact ⟨nI j, fun rec => by rw [hst, if_pos rfl], by rw [if_pos (by omega)]⟩
      · refine ⟨x, fun rec => by rw [hst, if_neg (fun z => hjk (cz_nd l4 hj hk (cz_nI_inj (by omega) (by omega) z)))], ?_⟩
        rw [hI]
        by_cases h1 : k < j
        · rw [if_pos h1, if_pos (by omega)]
        · rw [if_neg h1, if_neg (by omega)])
    (fun x hI rec => by rw [f_X5_placeOf_L13, nI_add, cz_gdn (by omega) (by decide), cz_cl (by omega), hs, l1, if_pos (nI_le (Nat.le_refl _) (by omega))]) L.length 0 (-6 : Int32) 4096 (by omega) (by omega) (by rw [if_neg (by omega)])
  rw [h, hI, if_pos hk]
theorem m_placeOf_out {M : cz_M} {a i r : Nat} {s : Nat → Int32} (hs : M.1 (a + 1) = s) (hi : i < 40) (hr : r < 2) (h1 : s (111 + 11 * i + 1) = nI r) (h2 : ¬ s (111 + 11 * i + 2) = nI 0) : f_X5_placeOf M a (nI i) = some (-6 : Int32) := by
  rw [f_X5_placeOf, m_of M a hi (by decide), Option.bind_some, hs, h1]
  show f_X5_placeOf_L13 a (nI i) (nI r) M (fun x13 x14 => some x13) (cz_it2 (f_X5_placeOf_L13 a (nI i) (nI r) M (fun x13 x14 => some x13)) 4095) (-6 : Int32) (nI 0) = _
  rw [f_X5_placeOf_L13, nI_add, cz_gdn (by omega) (by decide), m_of M a hi (by decide), Option.bind_some, hs, if_neg h2]
  split <;> rfl
def cz_ah (s : Nat → Int32) (i : Nat) : Nat → Int32
  | 0 => (-6 : Int32)
  | j + 1 => if s (111 + 11 * j) = s (111 + 11 * i) then nI j else cz_ah s i j
theorem m_aheadOf {M : cz_M} {a i : Nat} {s : Nat → Int32} (hs : M.1 (a + 1) = s) (hi : i < 40) : f_X5_aheadOf M a (nI i) = some (cz_ah s i i) := by
  rw [f_X5_aheadOf]
  obtain ⟨x, hI, h⟩ := cz_for2b (F := f_X5_aheadOf_L5 a (nI i) M (fun x9 x10 => some x9)) (fun j (x : Int32) => x = cz_ah s i j) (fun x => some x) i
    (fun j x hj hI => by
      subst hI
      refine ⟨cz_ah s i (j + 1), fun rec => ?_, rfl⟩
      rw [f_X5_aheadOf_L5, if_neg (nI_ge hj (by omega)), m_of0 M a (by omega), Option.bind_some, m_of0 M a hi, Option.bind_some, hs, cz_ah]
      simp only [cz_lt_e, nI_add]
      split
      · rfl
      · rfl)
    (fun x hI rec => by rw [f_X5_aheadOf_L5, if_pos (nI_le (Nat.le_refl _) (by omega))]) i 0 (-6 : Int32) 4096 (by omega) (by omega) rfl
  rw [h, hI]
theorem c_aheadOf {M : cz_M} {p i n : Nat} {s : Nat → Int32} (hn : n ≤ 40) (hi : i < n) (ht : ∀ j, j < n → M.1 (p + 4 + (9 + j)) 0 = s (111 + 11 * j)) : f_X2_aheadOf M p (nI i) = some (cz_ah s i i) := by
  rw [f_X2_aheadOf, cz_lt_e]
  have key : ∀ (j fuel : Nat), j ≤ i → j < fuel → cz_it1 (f_X2_aheadOf_L4 p (nI i) M (fun x10 => some (-6 : Int32))) fuel (nI j - nI 1) = some (cz_ah s i j) := by
    intro j
    induction j with
    | zero =>
      intro fuel hj hf
      obtain ⟨g, rfl⟩ : ∃ g, fuel = g + 1 := ⟨fuel - 1, by omega⟩
      show f_X2_aheadOf_L4 p (nI i) M (fun x10 => some (-6 : Int32)) (cz_it1 (f_X2_aheadOf_L4 p (nI i) M (fun x10 => some (-6 : Int32))) g) (nI 0 - nI 1) = _
      rw [f_X2_aheadOf_L4, if_pos (by decide)]
      rfl
    | succ j ih =>
      intro fuel hj hf
      obtain ⟨g, rfl⟩ : ∃ g, fuel = g + 1 := ⟨fuel - 1, by omega⟩
      rw [cz_subN (by omega), Nat.add_sub_cancel]
      show f_X2_aheadOf_L4 p (nI i) M (fun x10 => some (-6 : Int32)) (cz_it1 (f_X2_aheadOf_L4 p (nI i) M (fun x10 => some (-6 : Int32))) g) (nI j) = _
      rw [f_X2_aheadOf_L4, if_neg (nI_nlt (Nat.zero_le _) (by omega)), cz_gdn (by omega) (by decide), cz_gdn (by omega) (by decide), cz_cl (by omega), cz_cl (by omega), ht j (by omega), ht i hi, cz_ah]
      by_cases he : s (111 + 11 * j) = s (111 + 11 * i)
      · rw [if_pos he, if_pos he]
      · rw [if_neg he, if_neg he, cz_lt_e]
        have e : nI j + (-1 : Int32) = nI j - nI 1 := by
          rw [Int32.sub_eq_add_neg]
          rfl
        rw [e]
        exact ih g (by omega) (by omega)
  exact key i 4096 (Nat.le_refl _) (by omega)
