theorem m_of0 (M : cz_M) (a : Nat) {i : Nat} (hi : i < 40) : f_X5_of M a (nI i) (nI 0) = some (M.1 (a + 1) (111 + 11 * i)) := m_of M a hi (by decide)
theorem cz_mI_s (M : cz_M) (a k : Nat) (v : Int32) : (cz_mI M a k v).1 a = upd (M.1 a) k v := by
  funext j
  rw [cz_mI_1]
  by_cases h : j = k
  · subst h; rw [if_pos ⟨rfl, rfl⟩, pk_us]
  · rw [if_neg (fun q => h q.2), pk_un h]
theorem cz_mI_o {M : cz_M} {a k x : Nat} {v : Int32} (h : x ≠ a) : (cz_mI M a k v).1 x = M.1 x := by
  funext j
  rw [cz_mI_1, if_neg (fun q => h q.1)]
/-- what reading the letter i does, if the censor c strikes the words m in it -/
def cz_rd (s : Nat → Int32) (c i m : Nat) : Nat → Int32 :=
  if upd s (13 + 4 * c + 1) (s (13 + 4 * c + 1) + nI 1) 1 < nI (cz_pc m) then
    upd (upd (upd (upd s (13 + 4 * c + 1) (s (13 + 4 * c + 1) + nI 1)) (111 + 11 * i + 6) (s (111 + 11 * i + 6) + nI 1)) (13 + 4 * c + 3) (s (13 + 4 * c + 3) + nI 1)) (111 + 11 * i + 2) (if s (111 + 11 * i + 6) + nI 1 < s 2 then nI 0 else nI 2)
  else
    upd (upd (upd (upd (upd s (13 + 4 * c + 1) (s (13 + 4 * c + 1) + nI 1)) (111 + 11 * i + 2) (nI 3)) (111 + 11 * i + 5) (nI m)) (111 + 11 * i + 7) (nI c)) (13 + 4 * c + 2) (s (13 + 4 * c + 2) + nI (cz_pc m))
set_option maxHeartbeats 2000000 in
theorem m_reads (M : cz_M) (a : Nat) {c i m : Nat} (hc : c < 4) (hi : i < 40) (hm : m < 256) (hst : f_X5_strikes M a (nI c) (nI i) = some (nI m)) : ∃ M', f_X5_reads M a (nI c) (nI i) = some M' ∧ M'.1 (a + 1) = cz_rd (M.1 (a + 1)) c i m ∧ M'.1 (a + 8) = upd (M.1 (a + 8)) i (nI 1) ∧ cz_fr (fun x => x = a + 1 ∨ x = a + 8) M M' := by
  rw [f_X5_reads, hst, Option.bind_some, cz_gdn hi (by decide), cz_zb1, cz_lt_e, m_ofCensor, Option.bind_some, cz_gdn (by omega) (by decide), cz_gdn (by omega) (by decide), cz_lt_e, m_bits8 m hm, Option.bind_some, cz_gdn (by decide) (by decide)]
  simp (disch := omega) only [cz_cl, cz_mI_s, cz_mI_o]
  unfold cz_rd
  by_cases h : upd (M.1 (a + 1)) (13 + 4 * c + 1) (M.1 (a + 1) (13 + 4 * c + 1) + nI 1) 1 < nI (cz_pc m)
  · rw [if_pos h, if_pos h, m_at, Option.bind_some, cz_gdn (by omega) (by decide), cz_gdn (by omega) (by decide), cz_lt_e, m_ofCensor, Option.bind_some, cz_gdn (by omega) (by decide), cz_gdn (by omega) (by decide), cz_lt_e, m_at, Option.bind_some, m_of _ _ hi (by decide), Option.bind_some, cz_gdn (by decide) (by decide)]
    simp (disch := omega) only [cz_cl, cz_mI_s, cz_mI_o, pk_us, pk_un, cz_lt_e, cz_gdn]
    by_cases h2 : M.1 (a + 1) (111 + 11 * i + 6) + nI 1 < M.1 (a + 1) 2
    · rw [if_pos h2, if_pos h2]
      refine ⟨_, rfl, ?_, ?_, ?_⟩
      · simp (disch := omega) only [cz_mI_s, cz_mI_o]
      · simp (disch := omega) only [cz_mI_s, cz_mI_o]
      · exact (((cz_fr.mI (Or.inr rfl)).tr (cz_fr.mI (Or.inl rfl))).tr (cz_fr.mI (Or.inl rfl))).tr ((cz_fr.mI (Or.inl rfl)).tr (cz_fr.mI (Or.inl rfl)))
    · rw [if_neg h2, if_neg h2]
      refine ⟨_, rfl, ?_, ?_, ?_⟩
      · simp (disch := omega) only [cz_mI_s, cz_mI_o]
      · simp (disch := omega) only [cz_mI_s, cz_mI_o]
      · exact (((cz_fr.mI (Or.inr rfl)).tr (cz_fr.mI (Or.inl rfl))).tr (cz_fr.mI (Or.inl rfl))).tr ((cz_fr.mI (Or.inl rfl)).tr (cz_fr.mI (Or.inl rfl)))
  · rw [if_neg h, if_neg h, m_at, Option.bind_some, cz_gdn (by omega) (by decide), cz_lt_e, m_at, Option.bind_some, cz_gdn (by omega) (by decide), cz_lt_e, m_at, Option.bind_some, cz_gdn (by omega) (by decide), cz_lt_e, m_ofCensor, Option.bind_some, cz_gdn (by omega) (by decide), Option.bind_some, cz_gdn (by omega) (by decide)]
    simp (disch := omega) only [cz_cl, cz_mI_s, cz_mI_o, pk_us, pk_un, cz_lt_e]
    refine ⟨_, rfl, ?_, ?_, ?_⟩
    · simp (disch := omega) only [cz_mI_s, cz_mI_o]
    · simp (disch := omega) only [cz_mI_s, cz_mI_o]
    · exact (((cz_fr.mI (Or.inr rfl)).tr (cz_fr.mI (Or.inl rfl))).tr (cz_fr.mI (Or.inl rfl))).tr (((cz_fr.mI (Or.inl rfl)).tr (cz_fr.mI (Or.inl rfl))).tr (cz_fr.mI (Or.inl rfl)))
/-- barred: one ahead in the thread was waiting -/
abbrev cz_bar (s w : Nat → Int32) (i : Nat) : Prop := ∃ j, j < i ∧ s (111 + 11 * j) = s (111 + 11 * i) ∧ w j = nI 1
theorem m_isBarred (M : cz_M) (a : Nat) {i : Nat} (hi : i < 40) (hw : ∀ j, j < i → M.1 (a + 7) j = nI 0 ∨ M.1 (a + 7) j = nI 1) : (cz_bar (M.1 (a + 1)) (M.1 (a + 7)) i ∧ f_X5_isBarred M a (nI i) = some (nI 1)) ∨ (¬ cz_bar (M.1 (a + 1)) (M.1 (a + 7)) i ∧ f_X5_isBarred M a (nI i) = some (nI 0)) := by
  have h10 : nI 1 ≠ nI 0 := by decide
  rw [f_X5_isBarred]
  obtain ⟨s', hI, h⟩ := cz_for2b (F := f_X5_isBarred_L4 a (nI i) M (fun x16 x17 => cz_gd (cz_zb x16) (some x16))) (fun k (s : Int32) => (s = nI 1 ∧ ∃ j, j < k ∧ M.1 (a + 1) (111 + 11 * j) = M.1 (a + 1) (111 + 11 * i) ∧ M.1 (a + 7) j = nI 1) ∨ (s = nI 0 ∧ ¬ ∃ j, j < k ∧ M.1 (a + 1) (111 + 11 * j) = M.1 (a + 1) (111 + 11 * i) ∧ M.1 (a + 7) j = nI 1)) (fun s => cz_gd (cz_zb s) (some s)) i
    (fun k s hk hI => by
      rcases hI with ⟨rfl, j, hj, hj2⟩ | ⟨rfl, hno⟩
      · refine ⟨nI 1, fun rec => ?_, Or.inl ⟨rfl, j, by omega, hj2⟩⟩
        rw [f_X5_isBarred_L4, if_neg (nI_ge hk (by omega)), if_neg h10, cz_lt_e, nI_add]
      · by_cases ht : M.1 (a + 1) (111 + 11 * k) = M.1 (a + 1) (111 + 11 * i)
        · rcases hw k hk with hwk | hwk
          · refine ⟨nI 0, fun rec => ?_, Or.inr ⟨rfl, fun ⟨j, hj, hj1, hj2⟩ => ?_⟩⟩
            · rw [f_X5_isBarred_L4, if_neg (nI_ge hk (by omega)), if_pos rfl, m_of0 M a (show k < 40 by omega), Option.bind_some, m_of0 M a hi, Option.bind_some, if_pos ht, cz_gdn (by omega) (by decide), cz_cl (by omega), if_pos hwk, cz_lt_e, nI_add]
            · by_cases hjk : j = k
              · subst hjk; rw [hwk] at hj2; exact h10 hj2.symm
              · exact hno ⟨j, by omega, hj1, hj2⟩
          · refine ⟨nI 1, fun rec => ?_, Or.inl ⟨rfl, k, by omega, ht, hwk⟩⟩
            rw [f_X5_isBarred_L4, if_neg (nI_ge hk (by omega)), if_pos rfl, m_of0 M a (show k < 40 by omega), Option.bind_some, m_of0 M a hi, Option.bind_some, if_pos ht, cz_gdn (by omega) (by decide), cz_cl (by omega), if_neg (by rw [hwk]; exact h10), cz_lt_e, nI_add]
        · refine ⟨nI 0, fun rec => ?_, Or.inr ⟨rfl, fun ⟨j, hj, hj1, hj2⟩ => ?_⟩⟩
          · rw [f_X5_isBarred_L4, if_neg (nI_ge hk (by omega)), if_pos rfl, m_of0 M a (show k < 40 by omega), Option.bind_some, m_of0 M a hi, Option.bind_some, if_neg ht, cz_lt_e, nI_add]
          · by_cases hjk : j = k
            · subst hjk; exact ht hj1
            · exact hno ⟨j, by omega, hj1, hj2⟩)
    (fun s hI rec => by rw [f_X5_isBarred_L4, if_pos (nI_le (Nat.le_refl _) (by omega))]) i 0 (nI 0) 4096 (by omega) (by omega) (Or.inr ⟨rfl, fun ⟨j, hj, _⟩ => by omega⟩)
  rw [h]
  rcases hI with ⟨rfl, hy⟩ | ⟨rfl, hn⟩
  · exact Or.inl ⟨hy, rfl⟩
  · exact Or.inr ⟨hn, rfl⟩
