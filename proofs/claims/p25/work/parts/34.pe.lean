/-! rows of the class -/
theorem c_append {M : cz_M} {q i : Nat} {B : List Nat} (rr : cz_rr M q B) (hB : B.length < 40) : ∃ M', f_X3_append M q (nI i) = some M' ∧ cz_rr M' q (B ++ [i]) ∧ cz_fr (fun x => x = q ∨ x = q + 1) M M' := by
  rw [f_X3_append, rr.1, if_neg (nI_ge hB (by decide)), cz_gdn hB (by decide), cz_cl (by omega), cz_lt_e, cz_lt_e]
  refine ⟨_, rfl, ⟨?_, ?_⟩, (cz_fr.mI (Or.inr rfl)).tr (cz_fr.mI (Or.inl rfl))⟩
  · rw [cz_mI_s, pk_us, cz_mI_o (by omega), rr.1, nI_add, List.length_append, List.length_singleton]
  · rw [cz_mI_o (by omega), cz_mI_s]
    exact cz_ar_snoc rr.2 i
set_option maxHeartbeats 1000000 in
theorem c_appendIf {M : cz_M} {p q : Nat} {t1 t2 : Int32} {L B : List Nat} (hq : q + 1 < p + 6 ∨ p + 7 < q) (rr : cz_rr M q L) (hL : L.length ≤ 40) (hLi : ∀ i ∈ L, i < 40) (rb : cz_rr M (p + 6) B) (hB : (B ++ L.filter (fun i => decide (M.1 (p + 4 + (9 + i)) 10 = t1 ∨ M.1 (p + 4 + (9 + i)) 10 = t2))).length ≤ 40) :
    ∃ M', f_X2_appendIfFate M p q t1 t2 = some M' ∧ cz_rr M' (p + 6) (B ++ L.filter (fun i => decide (M.1 (p + 4 + (9 + i)) 10 = t1 ∨ M.1 (p + 4 + (9 + i)) 10 = t2))) ∧ cz_fr (fun x => x = p + 6 ∨ x = p + 6 + 1) M M' := by
  generalize hF : (fun i => decide (M.1 (p + 4 + (9 + i)) 10 = t1 ∨ M.1 (p + 4 + (9 + i)) 10 = t2)) = F at hB ⊢
  have hFi : ∀ i, F i = true ↔ (M.1 (p + 4 + (9 + i)) 10 = t1 ∨ M.1 (p + 4 + (9 + i)) 10 = t2) := fun i => by rw [← hF]; simp
  rw [f_X2_appendIfFate]
  obtain ⟨M', ⟨h1, h2⟩, h⟩ := cz_for2 (F := f_X2_appendIfFate_L3 p q t1 t2 (fun x20 M21 => some M21)) (fun k (m : cz_M) => cz_rr m (p + 6) (B ++ (L.take k).filter F) ∧ cz_fr (fun x => x = p + 6 ∨ x = p + 6 + 1) M m) (fun m => some m) L.length
    (fun k m hk ⟨i1, i2⟩ => by
      have eq : m.1 q = M.1 q := (i2.1 q (by omega)).1
      have eq1 : m.1 (q + 1) = M.1 (q + 1) := (i2.1 (q + 1) (by omega)).1
      have hi40 : L[k] < 40 := hLi _ (List.getElem_mem hk)
      have ei : m.1 (p + 4 + (9 + L[k])) = M.1 (p + 4 + (9 + L[k])) := (i2.1 _ (by omega)).1
      have hst : ∀ rec, f_X2_appendIfFate_L3 p q t1 t2 (fun x20 M21 => some M21) rec (nI k) m = if M.1 (p + 4 + (9 + L[k])) 10 = t1 then (f_X3_append m (p + 6) (nI L[k])).bind (fun M9 => rec (nI (k + 1)) M9) else if M.1 (p + 4 + (9 + L[k])) 10 = t2 then (f_X3_append m (p + 6) (nI L[k])).bind (fun M9 => rec (nI (k + 1)) M9) else rec (nI (k + 1)) m := by
        intro rec
        rw [f_X2_appendIfFate_L3, eq, rr.1, if_neg (nI_ge hk (by omega)), cz_gdn (by omega) (by decide), cz_cl (by omega), eq1, rr.2 k hk, cz_gdn hi40 (by decide), cz_cl (by omega), ei, cz_lt_e]
        repeat rw [cz_gdn (show k < 40 by omega) (by decide)]
        simp only [cz_lt_e, nI_add]
      rw [cz_tk1 hk]
      by_cases hF2 : F L[k] = true
      · rw [if_pos hF2]
        have hlt : (B ++ (L.take k).filter F).length < 40 := by
          have h1 := cz_tk (p := F) L (k + 1)
          rw [cz_tk1 hk, if_pos hF2, List.length_append, List.length_singleton] at h1
          rw [List.length_append] at hB ⊢
          omega
        obtain ⟨m2, g1, g2, g3⟩ := c_append (i := L[k]) i1 hlt
        rw [List.append_assoc] at g2
        refine ⟨m2, fun rec => ?_, g2, i2.tr g3⟩
        rw [hst, g1]
        simp only [Option.bind_some]
        rcases (hFi _).mp hF2 with hz | hz
        · rw [if_pos hz]
        · by_cases hz1 : M.1 (p + 4 + (9 + L[k])) 10 = t1
          · rw [if_pos hz1]
          · rw [if_neg hz1, if_pos hz]
      · rw [if_neg hF2, List.append_nil]
        refine ⟨m, fun rec => ?_, i1, i2⟩
        rw [hst, if_neg (fun z => hF2 ((hFi _).mpr (Or.inl z))), if_neg (fun z => hF2 ((hFi _).mpr (Or.inr z)))])
    (fun m hI rec => by
      have eq : m.1 q = M.1 q := (hI.2.1 q (by omega)).1
      rw [f_X2_appendIfFate_L3, eq, rr.1, if_pos (nI_le (Nat.le_refl _) (by omega))]) L.length 0 M 4096 (by omega) (by omega) ⟨by simpa using rb, cz_fr.rf⟩
  rw [List.take_length] at h1
  exact ⟨M', h, h1, h2⟩
theorem cz_cbn {α : Type} {n N : Nat} {K : Option α} (h : n ≤ N) (hN : N < 2 ^ 31) : cz_gd (cz_cb (nI 0) (nI 0) (nI n) N N) K = K := by
  have h1 : cz_cb (nI 0) (nI 0) (nI n) N N = true := by
    simp only [cz_cb, Bool.and_eq_true, decide_eq_true_eq]
    rw [cz_cl (by omega), cz_cl (by omega)]
    exact ⟨nI_pos (by omega), nI_pos (by omega), nI_pos (by omega), by omega, by omega⟩
  rw [h1]
  rfl
theorem c_rowCopy {M : cz_M} {q q1 : Nat} {L : List Nat} (rr : cz_rr M q1 L) (hL : L.length ≤ 40) (hne : q1 ≠ q) (hne2 : q1 + 1 ≠ q) : ∃ M', f_X3_copyFrom M q q1 = some M' ∧ cz_rr M' q L ∧ cz_fr (fun x => x = q ∨ x = q + 1) M M' := by
  rw [f_X3_copyFrom, cz_lt_e, rr.1, cz_mI_s, pk_us, cz_cbn hL (by decide), cz_cl (by decide), cz_cl (by omega), cz_lt_e]
  refine ⟨_, rfl, ⟨?_, fun k hk => ?_⟩, (cz_fr.mI (Or.inl rfl)).tr (cz_fr.mA (Or.inr rfl))⟩
  · rw [cz_mA_1, if_neg (by omega), cz_mI_s, pk_us]
  · rw [cz_mA_1, if_pos rfl]
    unfold va_cpy
    rw [if_pos (by omega), cz_mI_o hne2]
    rw [show 0 + (k - 0) = k by omega]
    exact rr.2 k hk
