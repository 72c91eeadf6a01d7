/-! put, on both sides -/
/-- the pad with the characters behind it -/
def cz_pp (pad : Nat → Nat) (len N L : Nat) : Nat → Nat := fun k => if k < len then pad k else cz_by N (len + L - 1 - k)
theorem cz_chrN : ∀ c, c < 256 → cz_chr (nI c) = nI c ∧ cz_hb (nI c) = true := by decide +kernel
theorem cz_m1 (j : Nat) : nI j + (-1) = nI j - nI 1 := by
  rw [Int32.sub_eq_add_neg]
  rfl
theorem c_putL {M : cz_M} {b N L len : Nat} {pad : Nat → Nat} (hN : N < 2 ^ 64) (hL : L ≤ 8) (h60 : len + L ≤ 60) (h7 : M.1 b 7 = nI len) (hpad : ∀ k, k < len → M.1 (b + 118) k = nI (pad k)) :
    ∃ M', cz_it2 (f_X4_put_L31 b (cz_L N) (fun x11 M12 => some ((M12.1 b 7), M12))) 4096 (nI L - nI 1) M = some (nI (len + L), M') ∧ cz_fr (fun x => x = b ∨ x = b + 118) M M' ∧ M'.1 b 6 = M.1 b 6 ∧ M'.1 b 7 = nI (len + L) ∧ ∀ k, k < len + L → M'.1 (b + 118) k = nI (cz_pp pad len N L k) := by
  have key : ∀ (j : Nat) (m : cz_M) (fuel : Nat), j ≤ L → j < fuel → cz_fr (fun x => x = b ∨ x = b + 118) M m → m.1 b 6 = M.1 b 6 → m.1 b 7 = nI (len + (L - j)) → (∀ k, k < len + (L - j) → m.1 (b + 118) k = nI (cz_pp pad len N L k)) → ∃ M', cz_it2 (f_X4_put_L31 b (cz_L N) (fun x11 M12 => some ((M12.1 b 7), M12))) fuel (nI j - nI 1) m = some (nI (len + L), M') ∧ cz_fr (fun x => x = b ∨ x = b + 118) M M' ∧ M'.1 b 6 = M.1 b 6 ∧ M'.1 b 7 = nI (len + L) ∧ ∀ k, k < len + L → M'.1 (b + 118) k = nI (cz_pp pad len N L k) := by
    intro j
    induction j with
    | zero =>
      intro m fuel _ hf e h6 h7 hk
      obtain ⟨g, rfl⟩ : ∃ g, fuel = g + 1 := ⟨fuel - 1, by omega⟩
      rw [Nat.sub_zero] at h7 hk
      refine ⟨m, ?_, e, h6, h7, hk⟩
      show f_X4_put_L31 b (cz_L N) (fun x11 M12 => some ((M12.1 b 7), M12)) (cz_it2 (f_X4_put_L31 b (cz_L N) (fun x11 M12 => some ((M12.1 b 7), M12))) g) (nI 0 - nI 1) m = _
      rw [f_X4_put_L31, if_pos (by decide), h7]
    | succ j ih =>
      intro m fuel hj hf e h6 h7 hk
      obtain ⟨g, rfl⟩ : ∃ g, fuel = g + 1 := ⟨fuel - 1, by omega⟩
      rw [cz_subN (by omega), Nat.add_sub_cancel]
      have hb : cz_by N j < 256 := Nat.mod_lt _ (by decide)
      have hv : cz_chr (Int64.toInt32 (cz_usl (cz_L N) (nI 8 * nI j) &&& (255 : Int64))) = nI (cz_by N j) := by rw [cz_by_v hN (by omega), (cz_chrN _ hb).1]
      have hq : len + (L - (j + 1)) < 60 := by omega
      show ∃ M', f_X4_put_L31 b (cz_L N) (fun x11 M12 => some ((M12.1 b 7), M12)) (cz_it2 (f_X4_put_L31 b (cz_L N) (fun x11 M12 => some ((M12.1 b 7), M12))) g) (nI j) m = _ ∧ _
      rw [f_X4_put_L31, if_neg (nI_nlt (Nat.zero_le _) (by omega)), hv, (cz_chrN _ hb).2, cz_gd_t1, h7, cz_gdn hq (by decide), cz_cl (by omega), cz_lt_e, cz_lt_e, cz_lt_e, cz_m1, cz_mI_o (by omega), h7, nI_add]
      have hmm : cz_fr (fun x => x = b ∨ x = b + 118) m (cz_mI (cz_mI m (b + 118) (len + (L - (j + 1))) (nI (cz_by N j))) b 7 (nI (len + (L - (j + 1)) + 1))) := (cz_fr.mI (D := fun x => x = b ∨ x = b + 118) (Or.inr rfl)).tr (cz_fr.mI (Or.inl rfl))
      refine ih _ g (by omega) (by omega) (e.tr hmm) ?_ ?_ (fun k hkk => ?_)
      · rw [cz_mI_s, pk_un (by decide), cz_mI_o (by omega), h6]
      · rw [cz_mI_s, pk_us]
        congr 1
        omega
      · rw [cz_mI_o (by omega), cz_mI_s]
        by_cases hkq : k = len + (L - (j + 1))
        · subst hkq
          rw [pk_us]
          unfold cz_pp
          rw [if_neg (by omega)]
          congr 2
          omega
        · rw [pk_un hkq]; exact hk k (by omega)
  exact key L M 4096 (Nat.le_refl _) (by omega) cz_fr.rf rfl (by rw [Nat.sub_self, Nat.add_zero]; exact h7) (fun k hk => by
    rw [Nat.sub_self, Nat.add_zero] at hk
    unfold cz_pp
    rw [if_pos hk]
    exact hpad k hk)
