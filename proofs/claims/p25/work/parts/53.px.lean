/-! threads that wait -/
theorem cz_tm1 : ∀ a, a < 32 → ∀ t, t < 5 → nI a ||| (nI 1 <<< (nI t &&& nI 31)) = nI (a ||| 2 ^ t) := by decide +kernel
theorem cz_tm0 : ∀ a, a < 32 → nI a ||| nI 0 = nI a := by decide +kernel
theorem cz_tm2 : ∀ a, a < 32 → ∀ t, t < 5 → (a ||| 2 ^ t) < 32 ∧ ∀ x, x < 5 → (a ||| 2 ^ t) / 2 ^ x % 2 = if x = t then 1 else a / 2 ^ x % 2 := by decide +kernel
theorem cz_tm3 : ∀ a, a < 32 → cz_pc a = a / 2 ^ 0 % 2 + a / 2 ^ 1 % 2 + a / 2 ^ 2 % 2 + a / 2 ^ 3 % 2 + a / 2 ^ 4 % 2 := by decide +kernel
/-- the threads of the first k letters that wait, as a set -/
def cz_tw (s : Nat → Int32) : Nat → Nat
  | 0 => 0
  | k + 1 => if s (111 + 11 * k + 2) = nI 0 then cz_tw s k ||| 2 ^ cz_no s (111 + 11 * k) else cz_tw s k
theorem cz_tw_p {s : Nat → Int32} {n W : Nat} {R : Nat → List Nat} (ok : cz_ok s n W R) : ∀ k, k ≤ n → cz_tw s k < 32 ∧ ∀ x, x < 5 → (cz_tw s k / 2 ^ x % 2 = 1 ∧ ∃ i, i < k ∧ s (111 + 11 * i + 2) = nI 0 ∧ s (111 + 11 * i) = nI x) ∨ (cz_tw s k / 2 ^ x % 2 = 0 ∧ ∀ i, i < k → s (111 + 11 * i + 2) = nI 0 → s (111 + 11 * i) ≠ nI x)
  | 0, _ => ⟨by rw [cz_tw]; decide, fun x hx => Or.inr ⟨by rw [cz_tw, Nat.zero_div], fun i hi => by omega⟩⟩
  | k + 1, h => by
    obtain ⟨h1, h2⟩ := cz_tw_p ok k (by omega)
    obtain ⟨t, ht, hte⟩ := (ok.1.2.2.2.2.2.1 k (by omega)).2.1
    rw [cz_tw]
    by_cases h0 : s (111 + 11 * k + 2) = nI 0
    · rw [if_pos h0, cz_no_e hte (by omega)]
      obtain ⟨g1, g2⟩ := cz_tm2 _ h1 t ht
      refine ⟨g1, fun x hx => ?_⟩
      rw [g2 x hx]
      by_cases hxt : x = t
      · subst hxt
        rw [if_pos rfl]
        exact Or.inl ⟨rfl, k, by omega, h0, hte⟩
      · rw [if_neg hxt]
        rcases h2 x hx with ⟨a1, i, a2, a3, a4⟩ | ⟨a1, a2⟩
        · exact Or.inl ⟨a1, i, by omega, a3, a4⟩
        · refine Or.inr ⟨a1, fun i hi hi0 hix => ?_⟩
          by_cases hik : i = k
          · subst hik
            exact hxt (cz_nI_inj (by omega) (by omega) (hix.symm.trans hte))
          · exact a2 i (by omega) hi0 hix
    · rw [if_neg h0]
      refine ⟨h1, fun x hx => ?_⟩
      rcases h2 x hx with ⟨a1, i, a2, a3, a4⟩ | ⟨a1, a2⟩
      · exact Or.inl ⟨a1, i, by omega, a3, a4⟩
      · refine Or.inr ⟨a1, fun i hi hi0 hix => ?_⟩
        by_cases hik : i = k
        · subst hik; exact h0 hi0
        · exact a2 i (by omega) hi0 hix
def cz_t5 (a : Nat) : Nat → Nat
  | 0 => 0
  | k + 1 => cz_t5 a k + a / 2 ^ k % 2
theorem c_threads {M : cz_M} {p n W : Nat} {s : Nat → Int32} {R : Nat → List Nat} (ok : cz_ok s n W R) (rp : cz_rp M p s n R) : ∃ M', f_X2_threadsThatWait M p = some (nI (cz_pc (cz_tw s n)), M') ∧ cz_rp M' p s n R ∧ cz_fr (fun x => x = p + 8) M M' := by
  obtain ⟨M1, f1, g1, e1⟩ := c_findHeads M p ok.1 rp
  obtain ⟨hb, ht⟩ := cz_tw_p ok n (Nat.le_refl _)
  have hn : n ≤ 40 := ok.1.1.1
  have hrw := ok.1.2.2.2.2.1
  have hle := ok.1.2.2.2.2.2.1
  have hhead : ∀ x, x < 5 → (M1.1 (p + 8) x = (-6 : Int32) ∧ cz_tw s n / 2 ^ x % 2 = 0) ∨ (¬ M1.1 (p + 8) x = (-6 : Int32) ∧ cz_tw s n / 2 ^ x % 2 = 1) := by
    intro x hx
    rcases g1 x hx with ⟨h1, h2⟩ | ⟨i, h1, h2, h3, -⟩
    · left
      refine ⟨h1, ?_⟩
      rcases ht x hx with ⟨a1, i, a2, a3, a4⟩ | ⟨a1, -⟩
      · obtain ⟨r, hr, -, hr2⟩ := (hle i a2).2.2.1
        have hm : i ∈ R 0 ++ R 1 := by
          rcases (show r = 0 ∨ r = 1 by omega) with rfl | rfl
          · exact List.mem_append_left _ (hr2 a3)
          · exact List.mem_append_right _ (hr2 a3)
        exact absurd a4 (h2 i hm)
      · exact a1
    · right
      have hi : i < n ∧ s (111 + 11 * i + 2) = nI 0 := by
        rcases List.mem_append.mp h1 with h | h
        · have := (hrw 0 (by decide)).2.2.2.2 i h; exact ⟨this.1, this.2.2⟩
        · have := (hrw 1 (by decide)).2.2.2.2 i h; exact ⟨this.1, this.2.2⟩
      refine ⟨by rw [h3]; exact cz_nIm (by omega), ?_⟩
      rcases ht x hx with ⟨a1, -⟩ | ⟨-, a2⟩
      · exact a1
      · exact absurd h2 (a2 i hi.1 hi.2)
  rw [f_X2_threadsThatWait, f1, Option.bind_some]
  obtain ⟨x, hI, h⟩ := cz_for2b (F := f_X2_threadsThatWait_L8 p M1 (fun x11 x12 => some (x11, M1))) (fun k (x : Int32) => x = nI (cz_t5 (cz_tw s n) k)) (fun x => some (x, M1)) 5
    (fun k x hk hI => by
      subst hI
      refine ⟨nI (cz_t5 (cz_tw s n) (k + 1)), fun rec => ?_, rfl⟩
      rw [f_X2_threadsThatWait_L8, if_neg (nI_ge hk (by omega)), cz_gdn hk (by decide), cz_cl (by omega), cz_t5]
      simp only [cz_lt_e, nI_add]
      rcases hhead k hk with ⟨a1, a2⟩ | ⟨a1, a2⟩
      · rw [if_pos a1, a2]
        rfl
      · rw [if_neg a1, a2])
    (fun x hI rec => by rw [f_X2_threadsThatWait_L8, if_pos (nI_le (Nat.le_refl _) (by omega))]) 5 0 (nI 0) 4096 (by omega) (by omega) rfl
  refine ⟨M1, ?_, cz_rp_8 e1 rp, e1⟩
  rw [h, hI, cz_tm3 _ hb]
  simp only [cz_t5, Nat.zero_add]
