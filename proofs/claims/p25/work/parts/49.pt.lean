/-! how many have come -/
theorem cz_wA_o {s : Nat → Int32} {n W : Nat} {R : Nat → List Nat} (ok : cz_ok s n W R) {i : Nat} (h0 : i ∉ R 0) (h1 : i ∉ R 1) : (cz_wA s W R).1 (111 + 11 * i + 2) = s (111 + 11 * i + 2) := by
  obtain ⟨n0, n1, n2, q0, q1, q2⟩ := cz_ok_no ok.1
  obtain ⟨gg1, -⟩ := cz_ok_g ok
  obtain ⟨-, -, -, -, hrw, hle, -⟩ := ok.1
  obtain ⟨-, l2, -, l4, l5⟩ := hrw 0 (by decide)
  obtain ⟨-, r2, -, r4, r5⟩ := hrw 1 (by decide)
  obtain ⟨gA, -⟩ := cz_go_all (w := cz_wt s) (u := fun _ => nI 0) (rdm := cz_no s 0) n0 l4 (fun i hi => (hle i (l5 i hi).1).1)
  have hlw1 : ∀ i ∈ R 1, cz_lw (cz_gt (cz_wt s) 0 (cz_no s (5 + 2 * (W % 4))) (cz_no s 0) (R 0) (s, fun _ => nI 0)).1 i := fun i hi => (gg1.2.2.2.2.2.1 i (r5 i hi).1).1
  obtain ⟨hA, -⟩ := cz_go_all (w := cz_wt s) (s := (cz_gt (cz_wt s) 0 (cz_no s (5 + 2 * (W % 4))) (cz_no s 0) (R 0) (s, fun _ => nI 0)).1) (u := (cz_gt (cz_wt s) 0 (cz_no s (5 + 2 * (W % 4))) (cz_no s 0) (R 0) (s, fun _ => nI 0)).2) (rdm := cz_no s 0) n1 r4 hlw1
  have hw1 : (cz_wA s W R).1 (111 + 11 * i + 2) = (cz_go (cz_wt s) (cz_no s (5 + 2 * (W % 4) + 1)) (cz_no s 0) (R 1) (0, (cz_gt (cz_wt s) 0 (cz_no s (5 + 2 * (W % 4))) (cz_no s 0) (R 0) (s, fun _ => nI 0)).1, (cz_gt (cz_wt s) 0 (cz_no s (5 + 2 * (W % 4))) (cz_no s 0) (R 0) (s, fun _ => nI 0)).2)).2.1 (111 + 11 * i + 2) := cz_gt_l (by decide) r2 (Or.inr (by omega))
  have h0l : (cz_gt (cz_wt s) 0 (cz_no s (5 + 2 * (W % 4))) (cz_no s 0) (R 0) (s, fun _ => nI 0)).1 (111 + 11 * i + 2) = (cz_go (cz_wt s) (cz_no s (5 + 2 * (W % 4))) (cz_no s 0) (R 0) (0, s, fun _ => nI 0)).2.1 (111 + 11 * i + 2) := cz_gt_l (by decide) l2 (Or.inr (by omega))
  rw [hw1, (hA i h1).1 2 (by decide), h0l, (gA i h0).1 2 (by decide)]
theorem cz_ct_c {s s' : Nat → Int32} {t : Nat} : ∀ {n : Nat}, (∀ i, i < n → (s' (111 + 11 * i + 2) = nI t ↔ s (111 + 11 * i + 2) = nI t)) → cz_ct s' t n = cz_ct s t n
  | 0, _ => rfl
  | n + 1, h => by
    rw [cz_ct, cz_ct, cz_ct_c (fun i hi => h i (by omega))]
    by_cases h1 : s (111 + 11 * n + 2) = nI t
    · rw [if_pos h1, if_pos ((h n (by omega)).mpr h1)]
    · rw [if_neg h1, if_neg (fun z => h1 ((h n (by omega)).mp z))]
theorem cz_ct_fi {s : Nat → Int32} {v : Int32} {n : Nat} : ∀ k, k ≤ n → cz_ct (cz_fi (upd s 3 v) n) 1 k = cz_ct s 1 k + cz_cn s k
  | 0, _ => rfl
  | k + 1, h => by
    rw [cz_ct, cz_ct, cz_cn, cz_ct_fi k (by omega), cz_fi_2 (by omega), pk_un (by omega)]
    by_cases h3 : s (111 + 11 * k + 2) = nI 3
    · rw [if_pos h3, if_pos rfl, if_pos h3, if_neg (by rw [h3]; decide)]
      omega
    · rw [if_neg h3, if_neg h3]
      omega
theorem cz_ct_wk {s : Nat → Int32} {n W : Nat} {R : Nat → List Nat} (ok : cz_ok s n W R) : cz_ct (cz_wK s n W R) 1 n = cz_ct s 1 n + cz_cn (cz_wA s W R).1 n := by
  unfold cz_wK
  rw [cz_ct_fi n (Nat.le_refl _)]
  congr 1
  refine cz_ct_c (fun i hi => ?_)
  have hin : ∀ r, r < 2 → i ∈ R r → ((cz_wA s W R).1 (111 + 11 * i + 2) = nI 1 ↔ s (111 + 11 * i + 2) = nI 1) := by
    intro r hr hm
    obtain ⟨k, hk, rfl⟩ := List.mem_iff_getElem.mp hm
    have h0 := ((ok.1.2.2.2.2.1 r hr).2.2.2.2 _ hm).2.2
    rw [(cz_wA_l ok hr hk).1, h0]
    split
    · decide
    · split
      · decide
      · exact Iff.rfl
  by_cases h0 : i ∈ R 0
  · exact hin 0 (by decide) h0
  · by_cases h1 : i ∈ R 1
    · exact hin 1 (by decide) h1
    · rw [cz_wA_o ok h0 h1]
theorem cz_ct_sk {s : Nat → Int32} {n W : Nat} {R : Nat → List Nat} (ok : cz_ok s n W R) : ∀ k, W + k < 2 ^ 20 → cz_ct (cz_sk s n W R k).1 1 n = cz_ct s 1 n + cz_ck s n W R k
  | 0, _ => rfl
  | k + 1, h => by
    show cz_ct (cz_wK (cz_sk s n W R k).1 n (W + k) (cz_sk s n W R k).2) 1 n = cz_ct s 1 n + (cz_ck s n W R k + cz_cn (cz_wA (cz_sk s n W R k).1 (W + k) (cz_sk s n W R k).2).1 n)
    rw [cz_ct_wk (cz_ok_sk ok k (by omega)), cz_ct_sk ok k (by omega)]
    omega
