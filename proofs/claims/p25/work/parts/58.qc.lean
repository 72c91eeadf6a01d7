/-! burn: the state behind it -/
def cz_bl (s : Nat → Int32) (i r p l k : Nat) : Nat → Int32 := fun j => if j = 111 + 11 * i + 2 then nI 2 else if j = 29 + r then nI (l - 1) else if 31 + 40 * r + p ≤ j ∧ j < 31 + 40 * r + k then s (j + 1) else s j
def cz_bn (s : Nat → Int32) (i r p l : Nat) : Nat → Int32 := upd (cz_bl s i r p l (l - 1)) (31 + 40 * r + (l - 1)) (nI 0)
def cz_bR (R : Nat → List Nat) (r p : Nat) : Nat → List Nat := fun x => if x = r then (R r).eraseIdx p else R x
theorem cz_bn_o {s : Nat → Int32} {i r p l j : Nat} (hl : l ≤ 40) (hl0 : 0 < l) (h1 : j ≠ 111 + 11 * i + 2) (h2 : j ≠ 29 + r) (h3 : j < 31 + 40 * r ∨ 31 + 40 * r + 40 ≤ j) : cz_bn s i r p l j = s j := by
  unfold cz_bn cz_bl
  rw [pk_un (by omega), if_neg h1, if_neg h2, if_neg (by omega)]
theorem cz_bn_i {s : Nat → Int32} {i r p l : Nat} (hr : r < 2) (hl : l ≤ 40) (hl0 : 0 < l) : cz_bn s i r p l (111 + 11 * i + 2) = nI 2 := by
  unfold cz_bn cz_bl
  rw [pk_un (by omega), if_pos rfl]
theorem cz_bn_c {s : Nat → Int32} {i r p l : Nat} (hr : r < 2) : cz_bn s i r p l (29 + r) = nI (l - 1) := by
  unfold cz_bn cz_bl
  rw [pk_un (by omega), if_neg (by omega), if_pos rfl]
theorem cz_bn_k {s : Nat → Int32} {i r p l k : Nat} (hr : r < 2) (hl : l ≤ 40) (hk : k < l - 1) : cz_bn s i r p l (31 + 40 * r + k) = if k < p then s (31 + 40 * r + k) else s (31 + 40 * r + (k + 1)) := by
  unfold cz_bn cz_bl
  rw [pk_un (by omega), if_neg (by omega), if_neg (by omega)]
  by_cases h : k < p
  · rw [if_neg (by omega), if_pos h]
  · rw [if_pos (by omega), if_neg h]
    rfl
theorem cz_ei_len {L : List Nat} {p : Nat} (hp : p < L.length) : (L.eraseIdx p).length = L.length - 1 := List.length_eraseIdx_of_lt hp
theorem cz_ei_get {L : List Nat} {p k : Nat} (hp : p < L.length) (hk : k < (L.eraseIdx p).length) : (L.eraseIdx p)[k] = if h : k < p then L[k]'(by omega) else L[k + 1]'(by rw [cz_ei_len hp] at hk; omega) := by
  rw [List.getElem_eraseIdx]
theorem cz_ei_mem {L : List Nat} {p j : Nat} (hp : p < L.length) (hnd : L.Nodup) : j ∈ L.eraseIdx p ↔ j ∈ L ∧ j ≠ L[p] := by
  constructor
  · intro h
    refine ⟨(List.eraseIdx_sublist L p).mem h, fun hj => ?_⟩
    obtain ⟨k, hk, e⟩ := List.mem_iff_getElem.mp h
    rw [cz_ei_get hp hk] at e
    rw [cz_ei_len hp] at hk
    by_cases hkp : k < p
    · rw [dif_pos hkp] at e
      have := cz_nd hnd (by omega) hp (e.trans hj)
      omega
    · rw [dif_neg hkp] at e
      have := cz_nd hnd (by omega) hp (e.trans hj)
      omega
  · rintro ⟨h, hne⟩
    obtain ⟨k, hk, rfl⟩ := List.mem_iff_getElem.mp h
    have hkp : k ≠ p := fun z => hne (by subst z; rfl)
    by_cases hlt : k < p
    · refine List.mem_iff_getElem.mpr ⟨k, by rw [cz_ei_len hp]; omega, ?_⟩
      rw [cz_ei_get hp, dif_pos hlt]
    · refine List.mem_iff_getElem.mpr ⟨k - 1, by rw [cz_ei_len hp]; omega, ?_⟩
      rw [cz_ei_get hp, dif_neg (by omega)]
      congr 1
      omega
theorem cz_ok_bn {s : Nat → Int32} {n W r p : Nat} {R : Nat → List Nat} (ok : cz_ok s n W R) (hr : r < 2) (hp : p < (R r).length) : cz_ok (cz_bn s (R r)[p] r p (R r).length) n W (cz_bR R r p) := by
  obtain ⟨⟨⟨hn, hs4, hW, hs3⟩, hset, hro, hst, hrw, hle, htc⟩, hno⟩ := ok
  obtain ⟨l1, l2, l3, l4, l5⟩ := hrw r hr
  have hi5 := l5 _ (List.getElem_mem hp)
  have hl0 : 0 < (R r).length := by omega
  have ho : ∀ j, j ≠ 111 + 11 * (R r)[p] + 2 → j ≠ 29 + r → (j < 31 + 40 * r ∨ 31 + 40 * r + 40 ≤ j) → cz_bn s (R r)[p] r p (R r).length j = s j := fun j => cz_bn_o l2 hl0
  have hi2 : cz_bn s (R r)[p] r p (R r).length (111 + 11 * (R r)[p] + 2) = nI 2 := cz_bn_i hr l2 hl0
  have hoi : ∀ j w, w < 11 → (j = (R r)[p] → w ≠ 2) → cz_bn s (R r)[p] r p (R r).length (111 + 11 * j + w) = s (111 + 11 * j + w) := fun j w hw h => ho _ (by
    by_cases hj : j = (R r)[p]
    · have := h hj; omega
    · omega) (by omega) (by omega)
  have hoi0 : ∀ j, cz_bn s (R r)[p] r p (R r).length (111 + 11 * j) = s (111 + 11 * j) := fun j => hoi j 0 (by decide) (fun _ => by decide)
  refine ⟨⟨⟨hn, (ho 4 (by omega) (by omega) (by omega)).trans hs4, hW, (ho 3 (by omega) (by omega) (by omega)).trans hs3⟩, ?_, fun k hk => ?_, fun c hc => ?_, fun x hx => ?_, fun j hj => ?_, fun c hc => ?_⟩, fun j hj => ?_⟩
  · rw [ho 0 (by omega) (by omega) (by omega), ho 1 (by omega) (by omega) (by omega), ho 2 (by omega) (by omega) (by omega)]; exact hset
  · rw [ho _ (by omega) (by omega) (by omega)]; exact hro k hk
  · rw [ho _ (by omega) (by omega) (by omega)]; exact hst c hc
  · by_cases hxr : x = r
    · subst hxr
      unfold cz_bR
      rw [if_pos rfl]
      refine ⟨?_, ?_, fun k hk => ?_, l4.sublist (List.eraseIdx_sublist _ _), fun j hj => ?_⟩
      · rw [cz_bn_c hr, cz_ei_len hp]
      · rw [cz_ei_len hp]; omega
      · have hk2 : k < (R x).length - 1 := by rw [← cz_ei_len hp]; exact hk
        rw [cz_bn_k hr l2 hk2, cz_ei_get hp hk]
        by_cases hkp : k < p
        · rw [if_pos hkp, dif_pos hkp]; exact l3 k (by omega)
        · rw [if_neg hkp, dif_neg hkp]; exact l3 (k + 1) (by omega)
      · obtain ⟨hj1, hj2⟩ := (cz_ei_mem hp l4).mp hj
        have h5 := l5 j hj1
        exact ⟨h5.1, (hoi j 1 (by decide) (fun _ => by decide)).trans h5.2.1, (hoi j 2 (by decide) (fun z => absurd z hj2)).trans h5.2.2⟩
    · unfold cz_bR
      rw [if_neg hxr]
      obtain ⟨k1, k2, k3, k4, k5⟩ := hrw x hx
      refine ⟨(ho _ (by omega) (by omega) (by omega)).trans k1, k2, fun k hk => (ho _ (by omega) (by omega) (by omega)).trans (k3 k hk), k4, fun j hj => ?_⟩
      have h5 := k5 j hj
      have hne : j ≠ (R r)[p] := fun z => hxr (cz_nI_inj (by omega) (by omega) (by rw [← h5.2.1, z, hi5.2.1]))
      exact ⟨h5.1, (hoi j 1 (by decide) (fun _ => by decide)).trans h5.2.1, (hoi j 2 (by decide) (fun z => absurd z hne)).trans h5.2.2⟩
  · have h := hle j hj
    by_cases hji : j = (R r)[p]
    · subst hji
      unfold cz_le cz_lw at h ⊢
      obtain ⟨q1, q2, ⟨x, hx, q3, -⟩, -, q5, -, q7, q8, ⟨bk, hb, hb2, -⟩, q10⟩ := h
      rw [hoi0, hoi _ 1 (by decide) (fun _ => by decide), hi2, hoi _ 3 (by decide) (fun _ => by decide), hoi _ 4 (by decide) (fun _ => by decide), hoi _ 5 (by decide) (fun _ => by decide), hoi _ 6 (by decide) (fun _ => by decide), hoi _ 7 (by decide) (fun _ => by decide), hoi _ 8 (by decide) (fun _ => by decide), hoi _ 9 (by decide) (fun _ => by decide), hoi _ 10 (by decide) (fun _ => by decide)]
      exact ⟨q1, q2, ⟨x, hx, q3, fun z => absurd z (by decide)⟩, Or.inr (Or.inr (Or.inl rfl)), q5, fun z => absurd z (by decide), fun _ => q7 (by rw [hi5.2.2]; decide), q8, ⟨bk, hb, hb2, fun z => absurd z (by decide)⟩, q10⟩
    · unfold cz_le cz_lw at h ⊢
      obtain ⟨q1, q2, ⟨x, hx, q3, q4⟩, q5⟩ := h
      rw [hoi0, hoi _ 1 (by decide) (fun _ => by decide), hoi _ 2 (by decide) (fun z => absurd z hji), hoi _ 3 (by decide) (fun _ => by decide), hoi _ 4 (by decide) (fun _ => by decide), hoi _ 5 (by decide) (fun _ => by decide), hoi _ 6 (by decide) (fun _ => by decide), hoi _ 7 (by decide) (fun _ => by decide), hoi _ 8 (by decide) (fun _ => by decide), hoi _ 9 (by decide) (fun _ => by decide), hoi _ 10 (by decide) (fun _ => by decide)]
      refine ⟨q1, q2, ⟨x, hx, q3, fun z => ?_⟩, q5⟩
      unfold cz_bR
      by_cases hxr : x = r
      · rw [if_pos hxr]
        exact (cz_ei_mem hp l4).mpr ⟨hxr ▸ q4 z, hji⟩
      · rw [if_neg hxr]; exact q4 z
  · rw [ho _ (by omega) (by omega) (by omega)]; exact htc c hc
  · by_cases hji : j = (R r)[p]
    · subst hji; rw [hi2]; decide
    · rw [hoi _ 2 (by decide) (fun z => absurd z hji)]; exact hno j hj
