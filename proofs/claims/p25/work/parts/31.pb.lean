/-! a block of the class stands for a state -/
def cz_rl (M : cz_M) (q : Nat) (s : Nat → Int32) (i : Nat) : Prop :=
  M.1 q 0 = s (111 + 11 * i) ∧ M.1 q 1 = s (111 + 11 * i + 1) ∧ M.1 q 3 = s (111 + 11 * i + 8) ∧ M.1 q 4 = s (111 + 11 * i + 3) ∧ M.1 q 5 = (if s (111 + 11 * i + 2) = nI 3 then nI 1 else s (111 + 11 * i + 2)) ∧ (s (111 + 11 * i + 2) = nI 1 → M.1 q 6 = s (111 + 11 * i + 4)) ∧ (s (111 + 11 * i + 2) = nI 3 → M.1 q 6 = s 3 + nI 1 - s (111 + 11 * i + 3)) ∧ M.1 q 7 = s (111 + 11 * i + 6) ∧ M.1 q 8 = s (111 + 11 * i + 5) ∧ M.1 q 9 = s (111 + 11 * i + 7) ∧ M.2.1 q = cz_L (cz_wN (fun k => 97 + cz_dig s i k) (cz_no s (111 + 11 * i + 8)))
def cz_rr (M : cz_M) (q : Nat) (l : List Nat) : Prop := M.1 q 1 = nI l.length ∧ ∀ k (h : k < l.length), M.1 (q + 1) k = nI l[k]
def cz_rp (M : cz_M) (p : Nat) (s : Nat → Int32) (n : Nat) (R : Nat → List Nat) : Prop :=
  (∀ k, k < 3 → M.1 (p + 1) k = s k) ∧ (M.1 p 8 = s 3 ∧ M.1 p 7 = s 4) ∧ (∀ k, k < 8 → M.1 (p + 3) k = s (5 + k)) ∧ (∀ c, c < 4 → ∀ f, f < 4 → M.1 (p + 2 + (7 + c)) f = s (13 + 4 * c + f)) ∧ (∀ r, r < 2 → cz_rr M (p + 5 + (48 + 2 * r)) (R r)) ∧ ∀ i, i < n → cz_rl M (p + 4 + (9 + i)) s i
/-- the first waiting letters of the threads, among those of P -/
def cz_hd (H s : Nat → Int32) (P : List Nat) : Prop := ∀ t, t < 5 → (H t = (-6 : Int32) ∧ ∀ i, i ∈ P → s (111 + 11 * i) ≠ nI t) ∨ ∃ i, i ∈ P ∧ s (111 + 11 * i) = nI t ∧ H t = nI i ∧ ∀ j, j ∈ P → s (111 + 11 * j) = nI t → i ≤ j
theorem cz_nIm {i : Nat} (hi : i < 2 ^ 31) : nI i ≠ (-6 : Int32) := by
  intro h
  have := congrArg Int32.toInt h
  rw [nI_toInt hi] at this
  have h6 : (-6 : Int32).toInt = -6 := by decide
  omega
theorem cz_hd_s {H s : Nat → Int32} {P : List Nat} {i t : Nat} (h : cz_hd H s P) (ht : t < 5) (hi : s (111 + 11 * i) = nI t) (hi40 : i < 40) (hP : ∀ j ∈ P, j < 40) :
    cz_hd (if H t = (-6 : Int32) then upd H t (nI i) else if H t ≤ nI i then H else upd H t (nI i)) s (P ++ [i]) := by
  intro x hx
  have hmem : ∀ j, j ∈ P ++ [i] ↔ j ∈ P ∨ j = i := fun j => by rw [List.mem_append, List.mem_singleton]
  by_cases hxt : x = t
  · subst hxt
    right
    rcases h x hx with ⟨h1, h2⟩ | ⟨k, h1, h2, h3, h4⟩
    · rw [if_pos h1]
      refine ⟨i, (hmem i).mpr (Or.inr rfl), hi, pk_us, fun j hj hjt => ?_⟩
      rcases (hmem j).mp hj with hj | hj
      · exact absurd hjt (h2 j hj)
      · omega
    · have hk := hP k h1
      rw [if_neg (by rw [h3]; exact cz_nIm (by omega))]
      by_cases hki : k ≤ i
      · rw [if_pos (by rw [h3]; exact nI_le hki (by omega))]
        refine ⟨k, (hmem k).mpr (Or.inl h1), h2, h3, fun j hj hjt => ?_⟩
        rcases (hmem j).mp hj with hj | hj
        · exact h4 j hj hjt
        · omega
      · rw [if_neg (by rw [h3]; exact nI_ge (by omega) (by omega))]
        refine ⟨i, (hmem i).mpr (Or.inr rfl), hi, pk_us, fun j hj hjt => ?_⟩
        rcases (hmem j).mp hj with hj | hj
        · have := h4 j hj hjt
          omega
        · omega
  · have e : (if H t = (-6 : Int32) then upd H t (nI i) else if H t ≤ nI i then H else upd H t (nI i)) x = H x := by
      split
      · exact pk_un hxt
      · split
        · rfl
        · exact pk_un hxt
    have hit : s (111 + 11 * i) ≠ nI x := fun z => hxt (cz_nI_inj (by omega) (by omega) (z.symm.trans hi))
    rw [e]
    rcases h x hx with ⟨h1, h2⟩ | ⟨k, h1, h2, h3, h4⟩
    · left
      refine ⟨h1, fun j hj => ?_⟩
      rcases (hmem j).mp hj with hj | hj
      · exact h2 j hj
      · subst hj; exact hit
    · right
      refine ⟨k, (hmem k).mpr (Or.inl h1), h2, h3, fun j hj hjt => ?_⟩
      rcases (hmem j).mp hj with hj | hj
      · exact h4 j hj hjt
      · subst hj; exact absurd hjt hit
set_option maxHeartbeats 1000000 in
theorem c_findHeadsIn (M : cz_M) (p q : Nat) {s : Nat → Int32} {P L : List Nat} (hq : q ≠ p + 8) (hq2 : q + 1 ≠ p + 8) (hr : cz_rr M q L) (hL : L.length ≤ 40) (hi : ∀ i ∈ L, i < 40 ∧ ∃ t, t < 5 ∧ s (111 + 11 * i) = nI t ∧ M.1 (p + 4 + (9 + i)) 0 = nI t) (hP : ∀ j ∈ P, j < 40) (hh : cz_hd (M.1 (p + 8)) s P) :
    ∃ M', f_X2_findHeadsIn M p q = some M' ∧ cz_hd (M'.1 (p + 8)) s (P ++ L) ∧ cz_fr (fun x => x = p + 8) M M' := by
  obtain ⟨hr1, hr2⟩ := hr
  rw [f_X2_findHeadsIn]
  obtain ⟨M', ⟨h1, h2⟩, h⟩ := cz_for2 (F := f_X2_findHeadsIn_L2 p q (fun x21 M22 => some M22)) (fun k (m : cz_M) => cz_hd (m.1 (p + 8)) s (P ++ L.take k) ∧ cz_fr (fun x => x = p + 8) M m) (fun m => some m) L.length
    (fun k m hk ⟨i1, i2⟩ => by
      have eq : m.1 q = M.1 q := (i2.1 q hq).1
      have eq1 : m.1 (q + 1) = M.1 (q + 1) := (i2.1 (q + 1) hq2).1
      obtain ⟨hi40, t, ht, hst, hMt⟩ := hi L[k] (List.getElem_mem hk)
      have eqi : m.1 (p + 4 + (9 + L[k])) = M.1 (p + 4 + (9 + L[k])) := (i2.1 _ (by omega)).1
      have hPk : ∀ j ∈ P ++ L.take k, j < 40 := fun j hj => by
        rcases List.mem_append.mp hj with hj | hj
        · exact hP j hj
        · exact (hi j (List.mem_of_mem_take hj)).1
      have hs := cz_hd_s i1 ht hst hi40 hPk
      rw [List.append_assoc, ← cz_take hk] at hs
      have hst2 : ∀ rec, f_X2_findHeadsIn_L2 p q (fun x21 M22 => some M22) rec (nI k) m = if m.1 (p + 8) t = (-6 : Int32) then rec (nI (k + 1)) (cz_mI m (p + 8) t (nI L[k])) else if m.1 (p + 8) t ≤ nI L[k] then rec (nI (k + 1)) m else rec (nI (k + 1)) (cz_mI m (p + 8) t (nI L[k])) := by
        intro rec
        rw [f_X2_findHeadsIn_L2, eq, hr1, if_neg (nI_ge hk (by omega)), cz_gdn (by omega) (by decide), cz_cl (by omega), eq1, hr2 k hk, cz_lt_e, cz_gdn hi40 (by decide), cz_cl (by omega), eqi, hMt, cz_lt_e, cz_gdn ht (by decide), cz_cl (by omega)]
        repeat rw [cz_gdn ht (by decide)]
        simp only [cz_lt_e, nI_add]
      by_cases h6 : m.1 (p + 8) t = (-6 : Int32)
      · rw [if_pos h6] at hs
        exact ⟨_, fun rec => by rw [hst2, if_pos h6], by rw [cz_mI_s]; exact hs, i2.tr (cz_fr.mI rfl)⟩
      · rw [if_neg h6] at hs
        by_cases hle : m.1 (p + 8) t ≤ nI L[k]
        · rw [if_pos hle] at hs
          exact ⟨m, fun rec => by rw [hst2, if_neg h6, if_pos hle], hs, i2⟩
        · rw [if_neg hle] at hs
          exact ⟨_, fun rec => by rw [hst2, if_neg h6, if_neg hle], by rw [cz_mI_s]; exact hs, i2.tr (cz_fr.mI rfl)⟩)
    (fun m hI rec => by
      have eq : m.1 q = M.1 q := (hI.2.1 q hq).1
      rw [f_X2_findHeadsIn_L2, eq, hr1, if_pos (nI_le (Nat.le_refl _) (by omega))]) L.length 0 M 4096 (by omega) (by omega) ⟨by simpa using hh, cz_fr.rf⟩
  rw [List.take_length] at h1
  exact ⟨M', h, h1, h2⟩
theorem cz_rr_fr {M M' : cz_M} {D : Nat → Prop} {q : Nat} {L : List Nat} (h : cz_fr D M M') (h1 : ¬ D q) (h2 : ¬ D (q + 1)) (hr : cz_rr M q L) : cz_rr M' q L := by
  unfold cz_rr at hr ⊢
  rw [(h.1 q h1).1, (h.1 (q + 1) h2).1]
  exact hr
set_option maxHeartbeats 1000000 in
theorem c_findHeads (M : cz_M) (p : Nat) {s : Nat → Int32} {n W T : Nat} {R : Nat → List Nat} (om : cz_om s n W T R) (rp : cz_rp M p s n R) :
    ∃ M', f_X2_findHeads M p = some M' ∧ cz_hd (M'.1 (p + 8)) s (R 0 ++ R 1) ∧ cz_fr (fun x => x = p + 8) M M' := by
  obtain ⟨⟨hn, -⟩, -, -, -, hrw, hle, -⟩ := om
  obtain ⟨-, -, -, -, prr, prl⟩ := rp
  have hrow : ∀ r, r < 2 → (R r).length ≤ 40 ∧ ∀ (M1 : cz_M), cz_fr (fun x => x = p + 8) M M1 → ∀ i ∈ R r, i < 40 ∧ ∃ t, t < 5 ∧ s (111 + 11 * i) = nI t ∧ M1.1 (p + 4 + (9 + i)) 0 = nI t := by
    intro r hr
    obtain ⟨l1, l2, l3, l4, l5⟩ := hrw r hr
    refine ⟨l2, fun M1 hM1 i hi => ?_⟩
    have h5 := l5 i hi
    obtain ⟨t, ht, hst⟩ := (hle i h5.1).2.1
    refine ⟨by omega, t, ht, hst, ?_⟩
    rw [(hM1.1 _ (by omega)).1, (prl i h5.1).1]
    exact hst
  rw [f_X2_findHeads]
  obtain ⟨M1, ⟨h1, h2⟩, h⟩ := cz_for2 (F := f_X2_findHeads_L2 p (fun x6 M7 => cz_it2 (f_X2_findHeads_L23 p (fun x14 M15 => some M15)) 4096 (nI 0) M7)) (fun k (m : cz_M) => (∀ t, t < k → m.1 (p + 8) t = (-6 : Int32)) ∧ cz_fr (fun x => x = p + 8) M m) (fun m => cz_it2 (f_X2_findHeads_L23 p (fun x14 M15 => some M15)) 4096 (nI 0) m) 5
    (fun k m hk ⟨i1, i2⟩ => by
      refine ⟨cz_mI m (p + 8) k (-6 : Int32), fun rec => ?_, fun t ht => ?_, i2.tr (cz_fr.mI rfl)⟩
      · rw [f_X2_findHeads_L2, if_neg (nI_ge hk (by decide)), cz_gdn hk (by decide), cz_cl (by omega), cz_lt_e, cz_lt_e, nI_add]
      · rw [cz_mI_s]
        by_cases htk : t = k
        · subst htk; exact pk_us
        · rw [pk_un htk]; exact i1 t (by omega))
    (fun m hI rec => by rw [f_X2_findHeads_L2, if_pos (nI_le (Nat.le_refl _) (by decide))]) 5 0 M 4096 (by omega) (by omega) ⟨fun t ht => by omega, cz_fr.rf⟩
  rw [h]
  have hd0 : cz_hd (M1.1 (p + 8)) s [] := fun t ht => Or.inl ⟨h1 t ht, fun i hi => absurd hi (List.not_mem_nil)⟩
  obtain ⟨M2, f2, g2, e2⟩ := c_findHeadsIn M1 p (p + 5 + (48 + 2 * 0)) (P := []) (L := R 0) (by omega) (by omega) (cz_rr_fr h2 (by omega) (by omega) (prr 0 (by decide))) (hrow 0 (by decide)).1 ((hrow 0 (by decide)).2 M1 h2) (fun j hj => absurd hj (List.not_mem_nil)) hd0
  rw [List.nil_append] at g2
  have h2b := h2.tr e2
  obtain ⟨M3, f3, g3, e3⟩ := c_findHeadsIn M2 p (p + 5 + (48 + 2 * 1)) (P := R 0) (L := R 1) (by omega) (by omega) (cz_rr_fr h2b (by omega) (by omega) (prr 1 (by decide))) (hrow 1 (by decide)).1 ((hrow 1 (by decide)).2 M2 h2b) (fun j hj => ((hrow 0 (by decide)).2 M2 h2b j hj).1) g2
  refine ⟨M3, ?_, g3, h2b.tr e3⟩
  show f_X2_findHeads_L23 p (fun x14 M15 => some M15) (cz_it2 (f_X2_findHeads_L23 p (fun x14 M15 => some M15)) 4095) (nI 0) M1 = _
  rw [f_X2_findHeads_L23, if_neg (nI_ge (by decide) (by decide)), cz_gdn (by decide) (by decide), cz_cl (by decide), f2, Option.bind_some, cz_lt_e, nI_add]
  show f_X2_findHeads_L23 p (fun x14 M15 => some M15) (cz_it2 (f_X2_findHeads_L23 p (fun x14 M15 => some M15)) 4094) (nI 1) M2 = _
  rw [f_X2_findHeads_L23, if_neg (nI_ge (by decide) (by decide)), cz_gdn (by decide) (by decide), cz_cl (by decide), f3, Option.bind_some, cz_lt_e, nI_add]
  show f_X2_findHeads_L23 p (fun x14 M15 => some M15) (cz_it2 (f_X2_findHeads_L23 p (fun x14 M15 => some M15)) 4093) (nI 2) M3 = _
  rw [f_X2_findHeads_L23, if_pos (nI_le (Nat.le_refl _) (by decide))]
/-- a letter is the first one that waits in its thread, or it is barred -/
theorem cz_hd_bar {H s : Nat → Int32} {n W T : Nat} {R : Nat → List Nat} (om : cz_om s n W T R) (hd : cz_hd H s (R 0 ++ R 1)) {r i t : Nat} (hr : r < 2) (hi : i ∈ R r) (ht : t < 5) (hst : s (111 + 11 * i) = nI t) : H t = nI i ↔ ¬ cz_bar s (cz_wt s) i := by
  obtain ⟨⟨hn, -⟩, -, -, -, hrw, hle, -⟩ := om
  have hin : ∀ x, x < 2 → ∀ j, j ∈ R x → j ∈ R 0 ++ R 1 := fun x hx j hj => by
    rcases (show x = 0 ∨ x = 1 by omega) with rfl | rfl
    · exact List.mem_append_left _ hj
    · exact List.mem_append_right _ hj
  have hout : ∀ j, j ∈ R 0 ++ R 1 → j < n ∧ s (111 + 11 * j + 2) = nI 0 := fun j hj => by
    rcases List.mem_append.mp hj with hj | hj
    · have := (hrw 0 (by decide)).2.2.2.2 j hj; exact ⟨this.1, this.2.2⟩
    · have := (hrw 1 (by decide)).2.2.2.2 j hj; exact ⟨this.1, this.2.2⟩
  have hi2 := hin r hr i hi
  have hin40 := (hout i hi2).1
  rcases hd t ht with ⟨h1, h2⟩ | ⟨k, h1, h2, h3, h4⟩
  · exact absurd hst (h2 i hi2)
  · have hk := hout k h1
    rw [h3]
    constructor
    · rintro he ⟨j, hj, hj1, hj2⟩
      have he := cz_nI_inj (by omega) (by omega) he
      subst he
      have hj0 : s (111 + 11 * j + 2) = nI 0 := by
        unfold cz_wt at hj2
        split at hj2
        · assumption
        · exact absurd hj2 (by decide)
      obtain ⟨x, hx, hx1, hx2⟩ := (hle j (by omega)).2.2.1
      have := h4 j (hin x hx j (hx2 hj0)) (hj1.trans hst)
      omega
    · intro hb
      have hki := h4 i hi2 hst
      by_cases he : k = i
      · rw [he]
      · exact absurd ⟨k, by omega, h2.trans hst.symm, by unfold cz_wt; rw [if_pos hk.2]⟩ hb
