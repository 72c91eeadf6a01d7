/-- places of the state that no reading changes -/
def cz_kp (j : Nat) : Prop := j < 13 ∨ (13 ≤ j ∧ j < 29 ∧ (j - 13) % 4 = 0) ∨ (29 ≤ j ∧ j < 111) ∨ (111 ≤ j ∧ ((j - 111) % 11 = 0 ∨ (j - 111) % 11 = 1 ∨ (j - 111) % 11 = 3 ∨ (j - 111) % 11 = 4 ∨ (j - 111) % 11 = 8 ∨ (j - 111) % 11 = 9 ∨ (j - 111) % 11 = 10))
theorem cz_rd_kp {s : Nat → Int32} {c i m j : Nat} (hc : c < 4) (hj : cz_kp j) : cz_rd s c i m j = s j := by
  unfold cz_kp at hj
  unfold cz_rd
  split
  · rw [pk_un (by omega), pk_un (by omega), pk_un (by omega), pk_un (by omega)]
  · rw [pk_un (by omega), pk_un (by omega), pk_un (by omega), pk_un (by omega), pk_un (by omega)]
/-- a letter's own places stay, where another letter is read -/
theorem cz_rd_ne {s : Nat → Int32} {c i m j f : Nat} (hc : c < 4) (hf : f < 11) (h : j ≠ i) : cz_rd s c i m (111 + 11 * j + f) = s (111 + 11 * j + f) := by
  unfold cz_rd
  split
  · rw [pk_un (by omega), pk_un (by omega), pk_un (by omega), pk_un (by omega)]
  · rw [pk_un (by omega), pk_un (by omega), pk_un (by omega), pk_un (by omega), pk_un (by omega)]
/-- the words that the censor c would strike in the letter i -/
def cz_ms (s : Nat → Int32) (c i : Nat) : Nat := cz_mk (s (13 + 4 * c)).toNatClampNeg (cz_dig s i) (s (111 + 11 * i + 8)).toNatClampNeg
theorem cz_dig_eq {s s' : Nat → Int32} (h : ∀ j, cz_kp j → s j = s' j) (i k : Nat) (hk : k < 8) : cz_dig s i k = cz_dig s' i k := by
  unfold cz_dig
  rw [h _ (by unfold cz_kp; omega)]
theorem cz_ms_eq {s s' : Nat → Int32} (h : ∀ j, cz_kp j → s j = s' j) {c i : Nat} (hc : c < 4) (hl : (s (111 + 11 * i + 8)).toNatClampNeg ≤ 8) : cz_ms s c i = cz_ms s' c i := by
  unfold cz_ms
  rw [← h (13 + 4 * c) (by unfold cz_kp; omega), ← h (111 + 11 * i + 8) (by unfold cz_kp; omega)]
  exact cz_mk_congr (fun j hj => cz_dig_eq h i j (by omega))
theorem cz_bar_eq {s s' w : Nat → Int32} (h : ∀ j, cz_kp j → s j = s' j) (i : Nat) : cz_bar s w i ↔ cz_bar s' w i := by
  have e : ∀ j, s (111 + 11 * j) = s' (111 + 11 * j) := fun j => h _ (by unfold cz_kp; omega)
  unfold cz_bar
  simp only [e]
/-- one letter of a row: the count of those that were read, the state, who was read -/
def cz_s1 (w : Nat → Int32) (c rdm : Nat) (p : Nat × (Nat → Int32) × (Nat → Int32)) (i : Nat) : Nat × (Nat → Int32) × (Nat → Int32) :=
  if p.1 < rdm ∧ ¬ cz_bar p.2.1 w i then (p.1 + 1, cz_rd p.2.1 c i (cz_ms p.2.1 c i), upd p.2.2 i (nI 1)) else p
def cz_go (w : Nat → Int32) (c rdm : Nat) (l : List Nat) (p : Nat × (Nat → Int32) × (Nat → Int32)) : Nat × (Nat → Int32) × (Nat → Int32) := l.foldl (cz_s1 w c rdm) p
theorem cz_go_snoc (w : Nat → Int32) (c rdm : Nat) (l : List Nat) (i : Nat) (p : Nat × (Nat → Int32) × (Nat → Int32)) : cz_go w c rdm (l ++ [i]) p = cz_s1 w c rdm (cz_go w c rdm l p) i := by
  simp [cz_go, List.foldl_append]
theorem cz_go_kp {w : Nat → Int32} {c rdm : Nat} (hc : c < 4) {j : Nat} (hj : cz_kp j) : ∀ (l : List Nat) (p : Nat × (Nat → Int32) × (Nat → Int32)), (cz_go w c rdm l p).2.1 j = p.2.1 j
  | [], p => rfl
  | i :: l, p => by
    show (cz_go w c rdm l (cz_s1 w c rdm p i)).2.1 j = _
    rw [cz_go_kp hc hj l]
    unfold cz_s1
    split
    · exact cz_rd_kp hc hj
    · rfl
theorem cz_go_le {w : Nat → Int32} {c rdm : Nat} : ∀ (l : List Nat) (p : Nat × (Nat → Int32) × (Nat → Int32)), p.1 ≤ rdm → (cz_go w c rdm l p).1 ≤ rdm
  | [], p, h => h
  | i :: l, p, h => by
    show (cz_go w c rdm l (cz_s1 w c rdm p i)).1 ≤ rdm
    refine cz_go_le l _ ?_
    unfold cz_s1
    split
    · rename_i hh
      exact hh.1
    · exact h
theorem cz_take {l : List Nat} {k : Nat} (h : k < l.length) : l.take (k + 1) = l.take k ++ [l[k]] := List.take_succ_eq_append_getElem h
/-- a letter's numbers are sound -/
def cz_lw (s : Nat → Int32) (i : Nat) : Prop := (∃ l, 1 ≤ l ∧ l ≤ 8 ∧ s (111 + 11 * i + 8) = nI l) ∧ (∃ u, u < 2 ^ 31 ∧ s (111 + 11 * i + 9) = nI u) ∧ (∃ u, u < 2 ^ 31 ∧ s (111 + 11 * i + 10) = nI u)
theorem cz_lw_eq {s s' : Nat → Int32} (h : ∀ j, cz_kp j → s j = s' j) {i : Nat} (hw : cz_lw s i) : cz_lw s' i := by
  unfold cz_lw at hw ⊢
  rw [← h (111 + 11 * i + 8) (by unfold cz_kp; omega), ← h (111 + 11 * i + 9) (by unfold cz_kp; omega), ← h (111 + 11 * i + 10) (by unfold cz_kp; omega)]
  exact hw
theorem m_strikes2 (M : cz_M) (a : Nat) {c i S : Nat} (hc : c < 4) (hi : i < 40) (hS : M.1 (a + 1) (13 + 4 * c) = nI S) (hS2 : S < 2 ^ 26) (hw : cz_lw (M.1 (a + 1)) i) : f_X5_strikes M a (nI c) (nI i) = some (nI (cz_ms (M.1 (a + 1)) c i)) ∧ cz_ms (M.1 (a + 1)) c i < 256 := by
  obtain ⟨⟨l, hl1, hl8, hl⟩, ⟨u, hu2, hu⟩, ⟨v, hv2, hv⟩⟩ := hw
  rw [m_strikes M a hc hi hS hS2 hl hl8 hu hu2 hv hv2]
  unfold cz_ms
  rw [hS, hl, cz_cl (by omega), cz_cl (by omega)]
  exact ⟨rfl, cz_mk_256 _ _ hl8⟩
set_option maxHeartbeats 2000000 in
/-- the reading of one row -/
theorem m_go1 (M : cz_M) (a : Nat) {r c rdm S : Nat} (L : List Nat) (hr : r < 2) (hc : c < 4) (hrd : rdm ≤ 9) (hM0 : M.1 (a + 1) 0 = nI rdm) (hS : M.1 (a + 1) (13 + 4 * c) = nI S) (hS2 : S < 2 ^ 26) (hL : L.length ≤ 40) (hrow : ∀ k (h : k < L.length), M.1 (a + 1) (31 + 40 * r + k) = nI L[k]) (hLi : ∀ i ∈ L, i < 40 ∧ cz_lw (M.1 (a + 1)) i) (hw : ∀ j, j < 40 → M.1 (a + 7) j = nI 0 ∨ M.1 (a + 7) j = nI 1) (K : Int32 → Int32 → cz_M → Option cz_M) :
    ∃ M', cz_it3 (f_X5_goesThrough_L22 a (nI r) (nI c) (nI L.length) K) 4096 (nI 0) (nI 0) M = K (nI (cz_go (M.1 (a + 7)) c rdm L (0, M.1 (a + 1), M.1 (a + 8))).1) (nI L.length) M' ∧ M'.1 (a + 1) = (cz_go (M.1 (a + 7)) c rdm L (0, M.1 (a + 1), M.1 (a + 8))).2.1 ∧ M'.1 (a + 8) = (cz_go (M.1 (a + 7)) c rdm L (0, M.1 (a + 1), M.1 (a + 8))).2.2 ∧ cz_fr (fun x => x = a + 1 ∨ x = a + 8) M M' := by
  obtain ⟨s', t', ⟨h1, h2, h3, h4⟩, h⟩ := cz_for3 (F := f_X5_goesThrough_L22 a (nI r) (nI c) (nI L.length) K) (fun k (s : Int32) (t : cz_M) => s = nI (cz_go (M.1 (a + 7)) c rdm (L.take k) (0, M.1 (a + 1), M.1 (a + 8))).1 ∧ t.1 (a + 1) = (cz_go (M.1 (a + 7)) c rdm (L.take k) (0, M.1 (a + 1), M.1 (a + 8))).2.1 ∧ t.1 (a + 8) = (cz_go (M.1 (a + 7)) c rdm (L.take k) (0, M.1 (a + 1), M.1 (a + 8))).2.2 ∧ cz_fr (fun x => x = a + 1 ∨ x = a + 8) M t) (fun s t => K s (nI L.length) t) L.length
    (fun k s t hk ⟨i1, i2, i3, i4⟩ => by
      subst i1
      have hq := cz_go_le (w := M.1 (a + 7)) (c := c) (rdm := rdm) (L.take k) (0, M.1 (a + 1), M.1 (a + 8)) (Nat.zero_le _)
      have hkp : ∀ j, cz_kp j → M.1 (a + 1) j = t.1 (a + 1) j := fun j hj => by rw [i2]; exact (cz_go_kp hc hj (L.take k) (0, M.1 (a + 1), M.1 (a + 8))).symm
      have h7 : t.1 (a + 7) = M.1 (a + 7) := (i4.1 (a + 7) (by omega)).1
      have hLk := hLi L[k] (List.getElem_mem hk)
      have e0 : t.1 (a + 1) 0 = nI rdm := by rw [← hkp 0 (by unfold cz_kp; omega)]; exact hM0
      have erow : t.1 (a + 1) (31 + 40 * r + k) = nI L[k] := by rw [← hkp _ (by unfold cz_kp; omega)]; exact hrow k hk
      have eS : t.1 (a + 1) (13 + 4 * c) = nI S := by rw [← hkp _ (by unfold cz_kp; omega)]; exact hS
      rw [cz_take hk]
      simp only [cz_go_snoc]
      generalize hp : cz_go (M.1 (a + 7)) c rdm (L.take k) (0, M.1 (a + 1), M.1 (a + 8)) = p at hq i2 i3 ⊢
      obtain ⟨q, s2, u2⟩ := p
      dsimp only at hq i2 i3 ⊢
      have hst : ∀ rec, f_X5_goesThrough_L22 a (nI r) (nI c) (nI L.length) K rec (nI q) (nI k) t = if rdm ≤ q then rec (nI q) (nI (k + 1)) t else ((f_X5_isBarred t a (nI L[k])).bind fun v12 => if v12 = nI 0 then ((f_X5_reads t a (nI c) (nI L[k])).bind fun M16 => rec (nI (q + 1)) (nI (k + 1)) M16) else rec (nI q) (nI (k + 1)) t) := by
        intro rec
        rw [f_X5_goesThrough_L22, if_neg (nI_ge hk (by omega)), m_inRow, Option.bind_some, cz_gdn (by omega) (by decide), cz_cl (by omega), erow, cz_lt_e, cz_gdn (by decide) (by decide), cz_cl (by decide), e0]
        by_cases hqr : rdm ≤ q
        · rw [if_pos (nI_le hqr (by omega)), if_pos hqr, cz_lt_e, nI_add]
        · rw [if_neg (nI_ge (by omega) (by omega)), if_neg hqr]
          simp only [cz_lt_e, nI_add]
      have h10 : nI 1 ≠ nI 0 := by decide
      by_cases hqr : rdm ≤ q
      · refine ⟨nI q, t, fun rec => by rw [hst rec, if_pos hqr], ?_, ?_, ?_, i4⟩
        all_goals
          unfold cz_s1
          rw [if_neg (fun z => by have := z.1; dsimp only at this; omega)]
        · exact i2
        · exact i3
      · rcases m_isBarred t a hLk.1 (fun j hj => by rw [h7]; exact hw j (by omega)) with ⟨hb, hbe⟩ | ⟨hb, hbe⟩
        · rw [h7, i2] at hb
          refine ⟨nI q, t, fun rec => by rw [hst rec, if_neg hqr, hbe, Option.bind_some, if_neg h10], ?_, ?_, ?_, i4⟩
          all_goals
            unfold cz_s1
            rw [if_neg (fun z => z.2 hb)]
          · exact i2
          · exact i3
        · rw [h7, i2] at hb
          obtain ⟨hsk, hsl⟩ := m_strikes2 t a hc hLk.1 eS hS2 (cz_lw_eq hkp hLk.2)
          obtain ⟨M', hr1, hr2, hr3, hr4⟩ := m_reads t a hc hLk.1 hsl hsk
          refine ⟨nI (q + 1), M', fun rec => by rw [hst rec, if_neg hqr, hbe, Option.bind_some, if_pos rfl, hr1, Option.bind_some], ?_, ?_, ?_, i4.tr hr4⟩
          all_goals
            unfold cz_s1
            rw [if_pos ⟨by dsimp only; omega, hb⟩]
          · dsimp only
            rw [hr2, i2]
          · dsimp only
            rw [hr3, i3])
    (fun s t hI rec => by rw [f_X5_goesThrough_L22, if_pos (nI_le (Nat.le_refl _) (by omega))]) L.length 0 (nI 0) M 4096 (by omega) (by omega) ⟨by simp [cz_go], by simp [cz_go], by simp [cz_go], cz_fr.rf⟩
  rw [List.take_length] at h1 h2 h3
  exact ⟨t', by rw [h, h1], h2, h3, h4⟩
