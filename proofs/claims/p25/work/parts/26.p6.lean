/-! a week of the reference -/
theorem cz_bar_w {s w w' : Nat → Int32} {i : Nat} (h : ∀ j, j < i → w j = w' j) : cz_bar s w i ↔ cz_bar s w' i := by
  unfold cz_bar
  constructor
  · rintro ⟨j, h1, h2, h3⟩; exact ⟨j, h1, h2, by rw [← h j h1]; exact h3⟩
  · rintro ⟨j, h1, h2, h3⟩; exact ⟨j, h1, h2, by rw [h j h1]; exact h3⟩
theorem cz_go_congr {w w' : Nat → Int32} {c rdm n : Nat} (hw : ∀ j, j < n → w j = w' j) : ∀ (l : List Nat) (q : Nat) (s u u' : Nat → Int32), (∀ i ∈ l, i < n) → (∀ j, j < n → u j = u' j) →
    (cz_go w c rdm l (q, s, u)).1 = (cz_go w' c rdm l (q, s, u')).1 ∧ (cz_go w c rdm l (q, s, u)).2.1 = (cz_go w' c rdm l (q, s, u')).2.1 ∧ ∀ j, j < n → (cz_go w c rdm l (q, s, u)).2.2 j = (cz_go w' c rdm l (q, s, u')).2.2 j
  | [], q, s, u, u', _, hu => ⟨rfl, rfl, hu⟩
  | i :: l, q, s, u, u', hl, hu => by
    have hi := hl i List.mem_cons_self
    have hl2 : ∀ k ∈ l, k < n := fun k hk => hl k (List.mem_cons_of_mem _ hk)
    show (cz_go w c rdm l (cz_s1 w c rdm (q, s, u) i)).1 = (cz_go w' c rdm l (cz_s1 w' c rdm (q, s, u') i)).1 ∧ (cz_go w c rdm l (cz_s1 w c rdm (q, s, u) i)).2.1 = (cz_go w' c rdm l (cz_s1 w' c rdm (q, s, u') i)).2.1 ∧ ∀ j, j < n → (cz_go w c rdm l (cz_s1 w c rdm (q, s, u) i)).2.2 j = (cz_go w' c rdm l (cz_s1 w' c rdm (q, s, u') i)).2.2 j
    have hb : cz_bar s w i ↔ cz_bar s w' i := cz_bar_w (fun j hj => hw j (by omega))
    unfold cz_s1
    by_cases h : q < rdm ∧ ¬ cz_bar s w i
    · rw [if_pos h, if_pos ⟨h.1, fun z => h.2 (hb.mpr z)⟩]
      refine cz_go_congr hw l _ _ _ _ hl2 (fun j hj => ?_)
      by_cases hji : j = i
      · subst hji; rw [pk_us, pk_us]
      · rw [pk_un hji, pk_un hji]; exact hu j hj
    · rw [if_neg h, if_neg (fun z => h ⟨z.1, fun y => z.2 (hb.mp y)⟩)]
      exact cz_go_congr hw l _ _ _ _ hl2 hu
theorem cz_nl_congr {s u u' : Nat → Int32} {L : List Nat} (h : ∀ i ∈ L, u i = u' i) : cz_nl s u L = cz_nl s u' L := by
  unfold cz_nl
  congr 1 <;>
  · apply List.filter_congr
    intro i hi
    unfold cz_pb
    rw [h i hi]
theorem cz_gt_congr {w w' : Nat → Int32} {r c rdm n : Nat} (hw : ∀ j, j < n → w j = w' j) {L : List Nat} {s u u' : Nat → Int32} (hl : ∀ i ∈ L, i < n) (hu : ∀ j, j < n → u j = u' j) :
    (cz_gt w r c rdm L (s, u)).1 = (cz_gt w' r c rdm L (s, u')).1 ∧ ∀ j, j < n → (cz_gt w r c rdm L (s, u)).2 j = (cz_gt w' r c rdm L (s, u')).2 j := by
  obtain ⟨h1, h2, h3⟩ := cz_go_congr (c := c) (rdm := rdm) hw L 0 s u u' hl hu
  unfold cz_gt
  dsimp only
  rw [h2, cz_nl_congr (fun i hi => h3 i (hl i hi))]
  exact ⟨rfl, h3⟩
/-- who waits as the week begins -/
def cz_wt (s : Nat → Int32) : Nat → Int32 := fun j => if s (111 + 11 * j + 2) = nI 0 then nI 1 else nI 0
/-- what the two censors do -/
def cz_wa (s : Nat → Int32) (c0 c1 rdm : Nat) (L0 L1 : List Nat) : (Nat → Int32) × (Nat → Int32) := cz_gt (cz_wt s) 1 c1 rdm L1 (cz_gt (cz_wt s) 0 c0 rdm L0 (s, fun _ => nI 0))
/-- at the end of the week those that were let through come -/
def cz_fi (s : Nat → Int32) (k : Nat) : Nat → Int32 := fun j => if 111 ≤ j ∧ j < 111 + 11 * k ∧ s (111 + 11 * ((j - 111) / 11) + 2) = nI 3 then (if (j - 111) % 11 = 2 then nI 1 else if (j - 111) % 11 = 4 then s 3 - s (111 + 11 * ((j - 111) / 11) + 3) else s j) else s j
def cz_cn (s : Nat → Int32) : Nat → Nat
  | 0 => 0
  | k + 1 => cz_cn s k + (if s (111 + 11 * k + 2) = nI 3 then 1 else 0)
theorem cz_cn_le (s : Nat → Int32) : ∀ k, cz_cn s k ≤ k
  | 0 => Nat.le_refl _
  | k + 1 => by
    have := cz_cn_le s k
    rw [cz_cn]
    split <;> omega
def cz_wk (s : Nat → Int32) (n c0 c1 rdm : Nat) (L0 L1 : List Nat) : Nat → Int32 := cz_fi (upd (cz_wa s c0 c1 rdm L0 L1).1 3 ((cz_wa s c0 c1 rdm L0 L1).1 3 + nI 1)) n
theorem cz_fi_p {s : Nat → Int32} {k j : Nat} (h : 111 ≤ j ∧ j < 111 + 11 * k ∧ s (111 + 11 * ((j - 111) / 11) + 2) = nI 3) : cz_fi s k j = if (j - 111) % 11 = 2 then nI 1 else if (j - 111) % 11 = 4 then s 3 - s (111 + 11 * ((j - 111) / 11) + 3) else s j := if_pos h
theorem cz_fi_q {s : Nat → Int32} {k j : Nat} (h : ¬ (111 ≤ j ∧ j < 111 + 11 * k ∧ s (111 + 11 * ((j - 111) / 11) + 2) = nI 3)) : cz_fi s k j = s j := if_neg h
theorem cz_fi_0 (s : Nat → Int32) : cz_fi s 0 = s := by
  funext j
  exact cz_fi_q (by omega)
theorem cz_fi_n (s : Nat → Int32) (k : Nat) (h : ¬ s (111 + 11 * k + 2) = nI 3) : cz_fi s (k + 1) = cz_fi s k := by
  funext j
  by_cases h1 : 111 ≤ j ∧ j < 111 + 11 * k ∧ s (111 + 11 * ((j - 111) / 11) + 2) = nI 3
  · rw [cz_fi_p ⟨h1.1, by omega, h1.2.2⟩, cz_fi_p h1]
  · rw [cz_fi_q h1, cz_fi_q]
    rintro ⟨h2, h3, h4⟩
    by_cases h5 : j < 111 + 11 * k
    · exact h1 ⟨h2, h5, h4⟩
    · rw [show (j - 111) / 11 = k by omega] at h4
      exact h h4
theorem cz_fi_y (s : Nat → Int32) (k : Nat) (h : s (111 + 11 * k + 2) = nI 3) : upd (upd (cz_fi s k) (111 + 11 * k + 2) (nI 1)) (111 + 11 * k + 4) (s 3 - s (111 + 11 * k + 3)) = cz_fi s (k + 1) := by
  funext j
  by_cases h4 : j = 111 + 11 * k + 4
  · subst h4
    have e1 : (111 + 11 * k + 4 - 111) / 11 = k := by omega
    have e2 : (111 + 11 * k + 4 - 111) % 11 = 4 := by omega
    rw [pk_us, cz_fi_p ⟨by omega, by omega, by rw [e1]; exact h⟩, e1, e2, if_neg (by decide), if_pos rfl]
  · rw [pk_un h4]
    by_cases h2 : j = 111 + 11 * k + 2
    · subst h2
      have e1 : (111 + 11 * k + 2 - 111) / 11 = k := by omega
      have e2 : (111 + 11 * k + 2 - 111) % 11 = 2 := by omega
      rw [pk_us, cz_fi_p ⟨by omega, by omega, by rw [e1]; exact h⟩, e2, if_pos rfl]
    · rw [pk_un h2]
      by_cases h1 : 111 ≤ j ∧ j < 111 + 11 * k ∧ s (111 + 11 * ((j - 111) / 11) + 2) = nI 3
      · rw [cz_fi_p h1, cz_fi_p ⟨h1.1, by omega, h1.2.2⟩]
      · rw [cz_fi_q h1]
        by_cases h5 : 111 ≤ j ∧ j < 111 + 11 * (k + 1) ∧ s (111 + 11 * ((j - 111) / 11) + 2) = nI 3
        · rw [cz_fi_p h5]
          have h6 : ¬ j < 111 + 11 * k := fun z => h1 ⟨h5.1, z, h5.2.2⟩
          rw [if_neg (by omega), if_neg (by omega)]
        · rw [cz_fi_q h5]
/-- the end of the week leaves letters' other places -/
theorem cz_fi_o (s : Nat → Int32) (k j : Nat) (h : j < 111 ∨ ((j - 111) % 11 ≠ 2 ∧ (j - 111) % 11 ≠ 4) ∨ 111 + 11 * k ≤ j) : cz_fi s k j = s j := by
  by_cases h5 : 111 ≤ j ∧ j < 111 + 11 * k ∧ s (111 + 11 * ((j - 111) / 11) + 2) = nI 3
  · rw [cz_fi_p h5, if_neg (by omega), if_neg (by omega)]
  · rw [cz_fi_q h5]
set_option maxHeartbeats 2000000 in
theorem m_wk1 (M : cz_M) (a : Nat) {n : Nat} (hn : n ≤ 40) (hM4 : M.1 (a + 1) 4 = nI n) (K : Int32 → cz_M → Option (Int32 × cz_M)) :
    ∃ M', cz_it2 (f_X5_week_L2 a K) 4096 (nI 0) M = K (nI n) M' ∧ (∀ j, j < n → M'.1 (a + 7) j = cz_wt (M.1 (a + 1)) j) ∧ (∀ j, j < n → M'.1 (a + 8) j = nI 0) ∧ (∀ j, n ≤ j → M'.1 (a + 7) j = M.1 (a + 7) j ∧ M'.1 (a + 8) j = M.1 (a + 8) j) ∧ cz_fr (fun x => x = a + 7 ∨ x = a + 8) M M' := by
  obtain ⟨t', ⟨h1, h2, h3, h4⟩, h⟩ := cz_for2 (F := f_X5_week_L2 a K) (fun k (m : cz_M) => (∀ j, j < k → m.1 (a + 7) j = cz_wt (M.1 (a + 1)) j) ∧ (∀ j, j < k → m.1 (a + 8) j = nI 0) ∧ (∀ j, k ≤ j → m.1 (a + 7) j = M.1 (a + 7) j ∧ m.1 (a + 8) j = M.1 (a + 8) j) ∧ cz_fr (fun x => x = a + 7 ∨ x = a + 8) M m) (fun m => K (nI n) m) n
    (fun k m hk ⟨i1, i2, i3, i4⟩ => by
      have e1 : m.1 (a + 1) = M.1 (a + 1) := (i4.1 (a + 1) (by omega)).1
      refine ⟨cz_mI (cz_mI m (a + 7) k (cz_wt (M.1 (a + 1)) k)) (a + 8) k (nI 0), fun rec => ?_, fun j hj => ?_, fun j hj => ?_, fun j hj => ?_, i4.tr ((cz_fr.mI (Or.inl rfl)).tr (cz_fr.mI (Or.inr rfl)))⟩
      · rw [f_X5_week_L2, cz_gdn (by decide) (by decide), cz_cl (by decide), e1, hM4, if_neg (nI_ge hk (by omega)), m_of m a (by omega) (by decide), Option.bind_some, e1]
        unfold cz_wt
        by_cases h0 : M.1 (a + 1) (111 + 11 * k + 2) = nI 0
        · rw [if_pos h0, if_pos h0, cz_gdn (by omega) (by decide), cz_zb1, cz_lt_e, cz_gdn (by omega) (by decide), cz_zb0, cz_lt_e, cz_lt_e, cz_cl (by omega), nI_add]
        · rw [if_neg h0, if_neg h0, cz_gdn (by omega) (by decide), cz_zb0, cz_lt_e, cz_gdn (by omega) (by decide), cz_zb0, cz_lt_e, cz_lt_e, cz_cl (by omega), nI_add]
      · rw [cz_mI_o (by omega), cz_mI_s]
        by_cases hjk : j = k
        · subst hjk; rw [pk_us]
        · rw [pk_un hjk]; exact i1 j (by omega)
      · rw [cz_mI_s, cz_mI_o (by omega)]
        by_cases hjk : j = k
        · subst hjk; rw [pk_us]
        · rw [pk_un hjk]; exact i2 j (by omega)
      · exact ⟨by rw [cz_mI_o (by omega), cz_mI_s, pk_un (by omega)]; exact (i3 j (by omega)).1, by rw [cz_mI_s, pk_un (by omega), cz_mI_o (by omega)]; exact (i3 j (by omega)).2⟩)
    (fun m hI rec => by
      have e1 : m.1 (a + 1) = M.1 (a + 1) := (hI.2.2.2.1 (a + 1) (by omega)).1
      rw [f_X5_week_L2, cz_gdn (by decide) (by decide), cz_cl (by decide), e1, hM4, if_pos (nI_le (Nat.le_refl _) (by omega))]) n 0 M 4096 (by omega) (by omega) ⟨fun j hj => by omega, fun j hj => by omega, fun j hj => ⟨rfl, rfl⟩, cz_fr.rf⟩
  exact ⟨t', h, h1, h2, h3, h4⟩
set_option maxHeartbeats 2000000 in
theorem m_wk2 (M : cz_M) (a : Nat) {n : Nat} (hn : n ≤ 40) (hM4 : M.1 (a + 1) 4 = nI n) (K : Int32 → Int32 → cz_M → Option (Int32 × cz_M)) :
    ∃ M', cz_it3 (f_X5_week_L69 a K) 4096 (nI 0) (nI 0) M = K (nI (cz_cn (M.1 (a + 1)) n)) (nI n) M' ∧ M'.1 (a + 1) = cz_fi (M.1 (a + 1)) n ∧ cz_fr (fun x => x = a + 1) M M' := by
  obtain ⟨s', t', ⟨h1, h2, h3⟩, h⟩ := cz_for3 (F := f_X5_week_L69 a K) (fun k (s : Int32) (m : cz_M) => s = nI (cz_cn (M.1 (a + 1)) k) ∧ m.1 (a + 1) = cz_fi (M.1 (a + 1)) k ∧ cz_fr (fun x => x = a + 1) M m) (fun s m => K s (nI n) m) n
    (fun k s m hk ⟨i1, i2, i3⟩ => by
      subst i1
      have e4 : m.1 (a + 1) 4 = nI n := by rw [i2, cz_fi_o _ _ _ (by omega)]; exact hM4
      have es : m.1 (a + 1) (111 + 11 * k + 2) = M.1 (a + 1) (111 + 11 * k + 2) := by rw [i2, cz_fi_o _ _ _ (by omega)]
      have e3 : m.1 (a + 1) (111 + 11 * k + 3) = M.1 (a + 1) (111 + 11 * k + 3) := by rw [i2, cz_fi_o _ _ _ (by omega)]
      have ew : m.1 (a + 1) 3 = M.1 (a + 1) 3 := by rw [i2, cz_fi_o _ _ _ (by omega)]
      have hst : ∀ rec, f_X5_week_L69 a K rec (nI (cz_cn (M.1 (a + 1)) k)) (nI k) m = if M.1 (a + 1) (111 + 11 * k + 2) = nI 3 then rec (nI (cz_cn (M.1 (a + 1)) k + 1)) (nI (k + 1)) (cz_mI (cz_mI m (a + 1) (111 + 11 * k + 2) (nI 1)) (a + 1) (111 + 11 * k + 4) (M.1 (a + 1) 3 - M.1 (a + 1) (111 + 11 * k + 3))) else rec (nI (cz_cn (M.1 (a + 1)) k)) (nI (k + 1)) m := by
        intro rec
        rw [f_X5_week_L69, cz_gdn (by decide) (by decide), cz_cl (by decide), e4, if_neg (nI_ge hk (by omega)), m_of m a (by omega) (by decide), Option.bind_some, es]
        by_cases h0 : M.1 (a + 1) (111 + 11 * k + 2) = nI 3
        · rw [if_pos h0, if_pos h0, m_at, Option.bind_some, cz_gdn (by omega) (by decide), cz_cl (by omega), cz_lt_e, m_at, Option.bind_some, cz_gdn (by omega) (by decide), cz_cl (by omega), m_of _ _ (by omega) (by decide), Option.bind_some, cz_gdn (by omega) (by decide), cz_cl (by omega), cz_lt_e, cz_lt_e, cz_lt_e, nI_add, nI_add, cz_mI_s, pk_un (by omega), pk_un (by omega), ew, e3]
        · rw [if_neg h0, if_neg h0, cz_lt_e, nI_add]
      by_cases h0 : M.1 (a + 1) (111 + 11 * k + 2) = nI 3
      · refine ⟨nI (cz_cn (M.1 (a + 1)) k + 1), cz_mI (cz_mI m (a + 1) (111 + 11 * k + 2) (nI 1)) (a + 1) (111 + 11 * k + 4) (M.1 (a + 1) 3 - M.1 (a + 1) (111 + 11 * k + 3)), fun rec => by rw [hst rec, if_pos h0], by rw [cz_cn, if_pos h0], ?_, i3.tr ((cz_fr.mI (D := fun x => x = a + 1) rfl).tr (cz_fr.mI (D := fun x => x = a + 1) rfl))⟩
        rw [cz_mI_s, cz_mI_s, i2, cz_fi_y _ _ h0]
      · exact ⟨nI (cz_cn (M.1 (a + 1)) k), m, fun rec => by rw [hst rec, if_neg h0], by rw [cz_cn, if_neg h0]; rfl, by rw [i2, cz_fi_n _ _ h0], i3⟩)
    (fun s m hI rec => by
      have e4 : m.1 (a + 1) 4 = nI n := by rw [hI.2.1, cz_fi_o _ _ _ (by omega)]; exact hM4
      rw [f_X5_week_L69, cz_gdn (by decide) (by decide), cz_cl (by decide), e4, if_pos (nI_le (Nat.le_refl _) (by omega))]) n 0 (nI 0) M 4096 (by omega) (by omega) ⟨rfl, by rw [cz_fi_0], cz_fr.rf⟩
  exact ⟨t', by rw [h, h1], h2, h3⟩
