/-- the row that stays -/
def cz_nl (s u : Nat → Int32) (L : List Nat) : List Nat := L.filter (cz_pb s u 0) ++ L.filter (cz_pb s u 1)
theorem cz_pb_x {s u : Nat → Int32} (i : Nat) : ¬ (cz_pb s u 0 i = true ∧ cz_pb s u 1 i = true) := by
  rintro ⟨h1, h2⟩
  have e1 := (cz_pb_t.mp h1).2
  have e2 := (cz_pb_t.mp h2).2
  rw [e1] at e2
  exact absurd e2 (by decide)
theorem cz_nl_len (s u : Nat → Int32) (L : List Nat) : (cz_nl s u L).length ≤ L.length := by
  rw [cz_nl, List.length_append]
  exact cz_fl L (fun i _ => cz_pb_x i)
set_option maxHeartbeats 2000000 in
theorem m_go3 (M : cz_M) (a : Nat) {r : Nat} (L : List Nat) (hr : r < 2) (hL : L.length ≤ 40) (hrow : ∀ k (h : k < L.length), M.1 (a + 1) (31 + 40 * r + k) = nI L[k]) (hLi : ∀ i ∈ L, i < 40) (hu : ∀ i ∈ L, M.1 (a + 8) i = nI 0 ∨ M.1 (a + 8) i = nI 1) (K : Int32 → Int32 → cz_M → Option cz_M) :
    ∃ M', cz_it3 (f_X5_goesThrough_L83 a (nI r) (nI L.length) K) 4096 (nI 0) (nI 0) M = K (nI (cz_nl (M.1 (a + 1)) (M.1 (a + 8)) L).length) (nI 2) M' ∧ cz_ar (M'.1 (a + 9)) (cz_nl (M.1 (a + 1)) (M.1 (a + 8)) L) ∧ cz_fr (fun x => x = a + 9) M M' := by
  have hfl : ∀ t k (h : k < L.length), cz_pb (M.1 (a + 1)) (M.1 (a + 8)) t L[k] = true → ((L.take k).filter (cz_pb (M.1 (a + 1)) (M.1 (a + 8)) t)).length + 1 ≤ (L.filter (cz_pb (M.1 (a + 1)) (M.1 (a + 8)) t)).length := by
    intro t k h hp
    have h1 := cz_tk (p := cz_pb (M.1 (a + 1)) (M.1 (a + 8)) t) L (k + 1)
    rw [cz_tk1 h, if_pos hp, List.length_append, List.length_singleton] at h1
    exact h1
  have hsum := cz_fl (p := cz_pb (M.1 (a + 1)) (M.1 (a + 8)) 0) (q := cz_pb (M.1 (a + 1)) (M.1 (a + 8)) 1) L (fun i _ => cz_pb_x i)
  obtain ⟨M1, f1, g1, r1⟩ := m_go2 M a (t := 0) L [] hr (by decide) hL hrow hLi hu (fun k h => absurd h (by simp)) (fun k h hp => by rw [List.nil_append]; have := hfl 0 k h hp; omega)
  have e1 : M1.1 (a + 1) = M.1 (a + 1) := (r1.1 (a + 1) (by omega)).1
  have e8 : M1.1 (a + 8) = M.1 (a + 8) := (r1.1 (a + 8) (by omega)).1
  rw [List.nil_append] at g1 f1
  have f1 : ∀ K, cz_it3 (f_X5_goesThrough_L92 a (nI r) (nI L.length) (nI 0) K) 4096 (nI 0) (nI 0) M = K (nI (L.filter (cz_pb (M.1 (a + 1)) (M.1 (a + 8)) 0)).length) (nI L.length) M1 := f1
  obtain ⟨M2, f2, g2, r2⟩ := m_go2 M1 a (t := 1) L (L.filter (cz_pb (M.1 (a + 1)) (M.1 (a + 8)) 0)) hr (by decide) hL (by rw [e1]; exact hrow) hLi (by rw [e8]; exact hu) g1 (fun k h hp => by rw [e1, e8] at hp ⊢; rw [List.length_append]; have := hfl 1 k h hp; omega)
  rw [e1, e8] at g2 f2
  refine ⟨M2, ?_, g2, r1.tr r2⟩
  show f_X5_goesThrough_L83 a (nI r) (nI L.length) K (cz_it3 (f_X5_goesThrough_L83 a (nI r) (nI L.length) K) 4095) (nI 0) (nI 0) M = _
  rw [f_X5_goesThrough_L83, if_neg (nI_ge (by decide) (by decide)), f1, cz_lt_e, nI_add]
  show f_X5_goesThrough_L83 a (nI r) (nI L.length) K (cz_it3 (f_X5_goesThrough_L83 a (nI r) (nI L.length) K) 4094) _ (nI 1) M1 = _
  rw [f_X5_goesThrough_L83, if_neg (nI_ge (by decide) (by decide)), f2, cz_lt_e, nI_add]
  show f_X5_goesThrough_L83 a (nI r) (nI L.length) K (cz_it3 (f_X5_goesThrough_L83 a (nI r) (nI L.length) K) 4093) _ (nI 2) M2 = _
  rw [f_X5_goesThrough_L83, if_pos (nI_le (Nat.le_refl _) (by decide))]
  rfl
/-- the row is laid anew -/
def cz_rw (s : Nat → Int32) (r len : Nat) (l : List Nat) : Nat → Int32 := fun j => if 31 + 40 * r ≤ j ∧ j < 31 + 40 * r + len then nI (l.getD (j - (31 + 40 * r)) 0) else s j
theorem cz_rw_0 (s : Nat → Int32) (r : Nat) (l : List Nat) : cz_rw s r 0 l = s := by
  funext j
  unfold cz_rw
  rw [if_neg (by omega)]
theorem cz_rw_s (s : Nat → Int32) (r k : Nat) (l : List Nat) : upd (cz_rw s r k l) (31 + 40 * r + k) (nI (l.getD k 0)) = cz_rw s r (k + 1) l := by
  funext j
  by_cases h : j = 31 + 40 * r + k
  · subst h
    rw [pk_us, cz_rw, if_pos (by omega), Nat.add_sub_cancel_left]
  · rw [pk_un h]
    unfold cz_rw
    by_cases h2 : 31 + 40 * r ≤ j ∧ j < 31 + 40 * r + k
    · rw [if_pos h2, if_pos (by omega)]
    · rw [if_neg h2, if_neg (by omega)]
set_option maxHeartbeats 2000000 in
theorem m_go4 (M : cz_M) (a : Nat) {r len : Nat} (l : List Nat) (hr : r < 2) (hlen : len ≤ 40) (hl : l.length ≤ len) (har : cz_ar (M.1 (a + 9)) l) (K : Int32 → cz_M → Option cz_M) :
    ∃ M', cz_it2 (f_X5_goesThrough_L169 a (nI r) (nI len) (nI l.length) K) 4096 (nI 0) M = K (nI len) M' ∧ M'.1 (a + 1) = cz_rw (M.1 (a + 1)) r len l ∧ cz_fr (fun x => x = a + 1) M M' := by
  obtain ⟨t', ⟨h1, h2⟩, h⟩ := cz_for2 (F := f_X5_goesThrough_L169 a (nI r) (nI len) (nI l.length) K) (fun k (m : cz_M) => m.1 (a + 1) = cz_rw (M.1 (a + 1)) r k l ∧ cz_fr (fun x => x = a + 1) M m) (fun m => K (nI len) m) len
    (fun k m hk ⟨i1, i2⟩ => by
      have e9 : m.1 (a + 9) = M.1 (a + 9) := (i2.1 (a + 9) (by omega)).1
      refine ⟨cz_mI m (a + 1) (31 + 40 * r + k) (nI (l.getD k 0)), fun rec => ?_, by rw [cz_mI_s, i1, cz_rw_s], i2.tr (cz_fr.mI rfl)⟩
      rw [f_X5_goesThrough_L169, if_neg (nI_ge hk (by omega)), m_inRow, Option.bind_some]
      by_cases hkl : l.length ≤ k
      · rw [if_pos (nI_le hkl (by omega)), cz_gdn (by omega) (by decide), cz_cl (by omega), cz_lt_e, cz_lt_e, nI_add, List.getD_eq_getElem?_getD, List.getElem?_eq_none hkl]
        rfl
      · have hkl2 : k < l.length := by omega
        rw [if_neg (nI_ge hkl2 (by omega)), cz_gdn (by omega) (by decide), cz_gdn (by omega) (by decide), cz_cl (by omega), cz_cl (by omega), cz_lt_e, cz_lt_e, nI_add, e9, har k hkl2, List.getD_eq_getElem?_getD, List.getElem?_eq_getElem hkl2]
        rfl)
    (fun m hI rec => by rw [f_X5_goesThrough_L169, if_pos (nI_le (Nat.le_refl _) (by omega))]) len 0 M 4096 (by omega) (by omega) ⟨by rw [cz_rw_0], cz_fr.rf⟩
  exact ⟨t', h, h1, h2⟩
theorem m_shiftNow (M : cz_M) (a : Nat) {W r c : Nat} (hr : r < 2) (hW : M.1 (a + 1) 3 = nI W) (hW2 : W < 2 ^ 31) (hc : M.1 (a + 1) (5 + 2 * (W % 4) + r) = nI c) : f_X5_shiftNow M a (nI r) = some (nI c) := by
  have h4 : W % 4 < 4 := Nat.mod_lt _ (by decide)
  rw [f_X5_shiftNow, cz_gdn (by decide) (by decide), cz_cl (by decide), hW, pk_rem hW2 (by decide) (by decide), pk_mul, nI_add, nI_add, cz_gdn (by omega) (by decide), cz_cl (by omega), hc]
/-- a prison's censor goes through its row -/
def cz_gt (w : Nat → Int32) (r c rdm : Nat) (L : List Nat) (p : (Nat → Int32) × (Nat → Int32)) : (Nat → Int32) × (Nat → Int32) :=
  let q := cz_go w c rdm L (0, p)
  (upd (cz_rw q.2.1 r L.length (cz_nl q.2.1 q.2.2 L)) (29 + r) (nI (cz_nl q.2.1 q.2.2 L).length), q.2.2)
theorem cz_go_u {w : Nat → Int32} {c rdm : Nat} {i : Nat} : ∀ (l : List Nat) (p : Nat × (Nat → Int32) × (Nat → Int32)), (p.2.2 i = nI 0 ∨ p.2.2 i = nI 1) → ((cz_go w c rdm l p).2.2 i = nI 0 ∨ (cz_go w c rdm l p).2.2 i = nI 1)
  | [], p, h => h
  | k :: l, p, h => by
    show (cz_go w c rdm l (cz_s1 w c rdm p k)).2.2 i = nI 0 ∨ (cz_go w c rdm l (cz_s1 w c rdm p k)).2.2 i = nI 1
    refine cz_go_u l _ ?_
    unfold cz_s1
    split
    · by_cases hik : i = k
      · subst hik; exact Or.inr pk_us
      · show upd p.2.2 k (nI 1) i = nI 0 ∨ upd p.2.2 k (nI 1) i = nI 1
        rw [pk_un hik]; exact h
    · exact h
set_option maxHeartbeats 2000000 in
theorem m_goes (M : cz_M) (a : Nat) {r c rdm S W : Nat} (L : List Nat) (hr : r < 2) (hW : M.1 (a + 1) 3 = nI W) (hW2 : W < 2 ^ 31) (hcc : M.1 (a + 1) (5 + 2 * (W % 4) + r) = nI c) (hc : c < 4) (hrd : rdm ≤ 9) (hM0 : M.1 (a + 1) 0 = nI rdm) (hS : M.1 (a + 1) (13 + 4 * c) = nI S) (hS2 : S < 2 ^ 26) (hL : L.length ≤ 40) (hlen : M.1 (a + 1) (29 + r) = nI L.length) (hrow : ∀ k (h : k < L.length), M.1 (a + 1) (31 + 40 * r + k) = nI L[k]) (hLi : ∀ i ∈ L, i < 40 ∧ cz_lw (M.1 (a + 1)) i) (hw : ∀ j, j < 40 → M.1 (a + 7) j = nI 0 ∨ M.1 (a + 7) j = nI 1) (hu : ∀ j, j < 40 → M.1 (a + 8) j = nI 0 ∨ M.1 (a + 8) j = nI 1) :
    ∃ M', f_X5_goesThrough M a (nI r) = some M' ∧ (M'.1 (a + 1), M'.1 (a + 8)) = cz_gt (M.1 (a + 7)) r c rdm L (M.1 (a + 1), M.1 (a + 8)) ∧ cz_fr (fun x => x = a + 1 ∨ x = a + 8 ∨ x = a + 9) M M' := by
  rw [f_X5_goesThrough, m_shiftNow M a hr hW hW2 hcc, Option.bind_some, nI_add, cz_gdn (by omega) (by decide), cz_cl (by omega), hlen, cz_lt_e]
  obtain ⟨M1, f1, s1, u1, r1⟩ := m_go1 M a L hr hc hrd hM0 hS hS2 hL hrow hLi hw (fun x21 x22 M23 => cz_it3 (f_X5_goesThrough_L83 a (nI r) (nI L.length) (fun x58 x59 M60 => cz_it2 (f_X5_goesThrough_L169 a (nI r) (nI L.length) x58 (fun x72 M73 => cz_gd (cz_ib (nI (29 + r)) 551) (cz_lt (cz_mI M73 (a + 1) (29 + r) x58) fun M75 => some M75))) 4096 (nI 0) M60)) 4096 (nI 0) (nI 0) M23)
  rw [f1]
  have hkp : ∀ j, cz_kp j → M1.1 (a + 1) j = M.1 (a + 1) j := fun j hj => by rw [s1]; exact cz_go_kp hc hj L _
  obtain ⟨M2, f2, g2, r2⟩ := m_go3 M1 a L hr hL (fun k h => by rw [hkp _ (by unfold cz_kp; omega)]; exact hrow k h) (fun i hi => (hLi i hi).1) (fun i hi => by rw [u1]; exact cz_go_u L _ (hu i (hLi i hi).1)) (fun x58 x59 M60 => cz_it2 (f_X5_goesThrough_L169 a (nI r) (nI L.length) x58 (fun x72 M73 => cz_gd (cz_ib (nI (29 + r)) 551) (cz_lt (cz_mI M73 (a + 1) (29 + r) x58) fun M75 => some M75))) 4096 (nI 0) M60)
  rw [f2]
  obtain ⟨M3, f3, g3, r3⟩ := m_go4 M2 a (len := L.length) (cz_nl (M1.1 (a + 1)) (M1.1 (a + 8)) L) hr hL (cz_nl_len _ _ _) g2 (fun x72 M73 => cz_gd (cz_ib (nI (29 + r)) 551) (cz_lt (cz_mI M73 (a + 1) (29 + r) (nI (cz_nl (M1.1 (a + 1)) (M1.1 (a + 8)) L).length)) fun M75 => some M75))
  rw [f3, cz_gdn (by omega) (by decide), cz_lt_e]
  have e2 : M2.1 (a + 1) = M1.1 (a + 1) := (r2.1 (a + 1) (by omega)).1
  have e3 : M3.1 (a + 8) = M1.1 (a + 8) := ((r3.1 (a + 8) (by omega)).1).trans (r2.1 (a + 8) (by omega)).1
  refine ⟨_, rfl, ?_, ?_⟩
  · rw [cz_mI_s, cz_mI_o (by omega), g3, e2, e3, s1, u1]
    rfl
  · exact ((((r1.mono (fun x hx => by omega)).tr (r2.mono (fun x hx => by omega))).tr (r3.mono (fun x hx => by omega)))).tr (cz_fr.mI (Or.inl rfl))
