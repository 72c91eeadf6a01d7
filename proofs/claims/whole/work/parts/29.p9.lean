/-! a week keeps what a state is -/
theorem cz_go_all {w s u : Nat → Int32} {c rdm : Nat} {L : List Nat} (hc : c < 4) (hnd : L.Nodup) (hlw : ∀ i ∈ L, cz_lw s i) :
    (∀ j, j ∉ L → (∀ f, f < 11 → (cz_go w c rdm L (0, s, u)).2.1 (111 + 11 * j + f) = s (111 + 11 * j + f)) ∧ (cz_go w c rdm L (0, s, u)).2.2 j = u j)
    ∧ (∀ m (hm : m < L.length), (∀ f, f < 11 → (cz_go w c rdm L (0, s, u)).2.1 (111 + 11 * L[m] + f) = cz_tl s c (cz_fk s w c rdm L m) L[m] f) ∧ (cz_go w c rdm L (0, s, u)).2.2 L[m] = if cz_fk s w c rdm L m = 2 ∨ cz_fk s w c rdm L m = 3 then u L[m] else nI 1) := by
  obtain ⟨-, h2, h3, -⟩ := cz_go_st (w := w) (u := u) (rdm := rdm) hc hnd hlw L.length (Nat.le_refl _)
  rw [List.take_length] at h2 h3
  exact ⟨h2, fun m hm => h3 m hm hm⟩
/-- the row a week later -/
def cz_nR (w s u : Nat → Int32) (c rdm : Nat) (L : List Nat) : List Nat := cz_nl (cz_go w c rdm L (0, s, u)).2.1 (cz_go w c rdm L (0, s, u)).2.2 L
theorem cz_gt_l {w s u : Nat → Int32} {r c rdm : Nat} {L : List Nat} {j : Nat} (hr : r < 2) (hL : L.length ≤ 40) (h : j < 29 ∨ 111 ≤ j) : (cz_gt w r c rdm L (s, u)).1 j = (cz_go w c rdm L (0, s, u)).2.1 j := by
  unfold cz_gt
  dsimp only
  rw [pk_un (by omega), cz_rw, if_neg (by omega)]
theorem cz_gt_2 {w s u : Nat → Int32} {r c rdm : Nat} {L : List Nat} : (cz_gt w r c rdm L (s, u)).2 = (cz_go w c rdm L (0, s, u)).2.2 := rfl
theorem cz_gt_len {w s u : Nat → Int32} {r c rdm : Nat} {L : List Nat} : (cz_gt w r c rdm L (s, u)).1 (29 + r) = nI (cz_nR w s u c rdm L).length := by
  unfold cz_gt
  dsimp only
  rw [pk_us]
  rfl
theorem cz_gt_row {w s u : Nat → Int32} {r c rdm : Nat} {L : List Nat} {k : Nat} (h : k < (cz_nR w s u c rdm L).length) (hr : r < 2) : (cz_gt w r c rdm L (s, u)).1 (31 + 40 * r + k) = nI (cz_nR w s u c rdm L)[k] := by
  have h1 : (cz_nR w s u c rdm L).length ≤ L.length := cz_nl_len _ _ _
  unfold cz_gt
  dsimp only
  rw [pk_un (by omega), cz_rw, if_pos (by omega), Nat.add_sub_cancel_left]
  exact congrArg nI (cz_gD h)
theorem cz_nl_nd {s u : Nat → Int32} {L : List Nat} (h : L.Nodup) : (cz_nl s u L).Nodup := by
  unfold cz_nl
  rw [List.nodup_append]
  refine ⟨h.sublist List.filter_sublist, h.sublist List.filter_sublist, fun a ha b hb he => ?_⟩
  subst he
  exact cz_pb_x a ⟨(List.mem_filter.mp ha).2, (List.mem_filter.mp hb).2⟩
theorem cz_nl_m {s u : Nat → Int32} {L : List Nat} {i : Nat} (h : i ∈ cz_nl s u L) : i ∈ L ∧ s (111 + 11 * i + 2) = nI 0 := by
  unfold cz_nl at h
  rcases List.mem_append.mp h with h | h
  · have h := List.mem_filter.mp h
    exact ⟨h.1, (cz_pb_t.mp h.2).1⟩
  · have h := List.mem_filter.mp h
    exact ⟨h.1, (cz_pb_t.mp h.2).1⟩
theorem cz_nl_i {s u : Nat → Int32} {L : List Nat} {i : Nat} (h : i ∈ L) (hs : s (111 + 11 * i + 2) = nI 0) (hu : u i = nI 0 ∨ u i = nI 1) : i ∈ cz_nl s u L := by
  unfold cz_nl
  rcases hu with hu | hu
  · exact List.mem_append_left _ (List.mem_filter.mpr ⟨h, cz_pb_t.mpr ⟨hs, hu⟩⟩)
  · exact List.mem_append_right _ (List.mem_filter.mpr ⟨h, cz_pb_t.mpr ⟨hs, hu⟩⟩)
theorem cz_ms_256 {s : Nat → Int32} {c i : Nat} (h : cz_lw s i) : cz_ms s c i < 256 := by
  obtain ⟨l, -, hl8, hl⟩ := h.1
  unfold cz_ms
  rw [hl, cz_cl (by omega)]
  exact cz_mk_256 _ _ hl8
/-- the turnings back that a censor counts -/
theorem cz_ap_tc {s : Nat → Int32} {c t i x : Nat} (hc : c < 4) (hx : x < 4) : ∃ d, d ≤ 1 ∧ cz_ap s c t i (13 + 4 * x + 3) = s (13 + 4 * x + 3) + nI d := by
  have z : ∀ y : Int32, y = y + nI 0 := fun y => (Int32.add_zero y).symm
  unfold cz_ap cz_th cz_tu
  by_cases hcx : x = c
  · subst hcx
    repeat' split
    · exact ⟨0, by omega, by simp (disch := omega) only [pk_un]; exact z _⟩
    · exact ⟨1, by omega, by simp (disch := omega) only [pk_un, pk_us]⟩
    · exact ⟨1, by omega, by simp (disch := omega) only [pk_un, pk_us]⟩
    · exact ⟨0, by omega, z _⟩
  · repeat' split
    all_goals exact ⟨0, by omega, by simp (disch := omega) only [pk_un]; exact z _⟩
theorem cz_go_tc {w s u : Nat → Int32} {c rdm x : Nat} (hc : c < 4) (hx : x < 4) : ∀ (L : List Nat) (p : Nat × (Nat → Int32) × (Nat → Int32)), p.1 ≤ rdm → ∃ d, d + p.1 ≤ rdm ∧ (cz_go w c rdm L p).2.1 (13 + 4 * x + 3) = p.2.1 (13 + 4 * x + 3) + nI d
  | [], p, h => ⟨0, by omega, (Int32.add_zero _).symm⟩
  | i :: L, p, h => by
    show ∃ d, d + p.1 ≤ rdm ∧ (cz_go w c rdm L (cz_s1 w c rdm p i)).2.1 (13 + 4 * x + 3) = p.2.1 (13 + 4 * x + 3) + nI d
    by_cases hq : p.1 < rdm ∧ ¬ cz_bar p.2.1 w i
    · have e : cz_s1 w c rdm p i = (p.1 + 1, cz_rd p.2.1 c i (cz_ms p.2.1 c i), upd p.2.2 i (nI 1)) := by
        unfold cz_s1
        rw [if_pos hq]
      rw [e]
      obtain ⟨d, hd, hd2⟩ := cz_go_tc (w := w) (s := s) (u := u) (rdm := rdm) hc hx L (p.1 + 1, cz_rd p.2.1 c i (cz_ms p.2.1 c i), upd p.2.2 i (nI 1)) (by have := hq.1; dsimp only; omega)
      obtain ⟨d2, hd3, hd4⟩ := cz_ap_tc (s := p.2.1) (t := cz_ft p.2.1 c i) (i := i) hc hx
      refine ⟨d2 + d, by dsimp only at hd; omega, ?_⟩
      rw [hd2]
      dsimp only
      rw [cz_rd_ap, hd4, Int32.add_assoc, nI_add]
    · have e : cz_s1 w c rdm p i = p := by
        unfold cz_s1
        rw [if_neg hq]
      rw [e]
      exact cz_go_tc (s := s) (u := u) hc hx L p h
