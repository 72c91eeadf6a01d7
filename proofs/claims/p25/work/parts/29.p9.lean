/-! a week keeps what a state is -/
theorem cz_go_all {w s u : Nat → Int32} {c rdm : Nat} {L : List Nat} (hc : c < 4) (hnd : L.Nodup) (hlw : ∀ i ∈ L, cz_lw s i) :
    (∀ j, j ∉ L → (∀ f, f < 11 → (cz_go w c rdm L (0, s, u)).2.1 (111 + 11 * j + f) = s (111 + 11 * j + f)) ∧ (cz_go w c rdm L (0, s, u)).2.2 j = u j)
    ∧ (∀ m (hm : m < L.length), (∀ f, f < 11 → (cz_go w c rdm L (0, s, u)).2.1 (111 + 11 * L[m] + f) = cz_tl s c (cz_fk s w c rdm L m) L[m] f) ∧ (cz_go w c rdm L (0, s, u)).2.2 L[m] = if cz_fk s w c rdm L m = 2 ∨ cz_fk s w c rdm L m = 3 then u L[m] else nI 1) := by
  obtain ⟨-, h2, h3, -⟩ := cz_go_st (w := w) (u := u) (rdm := rdm) hc hnd hlw L.length (Nat.le_refl _)
  rw [List.take_length] at h2 h3
  exact ⟨h2, fun m hm => h3 m hm hm⟩
/-- the row a week later -/
def cz_nR (w s u : Nat → Int32) (c rdm : Nat) (L : List Nat) : List Nat := cz_nl (cz_go w c rdm L (0, s, u)).2.1 (cz_go w c rdm L (0, s, u)).2.2 L
theorem cz_gt_l {w s u : Nat → Int32} {r c rdm : Nat} {L : List Nat} {j : Nat} (hr : r < 2) (hL : L.length ≤ 40) (h : j < 29 ∨ 111 ≤ j) : (cz_gt w r c rdm L (s, u)).1 j = (cz_go w c rdm L (0, s, u)).2.1 j := by
  unfold cz_gt
  dsimp only
  rw [pk_un (by omega), cz_rw, if_neg (by omega)]
theorem cz_gt_2 {w s u : Nat → Int32} {r c rdm : Nat} {L : List Nat} : (cz_gt w r c rdm L (s, u)).2 = (cz_go w c rdm L (0, s, u)).2.2 := rfl
theorem cz_gt_len {w s u : Nat → Int32} {r c rdm : Nat} {L : List Nat} : (cz_gt w r c rdm L (s, u)).1 (29 + r) = nI (cz_nR w s u c rdm L).length := by
  unfold cz_gt
  dsimp only
  rw [pk_us]
  rfl
theorem cz_gt_row {w s u : Nat → Int32} {r c rdm : Nat} {L : List Nat} {k : Nat} (h : k < (cz_nR w s u c rdm L).length) (hr : r < 2) : (cz_gt w r c rdm L (s, u)).1 (31 + 40 * r + k) = nI (cz_nR w s u c rdm L)[k] := by
  have h1 : (cz_nR w s u c rdm L).length ≤ L.length := cz_nl_len _ _ _
  unfold cz_gt
  dsimp only
  rw [pk_un (by omega), cz_rw, if_pos (by omega), Nat.add_sub_cancel_left]
  exact congrArg nI (cz_gD h)
theorem cz_nl_nd {s u : Nat → Int32} {L : List Nat} (h : L.Nodup) : (cz_nl s u L).Nodup := by
  unfold cz_nl
  rw [List.nodup_append]
  refine ⟨h.sublist List.filter_sublist, h.sublist List.filter_sublist, fun a ha b hb he => ?_⟩
  subst he
  exact cz_pb_x a ⟨(List.mem_filter.mp ha).2, (List.mem_filter.mp hb).2⟩
theorem cz_nl_m {s u : Nat → Int32} {L : List Nat} {i : Nat} (h : i ∈ cz_nl s u L) : i ∈ L ∧ s (111 + 11 * i + 2) = nI 0 := by
  unfold cz_nl at h
  rcases List.mem_append.mp h with h | h
  · have h := List.mem_filter.mp h
    exact ⟨h.1, (cz_pb_t.mp h.2).1⟩
  · have h := List.mem_filter.mp h
    exact ⟨h.1, (cz_pb_t.mp h.2).1⟩
theorem cz_nl_i {s u : Nat → Int32} {L : List Nat} {i : Nat} (h : i ∈ L) (hs : s (111 + 11 * i + 2) = nI 0) (hu : u i = nI 0 ∨ u i = nI 1) : i ∈ cz_nl s u L := by
  unfold cz_nl
  rcases hu with hu | hu
  · exact List.mem_append_left _ (List.mem_filter.mpr ⟨h, cz_pb_t.mpr ⟨hs, hu⟩⟩)
  · exact List.mem_append_right _ (List.mem_filter.mpr ⟨h, cz_pb_t.mpr ⟨hs, hu⟩⟩)
theorem cz_ms_256 {s : Nat → Int32} {c i : Nat} (h : cz_lw s i) : cz_ms s c i < 256 := by
  obtain ⟨l, -, hl8, hl⟩ := h.1
  unfold cz_ms
  rw [hl, cz_cl (by omega)]
  exact cz_mk_256 _ _ hl8
/-- the turnings back that a censor counts -/
theorem cz_ap_tc {s : Nat → Int32} {c t i x : Nat} (hc : c < 4) (hx : x < 4) : ∃ d, d ≤ 1 ∧ cz_ap s c t i (13 + 4 * x + 3) = s (13 + 4 * x + 3) + nI d := by
  have z : ∀ y : Int32, y = y + nI 0 := fun y => (Int32.add_zero y).symm
  unfold cz_ap cz_th cz_tu
  by_cases hcx : x = c
  · subst hcx
    repeat' split
    · exact ⟨0, by omega, by simp (disch := omega) only [pk_un]; exact z _⟩
    · exact ⟨1, by omega, by simp (disch := omega) only [pk_un, pk_us]⟩
    · exact ⟨1, by omega, by simp (disch := omega) only [pk_un, pk_us]⟩
    · exact ⟨0, by omega, z _⟩
  · repeat' split
    all_goals first | exact ⟨0, by omega, z _⟩ | exact ⟨0, by omega, by simp (disch := omega) only [pk_un]; exact z _⟩
theorem cz_go_tc {w s u : Nat → Int32} {c rdm x : Nat} (hc : c < 4) (hx : x < 4) : ∀ (L : List Nat) (p : Nat × (Nat → Int32) × (Nat → Int32)), p.1 ≤ rdm → ∃ d, d + p.1 ≤ rdm ∧ (cz_go w c rdm L p).2.1 (13 + 4 * x + 3) = p.2.1 (13 + 4 * x + 3) + nI d
  | [], p, h => ⟨0, by omega, (Int32.add_zero _).symm⟩
  | i :: L, p, h => by
    show ∃ d, d + p.1 ≤ rdm ∧ (cz_go w c rdm L (cz_s1 w c rdm p i)).2.1 (13 + 4 * x + 3) = p.2.1 (13 + 4 * x + 3) + nI d
    by_cases hq : p.1 < rdm ∧ ¬ cz_bar p.2.1 w i
    · have e : cz_s1 w c rdm p i = (p.1 + 1, cz_rd p.2.1 c i (cz_ms p.2.1 c i), upd p.2.2 i (nI 1)) := by
        unfold cz_s1
        rw [if_pos hq]
      rw [e]
      obtain ⟨d, hd, hd2⟩ := cz_go_tc (w := w) (s := s) (u := u) (rdm := rdm) hc hx L (p.1 + 1, cz_rd p.2.1 c i (cz_ms p.2.1 c i), upd p.2.2 i (nI 1)) (by have := hq.1; dsimp only; omega)
      obtain ⟨d2, hd3, hd4⟩ := cz_ap_tc (s := p.2.1) (t := cz_ft p.2.1 c i) (i := i) hc hx
      refine ⟨d2 + d, by dsimp only at hd; omega, ?_⟩
      rw [hd2]
      dsimp only
      rw [cz_rd_ap, hd4, Int32.add_assoc, nI_add]
    · have e : cz_s1 w c rdm p i = p := by
        unfold cz_s1
        rw [if_neg hq]
      rw [e]
      exact cz_go_tc (s := s) (u := u) hc hx L p h
/-- the rows, one of them new -/
def cz_Ru (R : Nat → List Nat) (r : Nat) (l : List Nat) : Nat → List Nat := fun x => if x = r then l else R x
theorem cz_Ru_s {R : Nat → List Nat} {r : Nat} {l : List Nat} : cz_Ru R r l r = l := if_pos rfl
theorem cz_Ru_n {R : Nat → List Nat} {r x : Nat} {l : List Nat} (h : x ≠ r) : cz_Ru R r l x = R x := if_neg h
theorem cz_nI_inj {x y : Nat} (hx : x < 2 ^ 31) (hy : y < 2 ^ 31) (h : nI x = nI y) : x = y := by
  have := congrArg Int32.toNatClampNeg h
  rwa [cz_cl hx, cz_cl hy] at this
set_option maxHeartbeats 2000000 in
theorem cz_om_gt {w s u : Nat → Int32} {n W T r c rdm : Nat} {R : Nat → List Nat} (om : cz_om s n W T R) (hr : r < 2) (hc : c < 4) (hrd : rdm ≤ 9) (hu : ∀ i ∈ R r, u i = nI 0) :
    cz_om (cz_gt w r c rdm (R r) (s, u)).1 n W (T + 9) (cz_Ru R r (cz_nR w s u c rdm (R r))) ∧ ∀ j, j ∉ R r → (cz_gt w r c rdm (R r) (s, u)).2 j = u j := by
  obtain ⟨⟨hn, hs4, hW, hs3⟩, ⟨⟨a0, ha0, hb0⟩, ⟨a1, ha1, hb1⟩, ⟨a2, ha2, hb2⟩⟩, hro, hst, hrw, hle, htc⟩ := om
  obtain ⟨l1, l2, l3, l4, l5⟩ := hrw r hr
  have hlw : ∀ i ∈ R r, cz_lw s i := fun i hi => (hle i (l5 i hi).1).1
  obtain ⟨gA, gB⟩ := cz_go_all (w := w) (u := u) (rdm := rdm) hc l4 hlw
  have kp : ∀ j, cz_kp j → j ≠ 29 + r → (j < 31 + 40 * r ∨ 31 + 40 * r + 40 ≤ j) → (cz_gt w r c rdm (R r) (s, u)).1 j = s j := fun j h1 h2 h3 => cz_gt_kp hc l2 h1 h2 h3
  have hL : ∀ j, 111 ≤ j → (cz_gt w r c rdm (R r) (s, u)).1 j = (cz_go w c rdm (R r) (0, s, u)).2.1 j := fun j hj => cz_gt_l hr l2 (Or.inr hj)
  have hout : ∀ i, i ∉ R r → ∀ f, f < 11 → (cz_gt w r c rdm (R r) (s, u)).1 (111 + 11 * i + f) = s (111 + 11 * i + f) := fun i hi f hf => (hL _ (by omega)).trans ((gA i hi).1 f hf)
  have hin : ∀ k (hk : k < (R r).length), ∀ f, f < 11 → (cz_gt w r c rdm (R r) (s, u)).1 (111 + 11 * (R r)[k] + f) = cz_tl s c (cz_fk s w c rdm (R r) k) (R r)[k] f := fun k hk f hf => (hL _ (by omega)).trans ((gB k hk).1 f hf)
  refine ⟨⟨⟨hn, (kp 4 (by unfold cz_kp; omega) (by omega) (by omega)).trans hs4, hW, (kp 3 (by unfold cz_kp; omega) (by omega) (by omega)).trans hs3⟩, ⟨⟨a0, ha0, (kp 0 (by unfold cz_kp; omega) (by omega) (by omega)).trans hb0⟩, ⟨a1, ha1, (kp 1 (by unfold cz_kp; omega) (by omega) (by omega)).trans hb1⟩, ⟨a2, ha2, (kp 2 (by unfold cz_kp; omega) (by omega) (by omega)).trans hb2⟩⟩, fun k hk => ?_, fun x hx => ?_, fun x hx => ?_, fun i hi => ?_, fun x hx => ?_⟩, fun j hj => (gA j hj).2⟩
  · obtain ⟨y, hy, hz⟩ := hro k hk
    exact ⟨y, hy, (kp (5 + k) (by unfold cz_kp; omega) (by omega) (by omega)).trans hz⟩
  · obtain ⟨y, hy, hz⟩ := hst x hx
    exact ⟨y, hy, (kp (13 + 4 * x) (by unfold cz_kp; omega) (by omega) (by omega)).trans hz⟩
  · by_cases hxr : x = r
    · subst hxr
      rw [cz_Ru_s]
      refine ⟨cz_gt_len, Nat.le_trans (cz_nl_len _ _ _) l2, fun k h => cz_gt_row h hr, cz_nl_nd l4, fun i hi => ?_⟩
      have hi := cz_nl_m hi
      have h5 := l5 i hi.1
      exact ⟨h5.1, (kp (111 + 11 * i + 1) (by unfold cz_kp; omega) (by omega) (by omega)).trans h5.2.1, (hL _ (by omega)).trans hi.2⟩
    · rw [cz_Ru_n hxr]
      obtain ⟨m1, m2, m3, m4, m5⟩ := hrw x hx
      refine ⟨(kp (29 + x) (by unfold cz_kp; omega) (by omega) (by omega)).trans m1, m2, fun k h => (kp (31 + 40 * x + k) (by unfold cz_kp; omega) (by omega) (by omega)).trans (m3 k h), m4, fun i hi => ?_⟩
      have h5 := m5 i hi
      have hno : i ∉ R r := fun z => hxr (cz_nI_inj (by omega) (by omega) (h5.2.1.symm.trans (l5 i z).2.1))
      exact ⟨h5.1, (hout i hno 1 (by decide)).trans h5.2.1, (hout i hno 2 (by decide)).trans h5.2.2⟩
  · have hle0 := hle i hi
    by_cases hiR : i ∈ R r
    · obtain ⟨k, hk, rfl⟩ := List.mem_iff_getElem.mp hiR
      have h5 := l5 _ hiR
      have hF := hin k hk
      obtain ⟨e1, e2, ⟨q, hq, hq2, hq3⟩, e4, e5, e6, e7, e8, ⟨b, hb, hbe, hb4⟩, e10⟩ := hle0
      have hb5 : b ≤ 4 := hb4 h5.2.2
      have f0 := hF 0 (by decide)
      have f1 := hF 1 (by decide)
      have f2 := hF 2 (by decide)
      have f3 := hF 3 (by decide)
      have f4 := hF 4 (by decide)
      have f5 := hF 5 (by decide)
      have f6 := hF 6 (by decide)
      have f7 := hF 7 (by decide)
      have f8 := hF 8 (by decide)
      have f9 := hF 9 (by decide)
      have f10 := hF 10 (by decide)
      rw [Nat.add_zero] at f0
      have n03 : nI 0 ≠ nI 3 := by decide
      have n01 : nI 0 ≠ nI 1 := by decide
      have n31 : nI 3 ≠ nI 1 := by decide
      have n30 : nI 3 ≠ nI 0 := by decide
      have n20 : nI 2 ≠ nI 0 := by decide
      have n21 : nI 2 ≠ nI 1 := by decide
      have hqr : q = r := cz_nI_inj (by omega) (by omega) (hq2.symm.trans h5.2.1)
      subst hqr
      have hnew : (cz_gt w q c rdm (R q) (s, u)).1 (111 + 11 * (R q)[k] + 2) = nI 0 → (R q)[k] ∈ cz_Ru R q (cz_nR w s u c rdm (R q)) q := fun h => by
        rw [cz_Ru_s]
        refine cz_nl_i hiR ((hL _ (by omega)).symm.trans h) ?_
        rw [(gB k hk).2]
        split
        · exact Or.inl (hu _ hiR)
        · exact Or.inr rfl
      have hlwn : cz_lw (cz_gt w q c rdm (R q) (s, u)).1 (R q)[k] := by
        unfold cz_lw at e1 ⊢
        rw [kp (111 + 11 * (R q)[k] + 8) (by unfold cz_kp; omega) (by omega) (by omega), kp (111 + 11 * (R q)[k] + 9) (by unfold cz_kp; omega) (by omega) (by omega), kp (111 + 11 * (R q)[k] + 10) (by unfold cz_kp; omega) (by omega) (by omega)]
        exact e1
      have k0 := kp (111 + 11 * (R q)[k]) (by unfold cz_kp; omega) (by omega) (by omega)
      have k1 := kp (111 + 11 * (R q)[k] + 1) (by unfold cz_kp; omega) (by omega) (by omega)
      have k3 := kp (111 + 11 * (R q)[k] + 3) (by unfold cz_kp; omega) (by omega) (by omega)
      have k4 := kp (111 + 11 * (R q)[k] + 4) (by unfold cz_kp; omega) (by omega) (by omega)
      have e7 := e7 (by rw [h5.2.2]; exact n01)
      have hm := cz_ms_256 (c := c) e1
      refine ⟨hlwn, by rw [k0]; exact e2, ⟨q, hq, by rw [k1]; exact hq2, hnew⟩, ?_, by rw [k3]; exact e5, fun h => ?_, fun _ => by rw [k4]; exact e7, ?_, ?_, ?_⟩
      · rw [f2]
        rcases cz_fk_c s w c rdm (R q) k with ht | ht | ht | ht | ht <;> rw [ht] <;> simp [cz_tl, h5.2.2]
      · rw [f2] at h
        exfalso
        rcases cz_fk_c s w c rdm (R q) k with ht | ht | ht | ht | ht <;> rw [ht] at h <;> simp [cz_tl, h5.2.2, n31, n01, n21] at h
      · rw [f5]
        rcases cz_fk_c s w c rdm (R q) k with ht | ht | ht | ht | ht <;> rw [ht]
        · exact ⟨_, hm, by simp [cz_tl]⟩
        · simpa [cz_tl] using e8
        · simpa [cz_tl] using e8
        · simpa [cz_tl] using e8
        · simpa [cz_tl] using e8
      · rw [f6, f2]
        rcases cz_fk_c s w c rdm (R q) k with ht | ht | ht | ht | ht
        · rw [ht]; exact ⟨b, hb, by simp [cz_tl, hbe], fun _ => hb5⟩
        · rw [ht]; exact ⟨b, hb, by simp [cz_tl, hbe], fun _ => hb5⟩
        · rw [ht]; exact ⟨b, hb, by simp [cz_tl, hbe], fun _ => hb5⟩
        · refine ⟨b + 1, by omega, by rw [ht]; simp [cz_tl, hbe, nI_add], fun _ => ?_⟩
          have hlt : s (111 + 11 * (R q)[k] + 6) + nI 1 < s 2 := by
            unfold cz_fk at ht
            rw [cz_gD hk] at ht
            split at ht
            · omega
            · split at ht
              · unfold cz_ft at ht
                split at ht
                · split at ht
                  · assumption
                  · omega
                · omega
              · omega
          rw [hbe, hb2, nI_add, cz_ltN (by omega) (by omega)] at hlt
          omega
        · refine ⟨b + 1, by omega, by rw [ht]; simp [cz_tl, hbe, nI_add], fun h => ?_⟩
          rw [ht] at h
          simp [cz_tl, n20] at h
      · rw [f7]
        rcases cz_fk_c s w c rdm (R q) k with ht | ht | ht | ht | ht <;> rw [ht]
        · exact Or.inr ⟨c, hc, by simp [cz_tl]⟩
        · simpa [cz_tl] using e10
        · simpa [cz_tl] using e10
        · simpa [cz_tl] using e10
        · simpa [cz_tl] using e10
    · have hF := hout i hiR
      have f0 := hF 0 (by decide)
      rw [Nat.add_zero] at f0
      unfold cz_le cz_lw at hle0 ⊢
      rw [f0, hF 1 (by decide), hF 2 (by decide), hF 3 (by decide), hF 4 (by decide), hF 5 (by decide), hF 6 (by decide), hF 7 (by decide), hF 8 (by decide), hF 9 (by decide), hF 10 (by decide)]
      obtain ⟨e1, e2, ⟨q, hq, hq2, hq3⟩, e4⟩ := hle0
      refine ⟨e1, e2, ⟨q, hq, hq2, fun h => ?_⟩, e4⟩
      have hqr : q ≠ r := fun z => hiR (by subst z; exact hq3 h)
      rw [cz_Ru_n hqr]
      exact hq3 h
  · obtain ⟨t, ht, hte⟩ := htc x hx
    obtain ⟨d, hd, hde⟩ := cz_go_tc (w := w) (s := s) (u := u) (rdm := rdm) hc hx (R r) (0, s, u) (Nat.zero_le _)
    refine ⟨t + d, by dsimp only at hd; omega, ?_⟩
    rw [cz_gt_l hr l2 (Or.inl (by omega)), hde]
    dsimp only
    rw [hte, nI_add]
theorem cz_fi_2 {s : Nat → Int32} {n i : Nat} (hi : i < n) : cz_fi s n (111 + 11 * i + 2) = if s (111 + 11 * i + 2) = nI 3 then nI 1 else s (111 + 11 * i + 2) := by
  have e1 : (111 + 11 * i + 2 - 111) / 11 = i := by omega
  have e2 : (111 + 11 * i + 2 - 111) % 11 = 2 := by omega
  by_cases h : s (111 + 11 * i + 2) = nI 3
  · rw [if_pos h, cz_fi_p ⟨by omega, by omega, by rw [e1]; exact h⟩, if_pos e2]
  · rw [if_neg h, cz_fi_q (fun z => h (by have := z.2.2; rwa [e1] at this))]
theorem cz_fi_4 {s : Nat → Int32} {n i : Nat} (hi : i < n) : cz_fi s n (111 + 11 * i + 4) = if s (111 + 11 * i + 2) = nI 3 then s 3 - s (111 + 11 * i + 3) else s (111 + 11 * i + 4) := by
  have e1 : (111 + 11 * i + 4 - 111) / 11 = i := by omega
  have e2 : (111 + 11 * i + 4 - 111) % 11 = 4 := by omega
  by_cases h : s (111 + 11 * i + 2) = nI 3
  · rw [if_pos h, cz_fi_p ⟨by omega, by omega, by rw [e1]; exact h⟩, if_neg (by omega), if_pos e2, e1]
  · rw [if_neg h, cz_fi_q (fun z => h (by have := z.2.2; rwa [e1] at this))]
set_option maxHeartbeats 1000000 in
theorem cz_ok_fi {s : Nat → Int32} {n W T : Nat} {R : Nat → List Nat} (om : cz_om s n W T R) (hW2 : W + 1 < 2 ^ 20) (hT : T ≤ 18 * (W + 1)) : cz_ok (cz_fi (upd s 3 (s 3 + nI 1)) n) n (W + 1) R := by
  obtain ⟨⟨hn, hs4, hW, hs3⟩, ⟨⟨a0, ha0, hb0⟩, ⟨a1, ha1, hb1⟩, ⟨a2, ha2, hb2⟩⟩, hro, hst, hrw, hle, htc⟩ := om
  have ho : ∀ j, j ≠ 3 → (j < 111 ∨ ((j - 111) % 11 ≠ 2 ∧ (j - 111) % 11 ≠ 4) ∨ 111 + 11 * n ≤ j) → cz_fi (upd s 3 (s 3 + nI 1)) n j = s j := fun j h1 h2 => (cz_fi_o _ _ _ h2).trans (pk_un h1)
  have h2 : ∀ i, i < n → cz_fi (upd s 3 (s 3 + nI 1)) n (111 + 11 * i + 2) = if s (111 + 11 * i + 2) = nI 3 then nI 1 else s (111 + 11 * i + 2) := fun i hi => by
    rw [cz_fi_2 hi, pk_un (by omega)]
  have h4 : ∀ i, i < n → cz_fi (upd s 3 (s 3 + nI 1)) n (111 + 11 * i + 4) = if s (111 + 11 * i + 2) = nI 3 then nI (W + 1) - s (111 + 11 * i + 3) else s (111 + 11 * i + 4) := fun i hi => by
    rw [cz_fi_4 hi, pk_us, pk_un (show 111 + 11 * i + 2 ≠ 3 by omega), pk_un (show 111 + 11 * i + 3 ≠ 3 by omega), pk_un (show 111 + 11 * i + 4 ≠ 3 by omega), hs3, nI_add]
  have n13 : nI 1 ≠ nI 3 := by decide
  have n10 : nI 1 ≠ nI 0 := by decide
  have n03 : nI 0 ≠ nI 3 := by decide
  refine ⟨⟨⟨hn, (ho 4 (by decide) (by omega)).trans hs4, hW2, ?_⟩, ⟨⟨a0, ha0, (ho 0 (by decide) (by omega)).trans hb0⟩, ⟨a1, ha1, (ho 1 (by decide) (by omega)).trans hb1⟩, ⟨a2, ha2, (ho 2 (by decide) (by omega)).trans hb2⟩⟩, fun k hk => ?_, fun c hc => ?_, fun r hr => ?_, fun i hi => ?_, fun c hc => ?_⟩, fun i hi => ?_⟩
  · rw [cz_fi_o _ _ _ (by omega), pk_us, hs3, nI_add]
  · obtain ⟨c, hc, h⟩ := hro k hk
    exact ⟨c, hc, (ho (5 + k) (by omega) (by omega)).trans h⟩
  · obtain ⟨S, hS, h⟩ := hst c hc
    exact ⟨S, hS, (ho (13 + 4 * c) (by omega) (by omega)).trans h⟩
  · obtain ⟨l1, l2, l3, l4, l5⟩ := hrw r hr
    refine ⟨(ho (29 + r) (by omega) (by omega)).trans l1, l2, fun k h => (ho (31 + 40 * r + k) (by omega) (by omega)).trans (l3 k h), l4, fun i hi => ?_⟩
    have h5 := l5 i hi
    exact ⟨h5.1, (ho (111 + 11 * i + 1) (by omega) (by omega)).trans h5.2.1, by rw [h2 i h5.1, h5.2.2, if_neg n03]⟩
  · have hle0 := hle i hi
    unfold cz_le cz_lw at hle0 ⊢
    rw [h2 i hi, h4 i hi, ho (111 + 11 * i) (by omega) (by omega), ho (111 + 11 * i + 1) (by omega) (by omega), ho (111 + 11 * i + 3) (by omega) (by omega), ho (111 + 11 * i + 5) (by omega) (by omega), ho (111 + 11 * i + 6) (by omega) (by omega), ho (111 + 11 * i + 7) (by omega) (by omega), ho (111 + 11 * i + 8) (by omega) (by omega), ho (111 + 11 * i + 9) (by omega) (by omega), ho (111 + 11 * i + 10) (by omega) (by omega)]
    obtain ⟨e1, e2, ⟨q, hq, hq2, hq3⟩, e4, ⟨v, hv, hve⟩, e6, e7, e8, ⟨b, hb, hbe, hb4⟩, e10⟩ := hle0
    by_cases h3 : s (111 + 11 * i + 2) = nI 3
    · rw [if_pos h3, if_pos h3, hve, cz_subN (by omega)]
      exact ⟨e1, e2, ⟨q, hq, hq2, fun h => absurd h n10⟩, Or.inr (Or.inl rfl), ⟨v, by omega, rfl⟩, fun _ => ⟨W + 1 - v, by omega, rfl⟩, fun h => absurd rfl h, e8, ⟨b, hb, hbe, fun h => absurd h n10⟩, e10⟩
    · rw [if_neg h3, if_neg h3]
      refine ⟨e1, e2, ⟨q, hq, hq2, hq3⟩, e4, ⟨v, by omega, hve⟩, fun h => ?_, e7, e8, ⟨b, hb, hbe, hb4⟩, e10⟩
      obtain ⟨d, hd, hde⟩ := e6 h
      exact ⟨d, by omega, hde⟩
  · obtain ⟨t, ht, h⟩ := htc c hc
    exact ⟨t, by omega, (ho (13 + 4 * c + 3) (by omega) (by omega)).trans h⟩
  · rw [h2 i hi]
    split
    · exact n13
    · assumption
/-- the rows a week later -/
def cz_wR (s : Nat → Int32) (W : Nat) (R : Nat → List Nat) : Nat → List Nat :=
  cz_Ru (cz_Ru R 0 (cz_nR (cz_wt s) s (fun _ => nI 0) (cz_no s (5 + 2 * (W % 4))) (cz_no s 0) (R 0))) 1 (cz_nR (cz_wt s) (cz_gt (cz_wt s) 0 (cz_no s (5 + 2 * (W % 4))) (cz_no s 0) (R 0) (s, fun _ => nI 0)).1 (cz_gt (cz_wt s) 0 (cz_no s (5 + 2 * (W % 4))) (cz_no s 0) (R 0) (s, fun _ => nI 0)).2 (cz_no s (5 + 2 * (W % 4) + 1)) (cz_no s 0) (R 1))
theorem cz_ok_dj {s : Nat → Int32} {n W T : Nat} {R : Nat → List Nat} (om : cz_om s n W T R) {i : Nat} (h0 : i ∈ R 0) (h1 : i ∈ R 1) : False := by
  obtain ⟨-, -, -, -, hrw, -⟩ := om
  have a := ((hrw 0 (by decide)).2.2.2.2 i h0).2.1
  have b := ((hrw 1 (by decide)).2.2.2.2 i h1).2.1
  exact absurd (a.symm.trans b) (by decide)
theorem cz_ok_no {s : Nat → Int32} {n W T : Nat} {R : Nat → List Nat} (om : cz_om s n W T R) : cz_no s (5 + 2 * (W % 4)) < 4 ∧ cz_no s (5 + 2 * (W % 4) + 1) < 4 ∧ cz_no s 0 ≤ 9 ∧ s (5 + 2 * (W % 4)) = nI (cz_no s (5 + 2 * (W % 4))) ∧ s (5 + 2 * (W % 4) + 1) = nI (cz_no s (5 + 2 * (W % 4) + 1)) ∧ s 0 = nI (cz_no s 0) := by
  obtain ⟨-, ⟨⟨a0, ha0, hb0⟩, -⟩, hro, -⟩ := om
  have h4 : W % 4 < 4 := Nat.mod_lt _ (by decide)
  obtain ⟨c0, hc0, hq0⟩ := hro (2 * (W % 4)) (by omega)
  obtain ⟨c1, hc1, hq1⟩ := hro (2 * (W % 4) + 1) (by omega)
  have hq1 : s (5 + 2 * (W % 4) + 1) = nI c1 := hq1
  rw [cz_no_e hq0 (by omega), cz_no_e hq1 (by omega), cz_no_e hb0 (by omega)]
  exact ⟨hc0, hc1, ha0, hq0, hq1, hb0⟩
/-- the state between the two rows, and behind them -/
theorem cz_ok_g {s : Nat → Int32} {n W : Nat} {R : Nat → List Nat} (ok : cz_ok s n W R) :
    cz_om (cz_gt (cz_wt s) 0 (cz_no s (5 + 2 * (W % 4))) (cz_no s 0) (R 0) (s, fun _ => nI 0)).1 n W (18 * W + 9) (cz_Ru R 0 (cz_nR (cz_wt s) s (fun _ => nI 0) (cz_no s (5 + 2 * (W % 4))) (cz_no s 0) (R 0)))
    ∧ cz_om (cz_wA s W R).1 n W (18 * W + 18) (cz_wR s W R) := by
  obtain ⟨n0, n1, n2, -⟩ := cz_ok_no ok.1
  obtain ⟨g1, g2⟩ := cz_om_gt (w := cz_wt s) (u := fun _ => nI 0) ok.1 (r := 0) (by decide) n0 n2 (fun i hi => rfl)
  refine ⟨g1, ?_⟩
  have h := cz_om_gt (w := cz_wt s) (u := (cz_gt (cz_wt s) 0 (cz_no s (5 + 2 * (W % 4))) (cz_no s 0) (R 0) (s, fun _ => nI 0)).2) g1 (r := 1) (by decide) n1 n2 (fun i hi => by
    rw [cz_Ru_n (by decide)] at hi
    exact g2 i (fun z => cz_ok_dj ok.1 z hi))
  rw [cz_Ru_n (show (1 : Nat) ≠ 0 by decide)] at h
  exact h.1
theorem cz_ok_wk {s : Nat → Int32} {n W : Nat} {R : Nat → List Nat} (ok : cz_ok s n W R) (hW : W + 1 < 2 ^ 20) : cz_ok (cz_wK s n W R) n (W + 1) (cz_wR s W R) :=
  cz_ok_fi (cz_ok_g ok).2 hW (by omega)
