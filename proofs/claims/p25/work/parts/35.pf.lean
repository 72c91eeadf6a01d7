/-! the class goes through a row -/
theorem cz_rp_fr {p n : Nat} {s : Nat → Int32} {R : Nat → List Nat} {M M' : cz_M} {D : Nat → Prop} (h : cz_fr D M M') (hD : ∀ x, D x → (x = p + 6 ∨ x = p + 7 ∨ x = p + 8) ∨ x < p ∨ p + 57 ≤ x) (hn : n ≤ 40) (rp : cz_rp M p s n R) : cz_rp M' p s n R := by
  obtain ⟨r1, ⟨r2, r3⟩, r4, r5, r6, r7⟩ := rp
  have hx : ∀ x, p ≤ x → x < p + 57 → x ≠ p + 6 → x ≠ p + 7 → x ≠ p + 8 → M'.1 x = M.1 x ∧ M'.2.1 x = M.2.1 x := fun x h1 h2 h3 h4 h5 => h.1 x (fun z => by have := hD x z; omega)
  refine ⟨fun k hk => by rw [(hx (p + 1) (by omega) (by omega) (by omega) (by omega) (by omega)).1]; exact r1 k hk, ⟨by rw [(hx p (by omega) (by omega) (by omega) (by omega) (by omega)).1]; exact r2, by rw [(hx p (by omega) (by omega) (by omega) (by omega) (by omega)).1]; exact r3⟩, fun k hk => by rw [(hx (p + 3) (by omega) (by omega) (by omega) (by omega) (by omega)).1]; exact r4 k hk, fun c hc f hf => by rw [(hx (p + 2 + (7 + c)) (by omega) (by omega) (by omega) (by omega) (by omega)).1]; exact r5 c hc f hf, fun r hr => ?_, fun i hi => ?_⟩
  · unfold cz_rr
    rw [(hx (p + 5 + (48 + 2 * r)) (by omega) (by omega) (by omega) (by omega) (by omega)).1, (hx (p + 5 + (48 + 2 * r) + 1) (by omega) (by omega) (by omega) (by omega) (by omega)).1]
    exact r6 r hr
  · unfold cz_rl
    rw [(hx (p + 4 + (9 + i)) (by omega) (by omega) (by omega) (by omega) (by omega)).1, (hx (p + 4 + (9 + i)) (by omega) (by omega) (by omega) (by omega) (by omega)).2]
    exact r7 i hi
theorem cz_rp_row {p n r : Nat} {s s' : Nat → Int32} {R : Nat → List Nat} {M M' : cz_M} {l : List Nat} (h : cz_fr (fun x => x = p + 5 + (48 + 2 * r) ∨ x = p + 5 + (48 + 2 * r) + 1) M M') (hr : r < 2) (hs : ∀ j, (j < 29 ∨ 111 ≤ j) → s' j = s j) (hn : n ≤ 40) (hlw : ∀ j, j < n → cz_lw s j) (rr : cz_rr M' (p + 5 + (48 + 2 * r)) l) (rp : cz_rp M p s n R) : cz_rp M' p s' n (cz_Ru R r l) := by
  obtain ⟨r1, ⟨r2, r3⟩, r4, r5, r6, r7⟩ := rp
  refine ⟨fun k hk => by rw [(h.1 (p + 1) (by omega)).1, hs _ (by omega)]; exact r1 k hk, ⟨by rw [(h.1 p (by omega)).1, hs _ (by omega)]; exact r2, by rw [(h.1 p (by omega)).1, hs _ (by omega)]; exact r3⟩, fun k hk => by rw [(h.1 (p + 3) (by omega)).1, hs _ (by omega)]; exact r4 k hk, fun c hc f hf => by rw [(h.1 (p + 2 + (7 + c)) (by omega)).1, hs _ (by omega)]; exact r5 c hc f hf, fun x hx => ?_, fun i hi => ?_⟩
  · by_cases hxr : x = r
    · subst hxr
      rw [cz_Ru_s]
      exact rr
    · rw [cz_Ru_n hxr]
      exact cz_rr_fr h (by omega) (by omega) (r6 x hx)
  · exact cz_rl_c (h.1 _ (by omega)).1 (h.1 _ (by omega)).2 (fun f hf => hs _ (by omega)) (hs _ (by omega)) (hlw i hi) (r7 i hi)
theorem cz_cn_c {s s' : Nat → Int32} (h : ∀ j, s' (111 + 11 * j + 2) = s (111 + 11 * j + 2)) : ∀ n, cz_cn s' n = cz_cn s n
  | 0 => rfl
  | n + 1 => by rw [cz_cn, cz_cn, cz_cn_c h n, h n]
theorem cz_tl_2 {s : Nat → Int32} {c t i : Nat} (h : s (111 + 11 * i + 2) = nI 0) : cz_tl s c t i 2 = if t = 0 then nI 3 else if t = 5 then nI 2 else nI 0 := by
  unfold cz_tl
  by_cases h0 : t = 0
  · rw [if_pos h0, if_pos h0, if_pos rfl]
  · rw [if_neg h0, if_neg h0]
    by_cases h4 : t = 4
    · rw [if_pos h4, if_pos rfl, if_neg (by omega)]
    · rw [if_neg h4]
      by_cases h5 : t = 5
      · rw [if_pos h5, if_pos h5, if_pos rfl]
      · rw [if_neg h5, if_neg h5, h]
set_option maxHeartbeats 4000000 in
theorem c_readRow (M : cz_M) (p : Nat) {s w u : Nat → Int32} {n W T r c rdm : Nat} {R : Nat → List Nat} (om : cz_om s n W T R) (rp : cz_rp M p s n R) (hr : r < 2) (hcn : s (5 + 2 * (W % 4) + r) = nI c) (hc : c < 4) (hu : ∀ i ∈ R r, u i = nI 0) (hf : ∀ k (h : k < (R r).length), M.1 (p + 4 + (9 + (R r)[k])) 10 = nI (cz_fk s w c rdm (R r) k)) :
    ∃ M' j, f_X2_readRow M p (nI r) = some (nI j, M') ∧ j ≤ 40 ∧ cz_rp M' p (cz_gt w r c rdm (R r) (s, u)).1 n (cz_Ru R r (cz_nR w s u c rdm (R r))) ∧ cz_cn (cz_gt w r c rdm (R r) (s, u)).1 n = cz_cn s n + j ∧ (∀ i, i < 40 → M'.1 (p + 4 + (9 + i)) 10 = M.1 (p + 4 + (9 + i)) 10) ∧ cz_fr (fun x => p ≤ x ∧ x < p + 57) M M' := by
  obtain ⟨⟨hn, hs4, hW, hs3⟩, -, hro, hst, hrw, hle, -⟩ := om
  obtain ⟨S0, hS0, hT0⟩ := hst c hc
  obtain ⟨l1, l2, l3, l4, l5⟩ := hrw r hr
  have hlw : ∀ j, j < n → cz_lw s j := fun j hj => (hle j hj).1
  have hlL : ∀ i ∈ R r, cz_lw s i := fun i hi => hlw i (l5 i hi).1
  have hcn2 : f_X2_censorNumber M p (M.1 p 8) (nI r) = some (nI c) := by
    have h4 : W % 4 < 4 := Nat.mod_lt _ (by decide)
    rw [rp.2.1.1, hs3]
    exact c_censorNumber M p hr (by omega) (by rw [rp.2.2.1 _ (by omega), ← Nat.add_assoc]; exact hcn)
  rw [f_X2_readRow, cz_gdn hr (by decide), cz_cl (by omega), cz_lt_e, hcn2, Option.bind_some]
  obtain ⟨x1, M1, ⟨j, g0, g1, g2, g3, g4, g5⟩, h⟩ := cz_for3 (F := f_X2_readRow_L23 p (p + 5 + (48 + 2 * r)) (nI c) (fun x28 x29 M30 => cz_lt (cz_mI M30 (p + 6) 1 (nI 0)) fun M32 => (f_X2_appendIfFate M32 p (p + 5 + (48 + 2 * r)) (nI 2) (nI 3)).bind fun M33 => (f_X2_appendIfFate M33 p (p + 5 + (48 + 2 * r)) (nI 4) (nI 4)).bind fun M34 => (f_X3_copyFrom M34 (p + 5 + (48 + 2 * r)) (p + 6)).bind fun M36 => some (x28, M36)))
    (fun k (x : Int32) (m : cz_M) => ∃ j, x = nI j ∧ j ≤ k ∧ cz_cn (cz_go w c rdm ((R r).take k) (0, s, u)).2.1 n = cz_cn s n + j ∧ cz_rp m p (cz_go w c rdm ((R r).take k) (0, s, u)).2.1 n R ∧ (∀ i, m.1 (p + 4 + (9 + i)) 10 = M.1 (p + 4 + (9 + i)) 10) ∧ cz_fr (fun x => p + 9 ≤ x ∧ x < p + 53) M m)
    (fun x m => cz_lt (cz_mI m (p + 6) 1 (nI 0)) fun M32 => (f_X2_appendIfFate M32 p (p + 5 + (48 + 2 * r)) (nI 2) (nI 3)).bind fun M33 => (f_X2_appendIfFate M33 p (p + 5 + (48 + 2 * r)) (nI 4) (nI 4)).bind fun M34 => (f_X3_copyFrom M34 (p + 5 + (48 + 2 * r)) (p + 6)).bind fun M36 => some (x, M36)) (R r).length
    (fun k x m hk ⟨j, i0, i1, i2, i3, i4, i5⟩ => by
      subst i0
      obtain ⟨-, q2, -, q4⟩ := cz_go_st (w := w) (u := u) (rdm := rdm) hc l4 hlL k (by omega)
      have q2 := q2 _ (cz_nt l4 hk)
      have q4 := q4 hk
      have hkp : ∀ j, cz_kp j → s j = (cz_go w c rdm ((R r).take k) (0, s, u)).2.1 j := fun j hj => (cz_go_kp hc hj ((R r).take k) (0, s, u)).symm
      have hmem : (R r)[k] ∈ R r := List.getElem_mem hk
      have h5 := l5 _ hmem
      have hfk := hf k hk
      rw [← i4] at hfk
      have hlen : m.1 (p + 5 + (48 + 2 * r)) 1 = nI (R r).length := (i3.2.2.2.2.1 r hr).1
      have hnum : m.1 (p + 5 + (48 + 2 * r) + 1) k = nI (R r)[k] := (i3.2.2.2.2.1 r hr).2 k hk
      rw [q4]
      generalize hSk : (cz_go w c rdm ((R r).take k) (0, s, u)).2.1 = Sk at q2 hkp i2 i3 ⊢
      have hlwk : ∀ j, j < n → cz_lw Sk j := fun j hj => cz_lw_eq hkp (hlw j hj)
      have hSS : Sk (13 + 4 * c) = nI S0 := by rw [← hkp _ (by unfold cz_kp; omega)]; exact hT0
      have h20 : Sk (111 + 11 * (R r)[k] + 2) = nI 0 := (q2.1 2 (by decide)).trans h5.2.2
      have hstep : ∀ K rec, f_X2_readRow_L23 p (p + 5 + (48 + 2 * r)) (nI c) K rec (nI j) (nI k) m = if nI (cz_fk s w c rdm (R r) k) = nI 0 then (f_X2_letThrough m p (p + 4 + (9 + (R r)[k])) (nI c)).bind (fun M23 => rec (nI (j + 1)) (nI (k + 1)) M23) else if nI (cz_fk s w c rdm (R r) k) = nI 4 then (f_X2_turnBack m p (p + 4 + (9 + (R r)[k])) (nI c)).bind (fun M23 => rec (nI j) (nI (k + 1)) M23) else if nI (cz_fk s w c rdm (R r) k) = nI 5 then (f_X2_turnBack m p (p + 4 + (9 + (R r)[k])) (nI c)).bind (fun M23 => rec (nI j) (nI (k + 1)) M23) else rec (nI j) (nI (k + 1)) m := by
        intro K rec
        rw [f_X2_readRow_L23, hlen, if_neg (nI_ge hk (by omega)), cz_gdn (by omega) (by decide), cz_cl (by omega), hnum, cz_gdn (by omega) (by decide), cz_cl (by omega), cz_lt_e, hfk]
        simp only [cz_lt_e, nI_add]
      have hnc : ∀ t, (∀ j, j ≠ (R r)[k] → cz_ap Sk c t (R r)[k] (111 + 11 * j + 2) = Sk (111 + 11 * j + 2)) := fun t j hj => cz_ap_ne hc (by decide) hj
      have hcu := fun t => cz_cn_u (hnc t) (by rw [h20]; decide) n
      have hin := h5.1
      rcases cz_fk_c s w c rdm (R r) k with ht | ht | ht | ht | ht <;> rw [ht] at hfk hstep ⊢
      · obtain ⟨m2, a1, a2, a3, a4⟩ := c_let i3 hc hn hin hlwk hSS hS0
        have e : cz_ap Sk c 0 (R r)[k] = cz_th Sk c (R r)[k] := rfl
        refine ⟨nI (j + 1), m2, fun rec => by rw [hstep, if_pos rfl, a1, Option.bind_some], j + 1, rfl, by omega, ?_, a2, fun i => (a3 i).trans (i4 i), i5.tr a4⟩
        rw [hcu 0, i2, if_pos ⟨hin, by rw [cz_ap_i hc (by decide)]; rfl⟩]
        omega
      · refine ⟨nI j, m, fun rec => by rw [hstep, if_neg (by decide), if_neg (by decide), if_neg (by decide)], j, rfl, by omega, ?_, i3, i4, i5⟩
        exact i2
      · refine ⟨nI j, m, fun rec => by rw [hstep, if_neg (by decide), if_neg (by decide), if_neg (by decide)], j, rfl, by omega, ?_, i3, i4, i5⟩
        exact i2
      · obtain ⟨m2, a1, a2, a3, a4⟩ := c_turn i3 hc hn hin hlwk h20 (Or.inl rfl) hfk
        refine ⟨nI j, m2, fun rec => by rw [hstep, if_neg (by decide), if_pos rfl, a1, Option.bind_some], j, rfl, by omega, ?_, a2, fun i => (a3 i).trans (i4 i), i5.tr a4⟩
        rw [hcu 4, i2, if_neg (by rw [cz_ap_i hc (by decide)]; rintro ⟨-, z⟩; exact absurd z (by decide : nI 0 ≠ nI 3))]
        rfl
      · obtain ⟨m2, a1, a2, a3, a4⟩ := c_turn i3 hc hn hin hlwk h20 (Or.inr rfl) hfk
        refine ⟨nI j, m2, fun rec => by rw [hstep, if_neg (by decide), if_neg (by decide), if_pos rfl, a1, Option.bind_some], j, rfl, by omega, ?_, a2, fun i => (a3 i).trans (i4 i), i5.tr a4⟩
        rw [hcu 5, i2, if_neg (by rw [cz_ap_i hc (by decide)]; rintro ⟨-, z⟩; exact absurd z (by decide : nI 2 ≠ nI 3))]
        rfl)
    (fun x m ⟨j, i0, i1, i2, i3, i4, i5⟩ rec => by rw [f_X2_readRow_L23, (i3.2.2.2.2.1 r hr).1, if_pos (nI_le (Nat.le_refl _) (by omega))]) (R r).length 0 (nI 0) M 4096 (by omega) (by omega) ⟨0, rfl, by omega, rfl, rp, fun i => rfl, cz_fr.rf⟩
  rw [h, cz_lt_e]
  rw [List.take_length] at g2 g3
  obtain ⟨gA, gB⟩ := cz_go_all (w := w) (u := u) (rdm := rdm) hc l4 hlL
  have hkp : ∀ j, cz_kp j → s j = (cz_go w c rdm (R r) (0, s, u)).2.1 j := fun j hj => (cz_go_kp hc hj (R r) (0, s, u)).symm
  have hLi : ∀ i ∈ R r, i < 40 := fun i hi => by have := (l5 i hi).1; omega
  -- the new row
  have hrow1 := g3.2.2.2.2.1 r hr
  have e2 : cz_fr (fun x => x = p + 6 ∨ x = p + 6 + 1) M1 (cz_mI M1 (p + 6) 1 (nI 0)) := cz_fr.mI (Or.inl rfl)
  have f10 : ∀ {A B : cz_M}, cz_fr (fun x => x = p + 6 ∨ x = p + 6 + 1) A B → ∀ i, B.1 (p + 4 + (9 + i)) 10 = A.1 (p + 4 + (9 + i)) 10 := fun hAB i => by rw [(hAB.1 _ (by omega)).1]
  have hpb : ∀ i ∈ R r, (decide (M.1 (p + 4 + (9 + i)) 10 = nI 2 ∨ M.1 (p + 4 + (9 + i)) 10 = nI 3) = cz_pb (cz_go w c rdm (R r) (0, s, u)).2.1 (cz_go w c rdm (R r) (0, s, u)).2.2 0 i) ∧ (decide (M.1 (p + 4 + (9 + i)) 10 = nI 4 ∨ M.1 (p + 4 + (9 + i)) 10 = nI 4) = cz_pb (cz_go w c rdm (R r) (0, s, u)).2.1 (cz_go w c rdm (R r) (0, s, u)).2.2 1 i) := by
    intro i hi
    obtain ⟨k, hk, rfl⟩ := List.mem_iff_getElem.mp hi
    have h5 := l5 _ hi
    have hu0 := hu _ hi
    have b2 := (gB k hk).1 2 (by decide)
    have bu := (gB k hk).2
    unfold cz_pb
    rw [hf k hk, b2, bu, hu0, cz_tl_2 h5.2.2]
    rcases cz_fk_c s w c rdm (R r) k with ht | ht | ht | ht | ht <;> rw [ht] <;> decide
  have hNL : (R r).filter (fun i => decide ((cz_mI M1 (p + 6) 1 (nI 0)).1 (p + 4 + (9 + i)) 10 = nI 2 ∨ (cz_mI M1 (p + 6) 1 (nI 0)).1 (p + 4 + (9 + i)) 10 = nI 3)) = (R r).filter (cz_pb (cz_go w c rdm (R r) (0, s, u)).2.1 (cz_go w c rdm (R r) (0, s, u)).2.2 0) := List.filter_congr (fun i hi => by rw [f10 e2 i, g4 i]; exact (hpb i hi).1)
  have hnl : (cz_nR w s u c rdm (R r)).length ≤ 40 := Nat.le_trans (cz_nl_len _ _ _) l2
  have hsplit : cz_nR w s u c rdm (R r) = (R r).filter (cz_pb (cz_go w c rdm (R r) (0, s, u)).2.1 (cz_go w c rdm (R r) (0, s, u)).2.2 0) ++ (R r).filter (cz_pb (cz_go w c rdm (R r) (0, s, u)).2.1 (cz_go w c rdm (R r) (0, s, u)).2.2 1) := rfl
  have hl2 : ((R r).filter (cz_pb (cz_go w c rdm (R r) (0, s, u)).2.1 (cz_go w c rdm (R r) (0, s, u)).2.2 0)).length ≤ 40 := by rw [hsplit, List.length_append] at hnl; omega
  obtain ⟨M3, f3, b3, e3⟩ := c_appendIf (M := cz_mI M1 (p + 6) 1 (nI 0)) (p := p) (q := p + 5 + (48 + 2 * r)) (t1 := nI 2) (t2 := nI 3) (L := R r) (B := []) (by omega) (cz_rr_fr e2 (by omega) (by omega) hrow1) l2 hLi ⟨by rw [cz_mI_s, pk_us]; rfl, fun k hk => absurd hk (by simp)⟩ (by rw [List.nil_append, hNL]; exact hl2)
  rw [List.nil_append, hNL] at b3
  have e23 := e2.tr e3
  have hNL4 : (R r).filter (fun i => decide (M3.1 (p + 4 + (9 + i)) 10 = nI 4 ∨ M3.1 (p + 4 + (9 + i)) 10 = nI 4)) = (R r).filter (cz_pb (cz_go w c rdm (R r) (0, s, u)).2.1 (cz_go w c rdm (R r) (0, s, u)).2.2 1) := List.filter_congr (fun i hi => by rw [f10 e23 i, g4 i]; exact (hpb i hi).2)
  obtain ⟨M4, f4, b4, e4⟩ := c_appendIf (M := M3) (p := p) (q := p + 5 + (48 + 2 * r)) (t1 := nI 4) (t2 := nI 4) (L := R r) (B := (R r).filter (cz_pb (cz_go w c rdm (R r) (0, s, u)).2.1 (cz_go w c rdm (R r) (0, s, u)).2.2 0)) (by omega) (cz_rr_fr e23 (by omega) (by omega) hrow1) l2 hLi b3 (by rw [hNL4, ← hsplit]; exact hnl)
  rw [hNL4, ← hsplit] at b4
  have e24 := e23.tr e4
  obtain ⟨M5, f5, b5, e5⟩ := c_rowCopy (M := M4) (q := p + 5 + (48 + 2 * r)) (q1 := p + 6) b4 hnl (by omega) (by omega)
  rw [f3, Option.bind_some, f4, Option.bind_some, f5, Option.bind_some, g0]
  have rp4 : cz_rp M4 p (cz_go w c rdm (R r) (0, s, u)).2.1 n R := cz_rp_fr e24 (fun x hx => by omega) hn g3
  refine ⟨M5, j, rfl, by omega, cz_rp_row e5 hr (fun j hj => cz_gt_l hr l2 hj) hn (fun j hj => cz_lw_eq hkp (hlw j hj)) b5 rp4, ?_, fun i hi => ?_, ?_⟩
  · rw [← g2]
    exact cz_cn_c (fun j => cz_gt_l hr l2 (Or.inr (by omega))) n
  · rw [(e5.1 _ (by omega)).1, f10 e24 i, g4 i]
  · exact ((g5.mono (fun x hx => by omega)).tr (e24.mono (fun x hx => by omega))).tr (e5.mono (fun x hx => by omega))
