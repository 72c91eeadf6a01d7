/-! burn, on both sides -/
theorem c_takeOut (M : cz_M) (q : Nat) {L : List Nat} {p : Nat} (rr : cz_rr M q L) (hL : L.length ≤ 40) (hi : ∀ i ∈ L, i < 40) (hnd : L.Nodup) (hp : p < L.length) :
    ∃ M', f_X3_takeOut M q (nI L[p]) = some M' ∧ cz_rr M' q (L.eraseIdx p) ∧ cz_fr (fun x => x = q ∨ x = q + 1) M M' := by
  obtain ⟨r1, r2⟩ := rr
  have hp40 := hi _ (List.getElem_mem hp)
  rw [f_X3_takeOut]
  obtain ⟨x', m', ⟨i1, i2, i3⟩, h⟩ := cz_for3 (F := f_X3_takeOut_L4 q (nI L[p]) (fun x13 x14 M15 => cz_lt (cz_mI M15 q 1 x13) fun M16 => some M16)) (fun k (x : Int32) (m : cz_M) => x = nI (if k ≤ p then k else k - 1) ∧ (∀ j, m.1 (q + 1) j = if p ≤ j ∧ j + 1 < k then M.1 (q + 1) (j + 1) else M.1 (q + 1) j) ∧ cz_fr (fun x => x = q + 1) M m) (fun x m => some (cz_mI m q 1 x)) L.length
    (fun k x m hk ⟨i1, i2, i3⟩ => by
      have eq0 : m.1 q = M.1 q := (i3.1 q (by omega)).1
      have hkv : m.1 (q + 1) k = nI L[k] := by rw [i2, if_neg (by omega)]; exact r2 k hk
      have hk40 := hi _ (List.getElem_mem hk)
      have e0 : ∀ rec, f_X3_takeOut_L4 q (nI L[p]) (fun x13 x14 M15 => cz_lt (cz_mI M15 q 1 x13) fun M16 => some M16) rec x (nI k) m = if nI L[k] = nI L[p] then rec x (nI (k + 1)) m else rec (nI ((if k ≤ p then k else k - 1) + 1)) (nI (k + 1)) (cz_mI m (q + 1) (if k ≤ p then k else k - 1) (nI L[k])) := fun rec => by
        have hb : (if k ≤ p then k else k - 1) < 40 := by split <;> omega
        rw [f_X3_takeOut_L4, eq0, r1, if_neg (nI_ge hk (by omega)), cz_gdn (by omega) (by decide), cz_cl (by omega), hkv, cz_lt_e, cz_gdn (by omega) (by decide), i1, cz_gdn hb (by decide), cz_lt_e, cz_lt_e, cz_lt_e, cz_cl (show (if k ≤ p then k else k - 1) < 2 ^ 31 by omega), nI_add, nI_add]
      by_cases hkp : k = p
      · subst hkp
        refine ⟨x, m, fun rec => by rw [e0, if_pos rfl], ?_, fun j => ?_, i3⟩
        · rw [i1, if_pos (Nat.le_refl _), if_neg (by omega), Nat.add_sub_cancel]
        · rw [i2, if_neg (by omega), if_neg (by omega)]
      · have hne : ¬ nI L[k] = nI L[p] := fun z => hkp (cz_nd hnd hk hp (cz_nI_inj (by omega) (by omega) z))
        refine ⟨_, _, fun rec => by rw [e0, if_neg hne], ?_, fun j => ?_, i3.tr (cz_fr.mI rfl)⟩
        · by_cases hlt : k ≤ p
          · rw [if_pos hlt, if_pos (by omega)]
          · rw [if_neg hlt, if_neg (by omega)]
            congr 1
            omega
        · rw [cz_mI_s]
          by_cases hlt : k ≤ p
          · rw [if_pos hlt]
            by_cases hjk : j = k
            · subst hjk; rw [pk_us, if_neg (by omega)]; exact (r2 j hk).symm
            · rw [pk_un hjk, i2, if_neg (by omega), if_neg (by omega)]
          · rw [if_neg hlt]
            by_cases hjk : j = k - 1
            · subst hjk
              rw [pk_us, if_pos (by omega), show k - 1 + 1 = k by omega]
              exact (r2 k hk).symm
            · rw [pk_un hjk, i2]
              by_cases h1 : p ≤ j ∧ j + 1 < k
              · rw [if_pos h1, if_pos (by omega)]
              · rw [if_neg h1, if_neg (by omega)])
    (fun x m ⟨i1, i2, i3⟩ rec => by
      rw [f_X3_takeOut_L4, (i3.1 q (by omega)).1, r1, if_pos (nI_le (Nat.le_refl _) (by omega))]
      rfl) L.length 0 (nI 0) M 4096 (by omega) (by omega) ⟨rfl, fun j => by rw [if_neg (by omega)], cz_fr.rf⟩
  refine ⟨_, h, ⟨?_, fun k hk => ?_⟩, (i3.mono (fun x hx => Or.inr hx)).tr (cz_fr.mI (Or.inl rfl))⟩
  · rw [cz_mI_s, pk_us, i1, if_neg (by omega), cz_ei_len hp]
  · have hk2 := hk
    rw [cz_ei_len hp] at hk2
    rw [cz_mI_o (by omega), i2, cz_ei_get hp hk]
    by_cases hkp : k < p
    · rw [if_neg (by omega), dif_pos hkp]; exact r2 k (by omega)
    · rw [if_pos (by omega), dif_neg hkp]; exact r2 (k + 1) (by omega)
theorem c_burnWaiting (M : cz_M) (b : Nat) {s : Nat → Int32} {n W r p : Nat} {R : Nat → List Nat} (ok : cz_ok s n W R) (rp : cz_rp M b s n R) (hr : r < 2) (hp : p < (R r).length) :
    ∃ M', f_X2_burnWaiting M b (nI (R r)[p]) = some M' ∧ cz_rp M' b (cz_bn s (R r)[p] r p (R r).length) n (cz_bR R r p) ∧ cz_fr (fun x => b ≤ x ∧ x < b + 57) M M' := by
  have hn : n ≤ 40 := ok.1.1.1
  obtain ⟨l1, l2, l3, l4, l5⟩ := ok.1.2.2.2.2.1 r hr
  have hi5 := l5 _ (List.getElem_mem hp)
  have hLi : ∀ i ∈ R r, i < 40 := fun i hi => by have := (l5 i hi).1; omega
  have hl0 : 0 < (R r).length := by omega
  obtain ⟨p1, ⟨p2, p3⟩, p4, p5, p6, p7⟩ := rp
  have ri := p7 _ hi5.1
  have hip : M.1 (b + 4 + (9 + (R r)[p])) 1 = nI r := ri.2.1.trans hi5.2.1
  have e1 : cz_fr (fun x => x = b + 4 + (9 + (R r)[p])) M (cz_mI M (b + 4 + (9 + (R r)[p])) 5 (nI 2)) := cz_fr.mI rfl
  have rrr := p6 r hr
  obtain ⟨M', f', g', e'⟩ := c_takeOut (cz_mI M (b + 4 + (9 + (R r)[p])) 5 (nI 2)) (b + 5 + (48 + 2 * r)) (L := R r) (p := p) (by
    unfold cz_rr
    rw [(e1.1 _ (by omega)).1, (e1.1 _ (by omega)).1]
    exact rrr) l2 hLi l4 hp
  have e2 : cz_fr (fun x => x = b + 4 + (9 + (R r)[p]) ∨ x = b + 5 + (48 + 2 * r) ∨ x = b + 5 + (48 + 2 * r) + 1) M M' := (e1.mono (fun x hx => Or.inl hx)).tr (e'.mono (fun x hx => Or.inr hx))
  have ho : ∀ j, j ≠ 111 + 11 * (R r)[p] + 2 → j ≠ 29 + r → (j < 31 + 40 * r ∨ 31 + 40 * r + 40 ≤ j) → cz_bn s (R r)[p] r p (R r).length j = s j := fun j => cz_bn_o l2 hl0
  have hi2 : cz_bn s (R r)[p] r p (R r).length (111 + 11 * (R r)[p] + 2) = nI 2 := cz_bn_i hr l2 hl0
  refine ⟨M', ?_, ⟨fun k hk => ?_, ⟨?_, ?_⟩, fun k hk => ?_, fun c hc f hf => ?_, fun x hx => ?_, fun j hj => ?_⟩, e2.mono (fun x hx => by omega)⟩
  · have h40 := hLi _ (List.getElem_mem hp)
    rw [f_X2_burnWaiting, cz_gdn h40 (by decide), cz_cl (by omega), cz_lt_e, cz_gdn h40 (by decide), cz_mI_s, pk_un (by decide), hip, cz_gdn hr (by decide), cz_cl (by omega), f', Option.bind_some]
  · rw [(e2.1 _ (by omega)).1, ho _ (by omega) (by omega) (by omega)]; exact p1 k hk
  · rw [(e2.1 _ (by omega)).1, ho _ (by omega) (by omega) (by omega)]; exact p2
  · rw [(e2.1 _ (by omega)).1, ho _ (by omega) (by omega) (by omega)]; exact p3
  · rw [(e2.1 _ (by omega)).1, ho _ (by omega) (by omega) (by omega)]; exact p4 k hk
  · rw [(e2.1 _ (by omega)).1, ho _ (by omega) (by omega) (by omega)]; exact p5 c hc f hf
  · unfold cz_bR
    by_cases hxr : x = r
    · subst hxr; rw [if_pos rfl]; exact g'
    · rw [if_neg hxr]
      unfold cz_rr
      rw [(e2.1 _ (by omega)).1, (e2.1 _ (by omega)).1]
      exact p6 x hx
  · by_cases hji : j = (R r)[p]
    · subst hji
      have hoi : ∀ w, w < 11 → w ≠ 2 → cz_bn s (R r)[p] r p (R r).length (111 + 11 * (R r)[p] + w) = s (111 + 11 * (R r)[p] + w) := fun w hw h => ho _ (by omega) (by omega) (by omega)
      have hoi0 : cz_bn s (R r)[p] r p (R r).length (111 + 11 * (R r)[p]) = s (111 + 11 * (R r)[p]) := hoi 0 (by decide) (by decide)
      have em : M'.1 (b + 4 + (9 + (R r)[p])) = upd (M.1 (b + 4 + (9 + (R r)[p]))) 5 (nI 2) := by
        rw [(e'.1 _ (by omega)).1, cz_mI_s]
      have em2 : M'.2.1 (b + 4 + (9 + (R r)[p])) = M.2.1 (b + 4 + (9 + (R r)[p])) := (e'.1 _ (by omega)).2
      obtain ⟨a0, a1, a3, a4, a5, a6, a6', a7, a8, a9, a10⟩ := ri
      obtain ⟨⟨l, hl1, hl8, hl⟩, -⟩ := (ok.1.2.2.2.2.2.1 _ hi5.1).1
      unfold cz_rl
      rw [em, em2, hi2, hoi0, hoi 1 (by decide) (by decide), hoi 3 (by decide) (by decide), hoi 4 (by decide) (by decide), hoi 5 (by decide) (by decide), hoi 6 (by decide) (by decide), hoi 7 (by decide) (by decide), hoi 8 (by decide) (by decide)]
      refine ⟨(pk_un (by decide)).trans a0, (pk_un (by decide)).trans a1, (pk_un (by decide)).trans a3, (pk_un (by decide)).trans a4, ?_, fun z => absurd z (by decide), fun z => absurd z (by decide), (pk_un (by decide)).trans a7, (pk_un (by decide)).trans a8, (pk_un (by decide)).trans a9, ?_⟩
      · rw [pk_us, if_neg (by decide)]
      · have en : cz_no (cz_bn s (R r)[p] r p (R r).length) (111 + 11 * (R r)[p] + 8) = cz_no s (111 + 11 * (R r)[p] + 8) := by
          unfold cz_no
          rw [hoi 8 (by decide) (by decide)]
        rw [a10, en]
        congr 1
        have hno : cz_no s (111 + 11 * (R r)[p] + 8) = l := cz_no_e hl (by omega)
        rw [hno]
        refine cz_wN_congr (fun k hk => ?_)
        show 97 + cz_dig s (R r)[p] k = 97 + cz_dig (cz_bn s (R r)[p] r p (R r).length) (R r)[p] k
        unfold cz_dig
        rw [hoi (9 + k / 4) (by omega) (by omega)]
    · refine cz_rl_c (e2.1 _ (by omega)).1 (e2.1 _ (by omega)).2 (fun f hf => ho _ (by omega) (by omega) (by omega)) (ho _ (by omega) (by omega) (by omega)) (ok.1.2.2.2.2.2.1 j hj).1 (p7 j hj)
