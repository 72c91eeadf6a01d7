/-! the class judges a week -/
theorem cz_dig_26 (s : Nat → Int32) (i k : Nat) : cz_dig s i k < 26 := Nat.mod_lt _ (by decide)
theorem c_places {M : cz_M} {q c i S : Nat} {s : Nat → Int32} (rl : cz_rl M q s i) (hw : cz_lw s i) (hS : s (13 + 4 * c) = nI S) (hS2 : S < 2 ^ 26) : f_X1_placesOf M q (nI S) = some (nI (cz_ms s c i)) := by
  obtain ⟨l, hl1, hl8, hl⟩ := hw.1
  obtain ⟨-, -, e3, -, -, -, -, -, -, -, e11⟩ := rl
  rw [cz_no_e hl (by omega)] at e11
  rw [c_placesOf M q hS2 (e3.trans hl) hl8 (cz_dig_26 s i) e11]
  unfold cz_ms
  rw [hS, hl, cz_cl (by omega), cz_cl (by omega)]
theorem c_fate {M : cz_M} {p q c i S : Nat} {s : Nat → Int32} (rl : cz_rl M q s i) (h1 : M.1 (p + 1) 1 = s 1) (h2 : M.1 (p + 1) 2 = s 2) (hw : cz_lw s i) (hS : s (13 + 4 * c) = nI S) (hS2 : S < 2 ^ 26) : f_X2_fateIfRead M p q (nI S) = some (nI (cz_ft s c i)) := by
  rw [f_X2_fateIfRead, c_places rl hw hS hS2, Option.bind_some, c_bits8 _ (cz_ms_256 hw), Option.bind_some, cz_gdn (by decide) (by decide), cz_cl (by decide), h1, cz_gdn (by decide) (by decide), cz_cl (by decide), h2, rl.2.2.2.2.2.2.2.1]
  unfold cz_ft
  by_cases h : s 1 < nI (cz_pc (cz_ms s c i))
  · rw [if_pos h, if_pos h]
    by_cases h2 : s (111 + 11 * i + 6) + nI 1 < s 2
    · rw [if_pos h2, if_pos h2]
    · rw [if_neg h2, if_neg h2]
  · rw [if_neg h, if_neg h]
theorem c_censorNumber (M : cz_M) (p : Nat) {W r c : Nat} (hr : r < 2) (hW : W < 2 ^ 31) (hc : M.1 (p + 3) (2 * (W % 4) + r) = nI c) : f_X2_censorNumber M p (nI W) (nI r) = some (nI c) := by
  have h4 : W % 4 < 4 := Nat.mod_lt _ (by decide)
  rw [f_X2_censorNumber, pk_rem hW (by decide) (by decide), pk_mul, nI_add, cz_gdn (by omega) (by decide), cz_cl (by omega), hc]
/-- only fates differ -/
def cz_jf (p : Nat) (M M' : cz_M) : Prop := (∀ x y, ¬ (y = 10 ∧ p + 13 ≤ x ∧ x < p + 53) → M'.1 x y = M.1 x y) ∧ M'.2 = M.2
theorem cz_jf.rf {p : Nat} {M : cz_M} : cz_jf p M M := ⟨fun _ _ _ => rfl, rfl⟩
theorem cz_jf.mI {p x : Nat} {M M' : cz_M} {v : Int32} (h : cz_jf p M M') (h1 : p + 13 ≤ x) (h2 : x < p + 53) : cz_jf p M (cz_mI M' x 10 v) := by
  refine ⟨fun a b hab => ?_, h.2⟩
  rw [cz_mI_1, if_neg (by rintro ⟨rfl, rfl⟩; exact hab ⟨rfl, h1, h2⟩)]
  exact h.1 a b hab
theorem cz_jf.rl {p q i : Nat} {s : Nat → Int32} {M M' : cz_M} (h : cz_jf p M M') (rl : cz_rl M q s i) : cz_rl M' q s i := by
  unfold cz_rl at rl ⊢
  rw [h.1 q 0 (by omega), h.1 q 1 (by omega), h.1 q 3 (by omega), h.1 q 4 (by omega), h.1 q 5 (by omega), h.1 q 6 (by omega), h.1 q 7 (by omega), h.1 q 8 (by omega), h.1 q 9 (by omega), h.2]
  exact rl
theorem cz_jf.rr {p q : Nat} {l : List Nat} {M M' : cz_M} (h : cz_jf p M M') (hq : q + 1 < p + 13 ∨ p + 53 ≤ q) (rr : cz_rr M q l) : cz_rr M' q l := by
  refine ⟨(h.1 q 1 (by omega)).trans rr.1, fun k hk => (h.1 (q + 1) k (by omega)).trans (rr.2 k hk)⟩
theorem cz_jf.rp {p n : Nat} {s : Nat → Int32} {R : Nat → List Nat} {M M' : cz_M} (h : cz_jf p M M') (rp : cz_rp M p s n R) : cz_rp M' p s n R := by
  obtain ⟨r1, ⟨r2, r3⟩, r4, r5, r6, r7⟩ := rp
  exact ⟨fun k hk => (h.1 _ _ (by omega)).trans (r1 k hk), ⟨(h.1 _ _ (by omega)).trans r2, (h.1 _ _ (by omega)).trans r3⟩, fun k hk => (h.1 _ _ (by omega)).trans (r4 k hk), fun c hc f hf => (h.1 _ _ (by omega)).trans (r5 c hc f hf), fun r hr => h.rr (by omega) (r6 r hr), fun i hi => h.rl (r7 i hi)⟩
theorem cz_rp_8 {p n : Nat} {s : Nat → Int32} {R : Nat → List Nat} {M M' : cz_M} (h : cz_fr (fun x => x = p + 8) M M') (rp : cz_rp M p s n R) : cz_rp M' p s n R := by
  obtain ⟨r1, ⟨r2, r3⟩, r4, r5, r6, r7⟩ := rp
  refine ⟨fun k hk => by rw [(h.1 (p + 1) (by omega)).1]; exact r1 k hk, ⟨by rw [(h.1 p (by omega)).1]; exact r2, by rw [(h.1 p (by omega)).1]; exact r3⟩, fun k hk => by rw [(h.1 (p + 3) (by omega)).1]; exact r4 k hk, fun c hc f hf => by rw [(h.1 (p + 2 + (7 + c)) (by omega)).1]; exact r5 c hc f hf, fun r hr => cz_rr_fr h (by omega) (by omega) (r6 r hr), fun i hi => ?_⟩
  unfold cz_rl
  rw [(h.1 (p + 4 + (9 + i)) (by omega)).1, (h.1 (p + 4 + (9 + i)) (by omega)).2]
  exact r7 i hi
set_option maxHeartbeats 2000000 in
theorem c_judgeRow (M : cz_M) (p : Nat) {s : Nat → Int32} {n W T r : Nat} {R : Nat → List Nat} (om : cz_om s n W T R) (rp : cz_rp M p s n R) (hd : cz_hd (M.1 (p + 8)) s (R 0 ++ R 1)) (hr : r < 2) :
    ∃ M', f_X2_judgeRow M p (nI r) = some M' ∧ (∀ k (h : k < (R r).length), M'.1 (p + 4 + (9 + (R r)[k])) 10 = nI (cz_fk s (cz_wt s) (cz_no s (5 + 2 * (W % 4) + r)) (cz_no s 0) (R r) k)) ∧ (∀ i, i ∉ R r → M'.1 (p + 4 + (9 + i)) 10 = M.1 (p + 4 + (9 + i)) 10) ∧ cz_jf p M M' := by
  have om0 := om
  obtain ⟨⟨hn, hs4, hW, hs3⟩, ⟨⟨rdm, hrd, hs0⟩, -⟩, hro, hst, hrw, hle, -⟩ := om
  have rp0 := rp
  obtain ⟨r1, ⟨r2, r3⟩, r4, r5, r6, r7⟩ := rp
  have h4 : W % 4 < 4 := Nat.mod_lt _ (by decide)
  obtain ⟨c, hc, hq⟩ := hro (2 * (W % 4) + r) (by omega)
  have hq : s (5 + 2 * (W % 4) + r) = nI c := by rw [Nat.add_assoc]; exact hq
  obtain ⟨S, hS, hT⟩ := hst c hc
  obtain ⟨l1, l2, l3, l4, l5⟩ := hrw r hr
  have n0 : cz_no s (5 + 2 * (W % 4) + r) = c := cz_no_e hq (by omega)
  have n2 : cz_no s 0 = rdm := cz_no_e hs0 (by omega)
  rw [n0, n2]
  have hset : M.1 (p + 2 + (7 + c)) 0 = nI S := (r5 c hc 0 (by decide)).trans hT
  have hcn : f_X2_censorNumber M p (M.1 p 8) (nI r) = some (nI c) := by
    rw [r2, hs3]
    exact c_censorNumber M p hr (by omega) (by rw [r4 _ (by omega), ← Nat.add_assoc]; exact hq)
  rw [f_X2_judgeRow, cz_gdn hr (by decide), cz_cl (by omega), cz_lt_e, hcn, Option.bind_some, cz_gdn hc (by decide), cz_cl (by omega), hset, cz_lt_e]
  obtain ⟨s', t', ⟨g1, g2, g3, g4⟩, h⟩ := cz_for3 (F := f_X2_judgeRow_L31 p (p + 5 + (48 + 2 * r)) (nI S) (fun x32 x33 M34 => some M34)) (fun k (x : Int32) (m : cz_M) => x = nI (min rdm (cz_nb s (cz_wt s) ((R r).take k))) ∧ (∀ j (h : j < (R r).length), j < k → m.1 (p + 4 + (9 + (R r)[j])) 10 = nI (cz_fk s (cz_wt s) c rdm (R r) j)) ∧ (∀ i, i ∉ R r → m.1 (p + 4 + (9 + i)) 10 = M.1 (p + 4 + (9 + i)) 10) ∧ cz_jf p M m) (fun x m => some m) (R r).length
    (fun k x m hk ⟨i1, i2, i3, i4⟩ => by
      subst i1
      have hmem : (R r)[k] ∈ R r := List.getElem_mem hk
      have h5 := l5 _ hmem
      obtain ⟨t, ht, hti⟩ := (hle _ h5.1).2.1
      have hlw := (hle _ h5.1).1
      have hi40 : (R r)[k] < 40 := by omega
      have rl : cz_rl m (p + 4 + (9 + (R r)[k])) s (R r)[k] := i4.rl (r7 _ h5.1)
      have hbar := cz_hd_bar om0 hd hr hmem ht hti
      have em8 : m.1 (p + 8) t = M.1 (p + 8) t := i4.1 _ _ (by omega)
      have em1 : ∀ y, y < 3 → m.1 (p + 1) y = s y := fun y hy => (i4.1 _ _ (by omega)).trans (r1 y hy)
      have hst1 : ∀ rec, f_X2_judgeRow_L31 p (p + 5 + (48 + 2 * r)) (nI S) (fun x32 x33 M34 => some M34) rec (nI (min rdm (cz_nb s (cz_wt s) ((R r).take k)))) (nI k) m = if M.1 (p + 8) t = nI (R r)[k] then (if nI (min rdm (cz_nb s (cz_wt s) ((R r).take k))) < nI rdm then rec (nI (min rdm (cz_nb s (cz_wt s) ((R r).take k)) + 1)) (nI (k + 1)) (cz_mI m (p + 4 + (9 + (R r)[k])) 10 (nI (cz_ft s c (R r)[k]))) else rec (nI (min rdm (cz_nb s (cz_wt s) ((R r).take k)))) (nI (k + 1)) (cz_mI m (p + 4 + (9 + (R r)[k])) 10 (nI 3))) else rec (nI (min rdm (cz_nb s (cz_wt s) ((R r).take k)))) (nI (k + 1)) (cz_mI m (p + 4 + (9 + (R r)[k])) 10 (nI 2)) := by
        intro rec
        rw [f_X2_judgeRow_L31, (i4.rr (by omega) (r6 r hr)).1, if_neg (nI_ge hk (by omega)), cz_gdn (by omega) (by decide), cz_cl (by omega), (i4.rr (by omega) (r6 r hr)).2 k hk, cz_lt_e, cz_gdn hi40 (by decide), cz_cl (by omega), cz_lt_e, rl.1, hti, cz_gdn ht (by decide), cz_cl (by omega), em8, cz_gdn (by decide) (by decide), cz_cl (by decide), em1 0 (by decide), hs0, c_fate rl (em1 1 (by decide)) (em1 2 (by decide)) hlw hT hS, Option.bind_some]
        simp only [cz_lt_e, nI_add]
      have hfk : cz_fk s (cz_wt s) c rdm (R r) k = if cz_bar s (cz_wt s) (R r)[k] then 2 else if cz_nb s (cz_wt s) ((R r).take k) < rdm then cz_ft s c (R r)[k] else 3 := by
        unfold cz_fk
        rw [cz_gD hk]
      have hnew : ∀ v, v = nI (cz_fk s (cz_wt s) c rdm (R r) k) → (∀ j (h : j < (R r).length), j < k + 1 → (cz_mI m (p + 4 + (9 + (R r)[k])) 10 v).1 (p + 4 + (9 + (R r)[j])) 10 = nI (cz_fk s (cz_wt s) c rdm (R r) j)) ∧ (∀ i, i ∉ R r → (cz_mI m (p + 4 + (9 + (R r)[k])) 10 v).1 (p + 4 + (9 + i)) 10 = M.1 (p + 4 + (9 + i)) 10) ∧ cz_jf p M (cz_mI m (p + 4 + (9 + (R r)[k])) 10 v) := by
        intro v hv
        refine ⟨fun j hj hjk => ?_, fun i hi => ?_, i4.mI (by omega) (by omega)⟩
        · by_cases hjk2 : j = k
          · subst hjk2
            rw [cz_mI_s, pk_us, hv]
          · have hne : (R r)[j] ≠ (R r)[k] := fun z => hjk2 (cz_nd l4 hj hk z)
            rw [cz_mI_o (by omega)]
            exact i2 j hj (by omega)
        · have hne : i ≠ (R r)[k] := fun z => hi (by rw [z]; exact hmem)
          rw [cz_mI_o (by omega)]
          exact i3 i hi
      rw [cz_take hk, cz_nb_snoc]
      by_cases hb : cz_bar s (cz_wt s) (R r)[k]
      · rw [if_pos hb] at hfk ⊢
        refine ⟨nI (min rdm (cz_nb s (cz_wt s) ((R r).take k))), cz_mI m (p + 4 + (9 + (R r)[k])) 10 (nI 2), fun rec => by rw [hst1, if_neg (fun z => (hbar.mp z) hb)], rfl, hnew _ (by rw [hfk])⟩
      · rw [if_neg hb] at hfk ⊢
        by_cases hq : cz_nb s (cz_wt s) ((R r).take k) < rdm
        · rw [if_pos hq] at hfk
          refine ⟨_, _, fun rec => by rw [hst1, if_pos (hbar.mpr hb), if_pos (nI_lt (by omega) (by omega))], ?_, hnew _ (by rw [hfk])⟩
          congr 1
          omega
        · rw [if_neg hq] at hfk
          refine ⟨_, _, fun rec => by rw [hst1, if_pos (hbar.mpr hb), if_neg (nI_nlt (by omega) (by omega))], ?_, hnew _ (by rw [hfk])⟩
          congr 1
          omega)
    (fun x m hI rec => by rw [f_X2_judgeRow_L31, (hI.2.2.2.rr (by omega) (r6 r hr)).1, if_pos (nI_le (Nat.le_refl _) (by omega))]) (R r).length 0 (nI 0) M 4096 (by omega) (by omega) ⟨by simp [cz_nb], fun j h hj => by omega, fun i hi => rfl, cz_jf.rf⟩
  exact ⟨t', h, fun k hk => g2 k hk hk, g3, g4⟩
theorem c_judgeWeek (M : cz_M) (p : Nat) {s : Nat → Int32} {n W T : Nat} {R : Nat → List Nat} (om : cz_om s n W T R) (rp : cz_rp M p s n R) :
    ∃ M', f_X2_judgeWeek M p = some M' ∧ (∀ r, r < 2 → ∀ k (h : k < (R r).length), M'.1 (p + 4 + (9 + (R r)[k])) 10 = nI (cz_fk s (cz_wt s) (cz_no s (5 + 2 * (W % 4) + r)) (cz_no s 0) (R r) k)) ∧ cz_rp M' p s n R ∧ cz_fr (fun x => p ≤ x ∧ x < p + 57) M M' := by
  obtain ⟨M1, f1, g1, e1⟩ := c_findHeads M p om rp
  have rp1 := cz_rp_8 e1 rp
  obtain ⟨M2, f2, g2, h2, e2⟩ := c_judgeRow M1 p om rp1 g1 (r := 0) (by decide)
  have rp2 := e2.rp rp1
  have hd2 : cz_hd (M2.1 (p + 8)) s (R 0 ++ R 1) := by
    have : M2.1 (p + 8) = M1.1 (p + 8) := funext fun y => e2.1 _ _ (by omega)
    rw [this]
    exact g1
  obtain ⟨M3, f3, g3, h3, e3⟩ := c_judgeRow M2 p om rp2 hd2 (r := 1) (by decide)
  have fr : ∀ {A B : cz_M}, cz_jf p A B → cz_fr (fun x => p ≤ x ∧ x < p + 57) A B := fun h => ⟨fun x hx => ⟨funext fun y => h.1 x y (by omega), by rw [h.2]⟩, by rw [h.2]⟩
  refine ⟨M3, ?_, fun r hr k hk => ?_, e3.rp rp2, ((e1.mono (fun x hx => by omega)).tr (fr e2)).tr (fr e3)⟩
  · rw [f_X2_judgeWeek, f1, Option.bind_some]
    show f_X2_judgeWeek_L6 p (fun x6 M7 => some M7) (cz_it2 (f_X2_judgeWeek_L6 p (fun x6 M7 => some M7)) 4095) (nI 0) M1 = _
    rw [f_X2_judgeWeek_L6, if_neg (nI_ge (by decide) (by decide)), f2, Option.bind_some, cz_lt_e, nI_add]
    show f_X2_judgeWeek_L6 p (fun x6 M7 => some M7) (cz_it2 (f_X2_judgeWeek_L6 p (fun x6 M7 => some M7)) 4094) (nI 1) M2 = _
    rw [f_X2_judgeWeek_L6, if_neg (nI_ge (by decide) (by decide)), f3, Option.bind_some, cz_lt_e, nI_add]
    show f_X2_judgeWeek_L6 p (fun x6 M7 => some M7) (cz_it2 (f_X2_judgeWeek_L6 p (fun x6 M7 => some M7)) 4093) (nI 2) M3 = _
    rw [f_X2_judgeWeek_L6, if_pos (nI_le (Nat.le_refl _) (by decide))]
  · rcases (show r = 0 ∨ r = 1 by omega) with rfl | rfl
    · rw [h3 _ (fun z => cz_ok_dj om (List.getElem_mem hk) z)]
      exact g2 k hk
    · exact g3 k hk
