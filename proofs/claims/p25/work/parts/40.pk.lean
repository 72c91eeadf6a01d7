/-! the invariant of the two sides -/
def cz_iv (b : Nat) (M : cz_M) : Prop := ∃ now hist pc slot used pad len, cz_wq now hist pc slot used pad len ∧ cz_cv b M now hist pc slot used pad len ∧ cz_rv (b + 461) M now hist pc slot used pad len
theorem cz_wq_now {now now' : cz_S} {hist : Nat → cz_S} {pc : Nat} {slot : Nat → cz_S} {used pad : Nat → Nat} {len : Nat} (wf : cz_wq now hist pc slot used pad len) (h : cz_sok now') : cz_wq now' hist pc slot used pad len := ⟨h, wf.2⟩
theorem cz_cv_now {b : Nat} {M M' : cz_M} {now now' : cz_S} {hist : Nat → cz_S} {pc : Nat} {slot : Nat → cz_S} {used pad : Nat → Nat} {len : Nat} (wf : cz_wq now hist pc slot used pad len) (h : cz_fr (fun x => b + 1 ≤ x ∧ x < b + 1 + 57) M M') (hn : cz_srp M' (b + 1) now') (cv : cz_cv b M now hist pc slot used pad len) : cz_cv b M' now' hist pc slot used pad len := by
  have hx : ∀ x, x < b + 1 ∨ b + 58 ≤ x → M'.1 x = M.1 x ∧ M'.2.1 x = M.2.1 x := fun x hx => h.1 x (by omega)
  obtain ⟨c1, c2, c3, c4, c5, c6, c7⟩ := cv
  obtain ⟨w1, ⟨w2, w3⟩, w4, w5⟩ := wf
  have c3' := c3
  obtain ⟨π, hp1, hp2⟩ := c3'
  refine ⟨hn, by rw [(hx b (by omega)).1]; exact c2, by unfold cz_pi at c3 ⊢; rw [h.2]; exact c3, fun i hi => ?_, fun i hi => ?_, by rw [(hx b (by omega)).1]; exact c6, by rw [(hx (b + 118) (by omega)).1]; exact c7⟩
  · rw [h.2]
    have := hp1 i (by omega)
    exact cz_srp_w (fun x h1 h2 => hx x (by omega)) (w3 i hi).1.1.1.1 (c4 i hi)
  · rw [(hx (b + 117) (by omega)).1]
    exact ⟨(c5 i hi).1, fun hu => cz_srp_w (fun x h1 h2 => hx x (by omega)) ((w4 i hi).2 hu).1.1.1.1 ((c5 i hi).2 hu)⟩
theorem cz_rv_now {a : Nat} {M M' : cz_M} {now now' : cz_S} {hist : Nat → cz_S} {pc : Nat} {slot : Nat → cz_S} {used pad : Nat → Nat} {len : Nat} (h : cz_fr (fun x => x = a + 1 ∨ x = a + 2 ∨ x = a + 7 ∨ x = a + 8 ∨ x = a + 9) M M') (hn : M'.1 (a + 1) = now'.1) (hf : cz_fg M' a) (rv : cz_rv a M now hist pc slot used pad len) : cz_rv a M' now' hist pc slot used pad len := by
  obtain ⟨v1, v2, v3, v4, v5, v6, v7⟩ := rv
  refine ⟨hn, ?_, ?_, ?_, ?_, ?_, hf⟩
  · rw [(h.1 a (by omega)).1]; exact v2
  · rw [(h.1 (a + 3) (by omega)).1]; exact v3
  · rw [(h.1 (a + 5) (by omega)).1, (h.1 (a + 4) (by omega)).1]; exact v4
  · rw [(h.1 a (by omega)).1]; exact v5
  · rw [(h.1 (a + 6) (by omega)).1]; exact v6
theorem cz_fg_fr {a : Nat} {M M' : cz_M} {D : Nat → Prop} (h : cz_fr D M M') (h7 : ¬ D (a + 7)) (h8 : ¬ D (a + 8)) (hf : cz_fg M a) : cz_fg M' a := by
  unfold cz_fg at hf ⊢
  rw [(h.1 _ h7).1, (h.1 _ h8).1]
  exact hf
/-- a change: both sides record, and then do what they do -/
theorem cz_change {b : Nat} {M : cz_M} {now now' : cz_S} {hist : Nat → cz_S} {pc : Nat} {slot : Nat → cz_S} {used pad : Nat → Nat} {len : Nat} (wf : cz_wq now hist pc slot used pad len) (cv : cz_cv b M now hist pc slot used pad len) (rv : cz_rv (b + 461) M now hist pc slot used pad len) (hok : cz_sok now') :
    ∃ M1, f_X4_remember M b = some M1 ∧ cz_srp M1 (b + 1) now ∧ ∀ M2, cz_fr (fun x => b + 1 ≤ x ∧ x < b + 1 + 57) M1 M2 → cz_srp M2 (b + 1) now' → ∃ M3, f_X5_record M2 (b + 461) = some M3 ∧ M3.1 (b + 461 + 1) = now.1 ∧ cz_fg M3 (b + 461) ∧ M2.1 (b + 461 + 1) = now.1 ∧ ∀ M4, cz_fr (fun x => x = b + 461 + 1 ∨ x = b + 461 + 2 ∨ x = b + 461 + 7 ∨ x = b + 461 + 8 ∨ x = b + 461 + 9) M3 M4 → M4.1 (b + 461 + 1) = now'.1 → cz_fg M4 (b + 461) → cz_iv b M4 := by
  obtain ⟨M1, f1, cv1, e1⟩ := c_remember M b wf cv
  have wf1 := cz_wq_rec wf
  refine ⟨M1, f1, cv1.1, fun M2 e2 hn2 => ?_⟩
  have cv2 := cz_cv_now wf1 e2 hn2 cv1
  have rv2 : cz_rv (b + 461) M2 now hist pc slot used pad len := cz_rv_w (D := fun x => b ≤ x ∧ x < b + 461) (e1.tr (e2.w (fun x hx => by omega))) (fun x hx => by omega) rv
  obtain ⟨M3, f3, rv3, e3⟩ := m_record M2 (b + 461) wf rv2
  refine ⟨M3, f3, rv3.1, rv3.2.2.2.2.2.2, rv2.1, fun M4 e4 h4 hf4 => ?_⟩
  have wf2 := cz_wq_now wf1 hok
  exact ⟨now', cz_hp hist pc now, cz_hc pc, slot, used, pad, len, wf2, cz_cv_w e4 (fun x hx => by omega) wf2 (cz_cv_w e3 (fun x hx => by omega) wf2 cv2), cz_rv_now e4 h4 hf4 rv3⟩
theorem cz_not_lt {x y : Int32} (h : ¬ y < x) : x ≤ y := Int32.not_lt.mp h
theorem cz_lt_not {x y : Int32} (h : y < x) : ¬ x ≤ y := fun z => absurd h (Int32.not_lt.mpr z)
/-- an int between two small numbers is one -/
theorem cz_btw {x : Int32} {l h : Nat} (hh : h < 2 ^ 31) (h1 : ¬ x < nI l) (h2 : ¬ nI h < x) (hl : l ≤ h) : ∃ k, l ≤ k ∧ k ≤ h ∧ x = nI k := by
  have g1 : nI l ≤ x := Int32.not_lt.mp h1
  have g2 : x ≤ nI h := Int32.not_lt.mp h2
  rw [Int32.le_iff_toInt_le, nI_toInt (by omega)] at g1
  rw [Int32.le_iff_toInt_le, nI_toInt hh] at g2
  refine ⟨x.toInt.toNat, by omega, by omega, ?_⟩
  apply Int32.toInt_inj.mp
  rw [nI_toInt (by omega)]
  omega
theorem o_pass (M : cz_M) (b : Nat) (x : Int32) (iv : cz_iv b M) : ∃ v M1 M2, f_X4_pass M b x = some (v, M1) ∧ f_X5_pass M1 (b + 461) x = some (v, M2) ∧ cz_iv b M2 := by
  obtain ⟨now, hist, pc, slot, used, pad, len, wf, cv, rv⟩ := id iv
  obtain ⟨s, n, W, R⟩ := now
  obtain ⟨ok, hW9⟩ := wf.1
  have ok : cz_ok s n W R := ok
  have hW9 : W ≤ 9999 := hW9
  have hs3 : s 3 = nI W := ok.1.1.2.2.2
  have h8 : M.1 (b + 1) 8 = nI W := cv.1.2.1.1.trans hs3
  rw [f_X4_pass]
  by_cases h1 : x < nI 1
  · rw [if_pos h1]
    exact ⟨_, _, M, rfl, by rw [f_X5_pass, m_in, if_pos h1, Option.bind_some, if_pos rfl], iv⟩
  · rw [if_neg h1]
    by_cases h2 : nI 52 < x
    · rw [if_neg (cz_lt_not h2)]
      exact ⟨_, _, M, rfl, by rw [f_X5_pass, m_in, if_neg h1, if_pos h2, Option.bind_some, if_pos rfl], iv⟩
    · rw [if_pos (cz_not_lt h2), h8]
      obtain ⟨k, hk1, hk2, rfl⟩ := cz_btw (by decide) h1 h2 (by decide)
      have hm : ∀ (A : cz_M), A.1 (b + 461 + 1) = s → f_X5_pass A (b + 461) (nI k) = if nI (W + k) ≤ nI 9999 then (f_X5_record A (b + 461)).bind (fun M5 => cz_b2 (f_X5_passes M5 (b + 461) (nI k)) fun v7 M6 => some (v7, M6)) else some ((-4 : Int32), A) := fun A hA => by
        rw [f_X5_pass, m_in, if_neg h1, if_neg h2, Option.bind_some, if_neg (by decide), cz_gdn (by decide) (by decide), cz_cl (by decide), hA, hs3, nI_add]
      rw [nI_add]
      by_cases h3 : W + k ≤ 9999
      · rw [if_pos (nI_le h3 (by decide))]
        have hok' : cz_sok ((cz_sk s n W R k).1, n, W + k, (cz_sk s n W R k).2) := ⟨cz_ok_sk ok k (by omega), h3⟩
        obtain ⟨M1, f1, g1, hch⟩ := cz_change wf cv rv hok'
        obtain ⟨M2, f2, g2, e2⟩ := c_passWeeks M1 (b + 1) ok g1 (K := k) (by omega) (by omega)
        obtain ⟨M3, f3, s3, q3, s2, hfin⟩ := hch M2 e2 g2
        obtain ⟨M4, f4, s4, q4, e4⟩ := m_passes M3 (b + 461) ok s3 q3 (K := k) (by omega) (by omega)
        refine ⟨_, M2, M4, by rw [f1, Option.bind_some, f2, cz_b2_s], ?_, hfin M4 (e4.mono (fun x hx => by omega)) s4 q4⟩
        rw [hm M2 s2, if_pos (nI_le h3 (by decide)), f3, Option.bind_some, f4, cz_b2_s]
      · rw [if_neg (nI_ge (by omega) (by omega))]
        exact ⟨_, _, M, rfl, by rw [hm M rv.1, if_neg (nI_ge (by omega) (by omega))], iv⟩
