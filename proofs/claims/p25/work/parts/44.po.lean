theorem cz_in1 {x : Int32} : (∃ i, i < 2 ∧ x = nI i ∧ f_X5_in x (nI 0) (nI 1) = some (nI 1)) ∨ ((x < nI 0 ∨ (¬ x < nI 0 ∧ ¬ x < nI 2)) ∧ f_X5_in x (nI 0) (nI 1) = some (nI 0)) := by
  rcases cz_rng x 2 (by decide) with ⟨k, hk, rfl⟩ | h | h
  · left
    refine ⟨k, hk, rfl, ?_⟩
    rw [m_inN (by omega) (by decide) (by decide), if_pos (by omega)]
  · right
    exact ⟨Or.inl (by rw [cz_l0] at h; exact h), m_in_out (by decide) (Or.inl h)⟩
  · right
    refine ⟨Or.inr ⟨fun z => ?_, fun z => cz_lt_not z h⟩, m_in_out (by decide) (Or.inr h)⟩
    rw [Int32.lt_iff_toInt_lt] at z
    rw [Int32.le_iff_toInt_le] at h
    have e3 : (nI 2).toInt = 2 := by decide
    have e0 : (nI 0).toInt = 0 := by decide
    omega
theorem o_save (M : cz_M) (b : Nat) (x : Int32) (iv : cz_iv b M) : ∃ v M1 M2, f_X4_save M b x = some (v, M1) ∧ f_X5_save M1 (b + 461) x = some (v, M2) ∧ cz_iv b M2 := by
  rcases cz_in1 (x := x) with ⟨i, hi, rfl, hin⟩ | ⟨hx, hin⟩
  · obtain ⟨now, hist, pc, slot, used, pad, len, wf, cv, rv⟩ := id iv
    obtain ⟨c1, c2, ⟨π, hp1, hp2⟩, c4, c5, c6, c7⟩ := cv
    obtain ⟨v1, v2, v3, v4, v5, v6, v7⟩ := rv
    obtain ⟨M2, f2, g2, e2⟩ := cz_sA (M := M) (a := b + 116 + (231 + 57 * i)) (a1 := b + 1) (by omega) wf.1 c1
    generalize hM3 : cz_mI M2 (b + 117) i (nI 1) = M3
    have h3 : ∀ x, x ≠ b + 117 → x < b + 347 + 57 * i ∨ b + 404 + 57 * i ≤ x → M3.1 x = M.1 x ∧ M3.2.1 x = M.2.1 x := fun x h1 h2 => by
      rw [← hM3]
      exact ⟨(cz_mI_o h1).trans (e2.1 x (by omega)).1, (e2.1 x (by omega)).2⟩
    have h32 : M3.2.2 = M.2.2 := by rw [← hM3]; exact e2.2
    have h117 : M3.1 (b + 117) = upd (M.1 (b + 117)) i (nI 1) := by rw [← hM3, cz_mI_s, (e2.1 _ (by omega)).1]
    have g3 : cz_srp M3 (b + 116 + (231 + 57 * i)) now := by
      rw [← hM3]
      exact cz_srp_w (fun x h1 h2 => ⟨cz_mI_o (by omega), rfl⟩) wf.1.1.1.1.1 g2
    have s3 : M3.1 (b + 461 + 1) = now.1 := by rw [(h3 _ (by omega) (by omega)).1]; exact v1
    obtain ⟨M4, ⟨q1, q2, q3⟩, h⟩ := cz_for2 (F := f_X5_save_L14 (b + 461) (nI i) (fun x9 M10 => cz_gd (cz_ib (nI i) 2) (cz_gd (cz_zb (nI 1)) (cz_lt (cz_mI M10 (b + 461 + 5) (Int32.toNatClampNeg (nI i)) (nI 1)) fun M12 => cz_gd (cz_ib (nI 3) 551) (some ((M12.1 (b + 461 + 1) (Int32.toNatClampNeg (nI 3))), M12)))))) (fun k (m : cz_M) => (∀ j, j < k → m.1 (b + 461 + 4) (551 * i + j) = now.1 j) ∧ (∀ j, (j < 551 * i ∨ 551 * i + 551 ≤ j) → m.1 (b + 461 + 4) j = M3.1 (b + 461 + 4) j) ∧ cz_fr (fun x => x = b + 461 + 4) M3 m) (fun m => cz_gd (cz_ib (nI i) 2) (cz_gd (cz_zb (nI 1)) (cz_lt (cz_mI m (b + 461 + 5) (Int32.toNatClampNeg (nI i)) (nI 1)) fun M12 => cz_gd (cz_ib (nI 3) 551) (some ((M12.1 (b + 461 + 1) (Int32.toNatClampNeg (nI 3))), M12))))) 551
      (fun k m hk ⟨i1, i2, i3⟩ => by
        have es : m.1 (b + 461 + 1) k = now.1 k := by rw [(i3.1 _ (by omega)).1, s3]
        refine ⟨cz_mI m (b + 461 + 4) (551 * i + k) (now.1 k), fun rec => ?_, fun j hj => ?_, fun j hj => ?_, i3.tr (cz_fr.mI rfl)⟩
        · rw [f_X5_save_L14, if_neg (nI_ge hk (by decide)), cz_gdn hk (by decide), pk_mul, nI_add, cz_gdn (by omega) (by decide), cz_cl (by omega), cz_cl (by omega), es, cz_lt_e, cz_lt_e, nI_add]
        · rw [cz_mI_s]
          by_cases hjk : j = k
          · subst hjk; rw [pk_us]
          · rw [pk_un (by omega)]; exact i1 j (by omega)
        · rw [cz_mI_s, pk_un (by omega)]; exact i2 j hj)
      (fun m hI rec => by
        rw [f_X5_save_L14, if_pos (nI_le (Nat.le_refl _) (by decide))]) 551 0 M3 4096 (by omega) (by omega) ⟨fun j hj => by omega, fun j hj => rfl, cz_fr.rf⟩
    generalize hM5 : cz_mI M4 (b + 461 + 5) i (nI 1) = M5
    have h5 : ∀ x, x ≠ b + 461 + 4 → x ≠ b + 461 + 5 → M5.1 x = M3.1 x ∧ M5.2.1 x = M3.2.1 x := fun x h1 h2 => by
      rw [← hM5]
      exact ⟨(cz_mI_o h2).trans (q3.1 x h1).1, (q3.1 x h1).2⟩
    have h52 : M5.2.2 = M.2.2 := by rw [← hM5]; exact q3.2.trans h32
    have h55 : M5.1 (b + 461 + 5) = upd (M.1 (b + 461 + 5)) i (nI 1) := by rw [← hM5, cz_mI_s, (q3.1 _ (by omega)).1, (h3 _ (by omega) (by omega)).1]
    have h54 : M5.1 (b + 461 + 4) = M4.1 (b + 461 + 4) := by rw [← hM5, cz_mI_o (by omega)]
    have hz : ∀ x, x ≠ b + 117 → x < b + 347 + 57 * i ∨ b + 404 + 57 * i ≤ x → x ≠ b + 461 + 4 → x ≠ b + 461 + 5 → M5.1 x = M.1 x ∧ M5.2.1 x = M.2.1 x := fun x h1 h2 h3' h4 => ⟨((h5 x h3' h4).1).trans (h3 x h1 h2).1, ((h5 x h3' h4).2).trans (h3 x h1 h2).2⟩
    have hw : M.1 (b + 1) 8 = now.1 3 := c1.2.1.1
    refine ⟨now.1 3, M3, M5, ?_, ?_, now, hist, pc, fun j => if j = i then now else slot j, fun j => if j = i then 1 else used j, pad, len, ⟨wf.1, wf.2.1, fun j hj => ?_, wf.2.2.2⟩, ⟨?_, ?_, ⟨π, by rw [h52]; exact hp1, hp2⟩, fun j hj => ?_, fun j hj => ?_, ?_, fun k hk => ?_⟩, ⟨?_, ?_, ?_, fun j hj => ?_, ?_, ?_, ?_⟩⟩
    · rw [f_X4_save, if_neg (nI_nlt (Nat.zero_le _) (by omega)), if_pos (nI_lt hi (by decide)), cz_gdn hi (by decide), cz_cl (by omega), f2, Option.bind_some, cz_gdn hi (by decide), cz_zb1, cz_lt_e, hM3, (h3 _ (by omega) (by omega)).1, hw]
    · rw [f_X5_save, hin, Option.bind_some, if_neg (by decide), h, cz_gdn hi (by decide), cz_zb1, cz_lt_e, cz_cl (by omega), hM5, cz_gdn (by decide) (by decide), cz_cl (by decide), (h5 _ (by omega) (by omega)).1, s3]
    · by_cases hji : j = i
      · simp only [hji, if_true]
        exact ⟨by decide, fun _ => wf.1⟩
      · simp only [hji, if_false]
        exact wf.2.2.1 j hj
    · exact cz_srp_w (fun x h1 h2 => hz x (by omega) (by omega) (by omega) (by omega)) wf.1.1.1.1.1 c1
    · rw [(hz _ (by omega) (by omega) (by omega) (by omega)).1, c2]
    · rw [h52]
      have hpj := hp1 j (by have := wf.2.1.1; omega)
      exact cz_srp_w (fun x h1 h2 => hz x (by rw [hpj.2] at h1; omega) (by rw [hpj.2] at h2; omega) (by rw [hpj.2] at h2; omega) (by rw [hpj.2] at h2; omega)) (wf.2.1.2 j hj).1.1.1.1 (c4 j hj)
    · rw [(h5 _ (by omega) (by omega)).1, h117]
      by_cases hji : j = i
      · simp only [hji, if_true]
        exact ⟨pk_us, fun _ => cz_srp_w (fun x h1 h2 => h5 x (by omega) (by omega)) wf.1.1.1.1.1 g3⟩
      · simp only [hji, if_false]
        rw [pk_un hji]
        exact ⟨(c5 j hj).1, fun hu => cz_srp_w (fun x h1 h2 => hz x (by omega) (by omega) (by omega) (by omega)) ((wf.2.2.1 j hj).2 hu).1.1.1.1 ((c5 j hj).2 hu)⟩
    · rw [(hz _ (by omega) (by omega) (by omega) (by omega)).1, c6]
    · rw [(hz _ (by omega) (by omega) (by omega) (by omega)).1]
      exact c7 k hk
    · rw [(hz _ (by omega) (by omega) (by omega) (by omega)).1]; exact v1
    · rw [(hz _ (by omega) (by omega) (by omega) (by omega)).1]; exact v2
    · rw [(hz _ (by omega) (by omega) (by omega) (by omega)).1]; exact v3
    · rw [h55, h54]
      by_cases hji : j = i
      · subst hji
        simp only [if_true]
        exact ⟨pk_us, fun _ k hk => q1 k hk⟩
      · simp only [hji, if_false]
        rw [pk_un hji]
        refine ⟨(v4 j hj).1, fun hu k hk => ?_⟩
        rw [q2 _ (by omega), (h3 _ (by omega) (by omega)).1]
        exact (v4 j hj).2 hu k hk
    · rw [(hz _ (by omega) (by omega) (by omega) (by omega)).1, v5]
    · rw [(hz _ (by omega) (by omega) (by omega) (by omega)).1]; exact v6
    · unfold cz_fg at v7 ⊢
      rw [(hz _ (by omega) (by omega) (by omega) (by omega)).1, (hz _ (by omega) (by omega) (by omega) (by omega)).1]
      exact v7
  · refine ⟨_, M, M, ?_, by rw [f_X5_save, hin, Option.bind_some, if_pos rfl], iv⟩
    rw [f_X4_save]
    rcases hx with hx | ⟨hx, hx2⟩
    · rw [if_pos hx]
    · rw [if_neg hx, if_neg hx2]
theorem o_restore (M : cz_M) (b : Nat) (x : Int32) (iv : cz_iv b M) : ∃ v M1 M2, f_X4_restore M b x = some (v, M1) ∧ f_X5_restore M1 (b + 461) x = some (v, M2) ∧ cz_iv b M2 := by
  rcases cz_in1 (x := x) with ⟨i, hi, rfl, hin⟩ | ⟨hx, hin⟩
  · obtain ⟨now, hist, pc, slot, used, pad, len, wf, cv, rv⟩ := id iv
    have hc5 := (cv.2.2.2.2.1 i hi)
    have hv4 := (rv.2.2.2.1 i hi)
    have hu2 := (wf.2.2.1 i hi).1
    have hr4 : f_X4_restore M b (nI i) = if nI (used i) = nI 0 then some ((-5 : Int32), M) else ((f_X4_remember M b).bind fun M5 => cz_gd (cz_ib (nI i) 2) ((f_X2_copyFrom M5 (b + 1) (b + 116 + (231 + 57 * i))).bind fun M9 => some ((M9.1 (b + 1) 8), M9))) := by
      rw [f_X4_restore, if_neg (nI_nlt (Nat.zero_le _) (by omega)), if_pos (nI_lt hi (by decide)), cz_gdn hi (by decide), cz_cl (by omega), hc5.1]
    have hr5 : ∀ A : cz_M, A.1 (b + 461 + 5) i = nI (used i) → f_X5_restore A (b + 461) (nI i) = if nI (used i) = nI 0 then some ((-5 : Int32), A) else ((f_X5_record A (b + 461)).bind fun M5 => cz_it2 (f_X5_restore_L30 (b + 461) (nI i) (fun x12 M13 => cz_gd (cz_ib (nI 3) 551) (some ((M13.1 (b + 461 + 1) (Int32.toNatClampNeg (nI 3))), M13)))) 4096 (nI 0) M5) := fun A hA => by
      rw [f_X5_restore, hin, Option.bind_some, if_neg (by decide), cz_gdn hi (by decide), cz_cl (by omega), hA]
    by_cases h0 : used i = 0
    · have : nI (used i) = nI 0 := by rw [h0]
      exact ⟨_, M, M, by rw [hr4, if_pos this], by rw [hr5 M hv4.1, if_pos this], iv⟩
    · have h1 : used i = 1 := by omega
      have hne : ¬ nI (used i) = nI 0 := by rw [h1]; decide
      have hsok := (wf.2.2.1 i hi).2 h1
      obtain ⟨M1, f1, cv1, hch⟩ := cz_change2 (now' := cz_ov (slot i) now.1) wf cv rv (cz_ov_ok hsok)
      obtain ⟨M2, f2, g2, e2⟩ := cz_sA (M := M1) (a := b + 1) (a1 := b + 116 + (231 + 57 * i)) (by omega) hsok ((cv1.2.2.2.2.1 i hi).2 h1)
      obtain ⟨rv2, M3, f3, rv3, hfin⟩ := hch M2 e2 (cz_ov_rp hsok g2)
      have s33 : (slot i).1 3 = M2.1 (b + 1) 8 := g2.2.1.1.symm
      obtain ⟨M4, ⟨q1, q2, q3⟩, h⟩ := cz_for2 (F := f_X5_restore_L30 (b + 461) (nI i) (fun x12 M13 => cz_gd (cz_ib (nI 3) 551) (some ((M13.1 (b + 461 + 1) (Int32.toNatClampNeg (nI 3))), M13)))) (fun k (m : cz_M) => (∀ j, j < k → m.1 (b + 461 + 1) j = (slot i).1 j) ∧ (∀ j, k ≤ j → m.1 (b + 461 + 1) j = now.1 j) ∧ cz_fr (fun x => x = b + 461 + 1) M3 m) (fun m => some ((slot i).1 3, m)) 551
        (fun k m hk ⟨i1, i2, i3⟩ => by
          have eh : m.1 (b + 461 + 4) (551 * i + k) = (slot i).1 k := by
            rw [(i3.1 (b + 461 + 4) (by omega)).1]
            exact (rv3.2.2.2.1 i hi).2 h1 k hk
          refine ⟨cz_mI m (b + 461 + 1) k ((slot i).1 k), fun rec => ?_, fun j hj => ?_, fun j hj => ?_, i3.tr (cz_fr.mI rfl)⟩
          · rw [f_X5_restore_L30, if_neg (nI_ge hk (by decide)), pk_mul, nI_add, cz_gdn (by omega) (by decide), cz_gdn hk (by decide), cz_cl (by omega), cz_cl (by omega), eh, cz_lt_e, cz_lt_e, nI_add]
          · rw [cz_mI_s]
            by_cases hjk : j = k
            · subst hjk; rw [pk_us]
            · rw [pk_un hjk]; exact i1 j (by omega)
          · rw [cz_mI_s, pk_un (by omega)]; exact i2 j (by omega))
        (fun m hI rec => by
          rw [f_X5_restore_L30, if_pos (nI_le (Nat.le_refl _) (by decide)), cz_gdn (by decide) (by decide), cz_cl (by decide), hI.1 3 (by decide)]) 551 0 M3 4096 (by omega) (by omega) ⟨fun j hj => by omega, fun j hj => by rw [rv3.1], cz_fr.rf⟩
      refine ⟨(slot i).1 3, M2, M4, ?_, ?_, hfin M4 (q3.mono (fun x hx => Or.inl hx)) (funext fun k => ?_) (cz_fg_fr q3 (by omega) (by omega) rv3.2.2.2.2.2.2)⟩
      · rw [hr4, if_neg hne, f1, Option.bind_some, cz_gdn hi (by decide), f2, Option.bind_some, s33]
      · rw [hr5 M2 (rv2.2.2.2.1 i hi).1, if_neg hne, f3, Option.bind_some, h]
      · show _ = if k < 551 then (slot i).1 k else now.1 k
        by_cases hk : k < 551
        · rw [if_pos hk]; exact q1 k hk
        · rw [if_neg hk]; exact q2 k (by omega)
  · refine ⟨_, M, M, ?_, by rw [f_X5_restore, hin, Option.bind_some, if_pos rfl], iv⟩
    rw [f_X4_restore]
    rcases hx with hx | ⟨hx, hx2⟩
    · rw [if_pos hx]
    · rw [if_neg hx, if_neg hx2]
