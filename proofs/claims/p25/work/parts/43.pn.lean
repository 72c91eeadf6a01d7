/-! undo, save, restore -/
/-- a saved state laid over another one -/
def cz_ov (A : cz_S) (o : Nat → Int32) : cz_S := (fun k => if k < 551 then A.1 k else o k, A.2.1, A.2.2.1, A.2.2.2)
theorem cz_ov_ok {A : cz_S} {o : Nat → Int32} (h : cz_sok A) : cz_sok (cz_ov A o) := ⟨cz_ok_551 (fun k hk => if_pos hk) h.1, h.2⟩
theorem cz_ov_rp {M : cz_M} {p : Nat} {A : cz_S} {o : Nat → Int32} (h : cz_sok A) (rp : cz_srp M p A) : cz_srp M p (cz_ov A o) := cz_rp_551 (fun k hk => if_pos hk) h.1 rp
theorem cz_sA {M : cz_M} {a a1 : Nat} {A : cz_S} (hd : a + 57 ≤ a1 ∨ a1 + 57 ≤ a) (h : cz_sok A) (rp : cz_srp M a1 A) : ∃ M', f_X2_copyFrom M a a1 = some M' ∧ cz_srp M' a A ∧ cz_fr (fun x => a ≤ x ∧ x < a + 57) M M' :=
  c_copy M a a1 hd h.1.1.1.1 h.1.1.1.2.1 (fun r hr => (h.1.1.2.2.2.2.1 r hr).2.1) rp
theorem o_undo (M : cz_M) (b : Nat) (iv : cz_iv b M) : ∃ v M1 M2, f_X4_undo M b = some (v, M1) ∧ f_X5_undo M1 (b + 461) = some (v, M2) ∧ cz_iv b M2 := by
  obtain ⟨now, hist, pc, slot, used, pad, len, wf, cv, rv⟩ := id iv
  obtain ⟨c1, c2, ⟨π, hp1, hp2⟩, c4, c5, c6, c7⟩ := cv
  obtain ⟨v1, v2, v3, v4, v5, v6, v7⟩ := rv
  have hpc : pc ≤ 4 := wf.2.1.1
  by_cases h0 : pc = 0
  · subst h0
    exact ⟨_, M, M, by rw [f_X4_undo, c2, if_pos rfl], by rw [f_X5_undo, v2, if_pos rfl], iv⟩
  · have hne : ¬ nI pc = nI 0 := fun z => h0 (cz_nI_inj (by omega) (by omega) z)
    have hpi := hp1 (pc - 1) (by omega)
    have hb6 : (cz_mI M b 6 (nI (pc - 1))).1 b 6 = nI (pc - 1) := by rw [cz_mI_s, pk_us]
    have hsok := wf.2.1.2 (pc - 1) (by omega)
    obtain ⟨M2, f2, g2, e2⟩ := cz_sA (M := cz_mI M b 6 (nI (pc - 1))) (a := b + 1) (a1 := M.2.2 (pc - 1)) (by rw [hpi.2]; omega) hsok (cz_srp_w (fun x h1 h2 => ⟨cz_mI_o (by rw [hpi.2] at h1; omega), rfl⟩) hsok.1.1.1.1 (c4 (pc - 1) (by omega)))
    have hx : ∀ x, x ≠ b → x < b + 1 ∨ b + 58 ≤ x → M2.1 x = M.1 x ∧ M2.2.1 x = M.2.1 x := fun x h1 h2 => ⟨((e2.1 x (by omega)).1).trans (cz_mI_o h1), (e2.1 x (by omega)).2⟩
    have hb : M2.1 b = upd (M.1 b) 6 (nI (pc - 1)) := by rw [(e2.1 b (by omega)).1, cz_mI_s]
    have h22 : M2.2.2 = M.2.2 := e2.2
    -- the reference
    generalize hM3 : cz_mI M2 (b + 461) 3 (nI (pc - 1)) = M3
    have a3 : M3.1 (b + 461) 3 = nI (pc - 1) := by rw [← hM3, cz_mI_s, pk_us]
    have y3 : ∀ x, x ≠ b + 461 → M3.1 x = M2.1 x := fun x hx => by rw [← hM3, cz_mI_o hx]
    obtain ⟨M4, ⟨q1, q2, q3⟩, h⟩ := cz_for2 (F := f_X5_undo_L22 (b + 461) (fun x9 M10 => some ((M10.1 (b + 461) 3), M10))) (fun k (m : cz_M) => (∀ j, j < k → m.1 (b + 461 + 1) j = (hist (pc - 1)).1 j) ∧ (∀ j, k ≤ j → m.1 (b + 461 + 1) j = now.1 j) ∧ cz_fr (fun x => x = b + 461 + 1) M3 m) (fun m => some (nI (pc - 1), m)) 551
      (fun k m hk ⟨i1, i2, i3⟩ => by
        have ea : m.1 (b + 461) 3 = nI (pc - 1) := by rw [(i3.1 (b + 461) (by omega)).1]; exact a3
        have eh : m.1 (b + 461 + 3) (551 * (pc - 1) + k) = (hist (pc - 1)).1 k := by
          rw [(i3.1 (b + 461 + 3) (by omega)).1, y3 _ (by omega), (hx _ (by omega) (by omega)).1]
          exact v3 (pc - 1) (by omega) k hk
        refine ⟨cz_mI m (b + 461 + 1) k ((hist (pc - 1)).1 k), fun rec => ?_, fun j hj => ?_, fun j hj => ?_, i3.tr (cz_fr.mI rfl)⟩
        · rw [f_X5_undo_L22, if_neg (nI_ge hk (by decide)), ea, pk_mul, nI_add, cz_gdn (by omega) (by decide), cz_gdn hk (by decide), cz_cl (by omega), cz_cl (by omega), eh, cz_lt_e, cz_lt_e, nI_add]
        · rw [cz_mI_s]
          by_cases hjk : j = k
          · subst hjk; rw [pk_us]
          · rw [pk_un hjk]; exact i1 j (by omega)
        · rw [cz_mI_s, pk_un (by omega)]; exact i2 j (by omega))
      (fun m hI rec => by
        rw [f_X5_undo_L22, if_pos (nI_le (Nat.le_refl _) (by decide))]
        have : m.1 (b + 461) 3 = nI (pc - 1) := by rw [(hI.2.2.1 (b + 461) (by omega)).1]; exact a3
        rw [this]) 551 0 M3 4096 (by omega) (by omega) ⟨fun j hj => by omega, fun j hj => by rw [y3 _ (by omega), (hx _ (by omega) (by omega)).1, v1], cz_fr.rf⟩
    have z4 : ∀ x, x ≠ b + 461 → x ≠ b + 461 + 1 → M4.1 x = M2.1 x ∧ M4.2.1 x = M2.2.1 x := fun x h1 h2 => ⟨((q3.1 x h2).1).trans (y3 x h1), by rw [(q3.1 x h2).2, ← hM3]; rfl⟩
    have h42 : M4.2.2 = M.2.2 := by rw [q3.2, ← hM3]; exact h22
    have hz : ∀ x, x ≠ b → x ≠ b + 461 → x ≠ b + 461 + 1 → x < b + 1 ∨ b + 58 ≤ x → M4.1 x = M.1 x ∧ M4.2.1 x = M.2.1 x := fun x h1 h2 h3 h4 => ⟨((z4 x h2 h3).1).trans (hx x h1 h4).1, ((z4 x h2 h3).2).trans (hx x h1 h4).2⟩
    have h461 : M4.1 (b + 461) = upd (M.1 (b + 461)) 3 (nI (pc - 1)) := by rw [(q3.1 _ (by omega)).1, ← hM3, cz_mI_s, (hx _ (by omega) (by omega)).1]
    refine ⟨nI (pc - 1), M2, M4, ?_, ?_, cz_ov (hist (pc - 1)) now.1, hist, pc - 1, slot, used, pad, len, ⟨cz_ov_ok hsok, ⟨by omega, fun i hi => wf.2.1.2 i (by omega)⟩, wf.2.2⟩, ⟨?_, ?_, ⟨π, by rw [h42]; exact hp1, hp2⟩, fun i hi => ?_, fun i hi => ?_, ?_, fun k hk => ?_⟩, ⟨?_, ?_, fun i hi k hk => ?_, ?_, ?_, ?_, ?_⟩⟩
    · rw [f_X4_undo, c2, if_neg hne, cz_subN (by omega), cz_lt_e, hb6, cz_gdn (by omega) (by decide), cz_cl (by omega)]
      have : (cz_mI M b 6 (nI (pc - 1))).2.2 = M.2.2 := rfl
      rw [this, f2, Option.bind_some, hb, pk_us]
    · rw [f_X5_undo, (hx _ (by omega) (by omega)).1, v2, if_neg hne, cz_subN (by omega), cz_lt_e, hM3, h]
    · refine cz_ov_rp hsok (cz_srp_w (fun x h1 h2 => z4 x (by omega) (by omega)) hsok.1.1.1.1 g2)
    · rw [(z4 b (by omega) (by omega)).1, hb, pk_us]
    · rw [h42]
      have hpi2 := hp1 i (by omega)
      exact cz_srp_w (fun x h1 h2 => hz x (by rw [hpi2.2] at h1; omega) (by rw [hpi2.2] at h2; omega) (by rw [hpi2.2] at h2; omega) (by rw [hpi2.2] at h1; omega)) (wf.2.1.2 i (by omega)).1.1.1.1 (c4 i (by omega))
    · rw [(hz _ (by omega) (by omega) (by omega) (by omega)).1]
      exact ⟨(c5 i hi).1, fun hu => cz_srp_w (fun x h1 h2 => hz x (by omega) (by omega) (by omega) (by omega)) ((wf.2.2.1 i hi).2 hu).1.1.1.1 ((c5 i hi).2 hu)⟩
    · rw [(z4 b (by omega) (by omega)).1, hb, pk_un (by decide), c6]
    · rw [(hz _ (by omega) (by omega) (by omega) (by omega)).1]
      exact c7 k hk
    · funext k
      show _ = if k < 551 then (hist (pc - 1)).1 k else now.1 k
      by_cases hk : k < 551
      · rw [if_pos hk]; exact q1 k hk
      · rw [if_neg hk]; exact q2 k (by omega)
    · rw [h461, pk_us]
    · rw [(hz _ (by omega) (by omega) (by omega) (by omega)).1]
      exact v3 i (by omega) k hk
    · rw [(hz _ (by omega) (by omega) (by omega) (by omega)).1, (hz _ (by omega) (by omega) (by omega) (by omega)).1]
      exact v4
    · rw [h461, pk_un (by decide), v5]
    · rw [(hz _ (by omega) (by omega) (by omega) (by omega)).1]
      exact v6
    · unfold cz_fg at v7 ⊢
      rw [(hz _ (by omega) (by omega) (by omega) (by omega)).1, (hz _ (by omega) (by omega) (by omega) (by omega)).1]
      exact v7
