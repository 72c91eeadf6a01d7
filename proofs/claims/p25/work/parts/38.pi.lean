/-! states depend on 551 places -/
theorem cz_lw_551 {s s' : Nat → Int32} (h : ∀ k, k < 551 → s' k = s k) {i : Nat} (hi : i < 40) (hw : cz_lw s i) : cz_lw s' i := by
  unfold cz_lw at hw ⊢
  rw [h _ (by omega), h _ (by omega), h _ (by omega)]
  exact hw
theorem cz_ok_551 {s s' : Nat → Int32} {n W : Nat} {R : Nat → List Nat} (h : ∀ k, k < 551 → s' k = s k) (ok : cz_ok s n W R) : cz_ok s' n W R := by
  obtain ⟨⟨⟨hn, hs4, hW, hs3⟩, ⟨⟨a0, ha0, hb0⟩, ⟨a1, ha1, hb1⟩, ⟨a2, ha2, hb2⟩⟩, hro, hst, hrw, hle, htc⟩, hno⟩ := ok
  refine ⟨⟨⟨hn, (h 4 (by decide)).trans hs4, hW, (h 3 (by decide)).trans hs3⟩, ⟨⟨a0, ha0, (h 0 (by decide)).trans hb0⟩, ⟨a1, ha1, (h 1 (by decide)).trans hb1⟩, ⟨a2, ha2, (h 2 (by decide)).trans hb2⟩⟩, fun k hk => ?_, fun c hc => ?_, fun r hr => ?_, fun i hi => ?_, fun c hc => ?_⟩, fun i hi => ?_⟩
  · rw [h _ (by omega)]; exact hro k hk
  · rw [h _ (by omega)]; exact hst c hc
  · obtain ⟨l1, l2, l3, l4, l5⟩ := hrw r hr
    refine ⟨(h _ (by omega)).trans l1, l2, fun k hk => (h _ (by omega)).trans (l3 k hk), l4, fun i hi => ?_⟩
    have h5 := l5 i hi
    exact ⟨h5.1, (h _ (by omega)).trans h5.2.1, (h _ (by omega)).trans h5.2.2⟩
  · have := hle i hi
    unfold cz_le cz_lw at this ⊢
    rw [h (111 + 11 * i) (by omega), h (111 + 11 * i + 1) (by omega), h (111 + 11 * i + 2) (by omega), h (111 + 11 * i + 3) (by omega), h (111 + 11 * i + 4) (by omega), h (111 + 11 * i + 5) (by omega), h (111 + 11 * i + 6) (by omega), h (111 + 11 * i + 7) (by omega), h (111 + 11 * i + 8) (by omega), h (111 + 11 * i + 9) (by omega), h (111 + 11 * i + 10) (by omega)]
    exact this
  · rw [h _ (by omega)]; exact htc c hc
  · rw [h _ (by omega)]; exact hno i hi
theorem cz_rp_551 {M : cz_M} {p n W : Nat} {s s' : Nat → Int32} {R : Nat → List Nat} (h : ∀ k, k < 551 → s' k = s k) (ok : cz_ok s n W R) (rp : cz_rp M p s n R) : cz_rp M p s' n R := by
  have hn : n ≤ 40 := ok.1.1.1
  obtain ⟨r1, ⟨r2, r3⟩, r4, r5, r6, r7⟩ := rp
  refine ⟨fun k hk => (r1 k hk).trans (h k (by omega)).symm, ⟨r2.trans (h 3 (by decide)).symm, r3.trans (h 4 (by decide)).symm⟩, fun k hk => (r4 k hk).trans (h _ (by omega)).symm, fun c hc f hf => (r5 c hc f hf).trans (h _ (by omega)).symm, r6, fun i hi => ?_⟩
  exact cz_rl_c rfl rfl (fun f hf => h _ (by omega)) (h 3 (by decide)) (ok.1.2.2.2.2.2.1 i hi).1 (r7 i hi)
/-! what both sides stand for: now, the history, the slots, the pad -/
abbrev cz_S : Type := (Nat → Int32) × Nat × Nat × (Nat → List Nat)
def cz_sok (A : cz_S) : Prop := cz_ok A.1 A.2.1 A.2.2.1 A.2.2.2 ∧ A.2.2.1 ≤ 9999
def cz_srp (M : cz_M) (p : Nat) (A : cz_S) : Prop := cz_rp M p A.1 A.2.1 A.2.2.2
def cz_wq (now : cz_S) (hist : Nat → cz_S) (pc : Nat) (slot : Nat → cz_S) (used pad : Nat → Nat) (len : Nat) : Prop :=
  cz_sok now ∧ (pc ≤ 4 ∧ ∀ i, i < pc → cz_sok (hist i)) ∧ (∀ i, i < 2 → used i < 2 ∧ (used i = 1 → cz_sok (slot i))) ∧ len ≤ 60 ∧ ∀ k, k < len → 33 ≤ pad k ∧ pad k ≤ 126
def cz_pi (b : Nat) (M : cz_M) : Prop := ∃ π : Nat → Nat, (∀ i, i < 4 → π i < 4 ∧ M.2.2 i = b + 119 + 57 * π i) ∧ ∀ i j, i < 4 → j < 4 → π i = π j → i = j
def cz_cv (b : Nat) (M : cz_M) (now : cz_S) (hist : Nat → cz_S) (pc : Nat) (slot : Nat → cz_S) (used pad : Nat → Nat) (len : Nat) : Prop :=
  cz_srp M (b + 1) now ∧ M.1 b 6 = nI pc ∧ cz_pi b M ∧ (∀ i, i < pc → cz_srp M (M.2.2 i) (hist i)) ∧ (∀ i, i < 2 → M.1 (b + 117) i = nI (used i) ∧ (used i = 1 → cz_srp M (b + 116 + (231 + 57 * i)) (slot i))) ∧ M.1 b 7 = nI len ∧ ∀ k, k < len → M.1 (b + 118) k = nI (pad k)
def cz_rv (a : Nat) (M : cz_M) (now : cz_S) (hist : Nat → cz_S) (pc : Nat) (slot : Nat → cz_S) (used pad : Nat → Nat) (len : Nat) : Prop :=
  M.1 (a + 1) = now.1 ∧ M.1 a 3 = nI pc ∧ (∀ i, i < pc → ∀ k, k < 551 → M.1 (a + 3) (551 * i + k) = (hist i).1 k) ∧ (∀ i, i < 2 → M.1 (a + 5) i = nI (used i) ∧ (used i = 1 → ∀ k, k < 551 → M.1 (a + 4) (551 * i + k) = (slot i).1 k)) ∧ M.1 a 7 = nI len ∧ (∀ k, k < len → M.1 (a + 6) k = nI (pad k)) ∧ cz_fg M a
/-- cells, but not the order of the pasts -/
def cz_fw (D : Nat → Prop) (M M' : cz_M) : Prop := ∀ x, ¬ D x → M'.1 x = M.1 x ∧ M'.2.1 x = M.2.1 x
theorem cz_fw.tr {D : Nat → Prop} {M M1 M2 : cz_M} (h : cz_fw D M M1) (h2 : cz_fw D M1 M2) : cz_fw D M M2 := fun x hx => ⟨((h2 x hx).1).trans (h x hx).1, ((h2 x hx).2).trans (h x hx).2⟩
theorem cz_fr.w {D D' : Nat → Prop} {M M1 : cz_M} (h : cz_fr D M M1) (hd : ∀ x, D x → D' x) : cz_fw D' M M1 := fun x hx => h.1 x (fun z => hx (hd x z))
theorem cz_rv_w {a : Nat} {M M' : cz_M} {D : Nat → Prop} {now : cz_S} {hist : Nat → cz_S} {pc : Nat} {slot : Nat → cz_S} {used pad : Nat → Nat} {len : Nat} (h : cz_fw D M M') (hD : ∀ x, D x → x < a) (rv : cz_rv a M now hist pc slot used pad len) : cz_rv a M' now hist pc slot used pad len := by
  have hx : ∀ x, a ≤ x → M'.1 x = M.1 x := fun x hx => (h x (fun z => by have := hD x z; omega)).1
  unfold cz_rv cz_fg at rv ⊢
  rw [hx a (by omega), hx (a + 1) (by omega), hx (a + 3) (by omega), hx (a + 4) (by omega), hx (a + 5) (by omega), hx (a + 6) (by omega), hx (a + 7) (by omega), hx (a + 8) (by omega)]
  exact rv
theorem cz_srp_w {M M' : cz_M} {p : Nat} {A : cz_S} (h : ∀ x, p ≤ x → x < p + 57 → M'.1 x = M.1 x ∧ M'.2.1 x = M.2.1 x) (hA : A.2.1 ≤ 40) (rp : cz_srp M p A) : cz_srp M' p A := by
  unfold cz_srp at rp ⊢
  obtain ⟨r1, ⟨r2, r3⟩, r4, r5, r6, r7⟩ := rp
  refine ⟨fun k hk => by rw [(h (p + 1) (by omega) (by omega)).1]; exact r1 k hk, ⟨by rw [(h p (by omega) (by omega)).1]; exact r2, by rw [(h p (by omega) (by omega)).1]; exact r3⟩, fun k hk => by rw [(h (p + 3) (by omega) (by omega)).1]; exact r4 k hk, fun c hc f hf => by rw [(h (p + 2 + (7 + c)) (by omega) (by omega)).1]; exact r5 c hc f hf, fun r hr => ?_, fun i hi => ?_⟩
  · unfold cz_rr
    rw [(h (p + 5 + (48 + 2 * r)) (by omega) (by omega)).1, (h (p + 5 + (48 + 2 * r) + 1) (by omega) (by omega)).1]
    exact r6 r hr
  · unfold cz_rl
    rw [(h (p + 4 + (9 + i)) (by omega) (by omega)).1, (h (p + 4 + (9 + i)) (by omega) (by omega)).2]
    exact r7 i hi
theorem cz_cv_w {b : Nat} {M M' : cz_M} {D : Nat → Prop} {now : cz_S} {hist : Nat → cz_S} {pc : Nat} {slot : Nat → cz_S} {used pad : Nat → Nat} {len : Nat} (h : cz_fr D M M') (hD : ∀ x, D x → b + 461 ≤ x ∨ (b + 58 ≤ x ∧ x < b + 115)) (wf : cz_wq now hist pc slot used pad len) (cv : cz_cv b M now hist pc slot used pad len) : cz_cv b M' now hist pc slot used pad len := by
  have hx : ∀ x, x < b + 58 ∨ (b + 115 ≤ x ∧ x < b + 461) → M'.1 x = M.1 x ∧ M'.2.1 x = M.2.1 x := fun x hx => h.1 x (fun z => by have := hD x z; omega)
  obtain ⟨c1, c2, c3, c4, c5, c6, c7⟩ := cv
  obtain ⟨w1, ⟨w2, w3⟩, w4, w5⟩ := wf
  have c3' := c3
  obtain ⟨π, hp1, hp2⟩ := c3'
  refine ⟨cz_srp_w (fun x h1 h2 => hx x (by omega)) w1.1.1.1.1 c1, by rw [(hx b (by omega)).1]; exact c2, by unfold cz_pi at c3 ⊢; rw [h.2]; exact c3, fun i hi => ?_, fun i hi => ?_, by rw [(hx b (by omega)).1]; exact c6, by rw [(hx (b + 118) (by omega)).1]; exact c7⟩
  · rw [h.2]
    have := hp1 i (by omega)
    exact cz_srp_w (fun x h1 h2 => hx x (by omega)) (w3 i hi).1.1.1.1 (c4 i hi)
  · rw [(hx (b + 117) (by omega)).1]
    exact ⟨(c5 i hi).1, fun hu => cz_srp_w (fun x h1 h2 => hx x (by omega)) ((w4 i hi).2 hu).1.1.1.1 ((c5 i hi).2 hu)⟩
/-- the history with one more state -/
def cz_hp (hist : Nat → cz_S) (pc : Nat) (now : cz_S) : Nat → cz_S := if pc = 4 then (fun i => if i = 3 then now else hist (i + 1)) else fun i => if i = pc then now else hist i
def cz_hc (pc : Nat) : Nat := if pc = 4 then 4 else pc + 1
theorem cz_wq_rec {now : cz_S} {hist : Nat → cz_S} {pc : Nat} {slot : Nat → cz_S} {used pad : Nat → Nat} {len : Nat} (wf : cz_wq now hist pc slot used pad len) : cz_wq now (cz_hp hist pc now) (cz_hc pc) slot used pad len := by
  obtain ⟨w1, ⟨w2, w3⟩, w4, w5⟩ := wf
  refine ⟨w1, ⟨?_, fun i hi => ?_⟩, w4, w5⟩
  · unfold cz_hc
    split <;> omega
  · unfold cz_hc at hi
    unfold cz_hp
    by_cases h4 : pc = 4
    · rw [if_pos h4] at hi
      rw [if_pos h4]
      split
      · exact w1
      · exact w3 _ (by omega)
    · rw [if_neg h4] at hi
      rw [if_neg h4]
      split
      · exact w1
      · exact w3 _ (by omega)
theorem m_rec51 (M : cz_M) (a : Nat) {pc : Nat} (hpc : pc ≤ 3) (h3 : M.1 a 3 = nI pc) :
    ∃ M', cz_it2 (f_X5_record_L51 a (fun x20 M21 => cz_lt (cz_mI M21 a 3 ((M21.1 a 3) + (nI 1))) fun M22 => some M22)) 4096 (nI 0) M = some M' ∧ M'.1 a 3 = nI (pc + 1) ∧ (∀ k, k ≠ 3 → M'.1 a k = M.1 a k) ∧ (∀ k, k < 551 → M'.1 (a + 3) (551 * pc + k) = M.1 (a + 1) k) ∧ (∀ k, k < 551 * pc → M'.1 (a + 3) k = M.1 (a + 3) k) ∧ cz_fr (fun x => x = a ∨ x = a + 3) M M' := by
  obtain ⟨M', ⟨h1, h2, h4⟩, h⟩ := cz_for2 (F := f_X5_record_L51 a (fun x20 M21 => cz_lt (cz_mI M21 a 3 ((M21.1 a 3) + (nI 1))) fun M22 => some M22)) (fun k (m : cz_M) => (∀ j, j < k → m.1 (a + 3) (551 * pc + j) = M.1 (a + 1) j) ∧ (∀ j, j < 551 * pc → m.1 (a + 3) j = M.1 (a + 3) j) ∧ cz_fr (fun x => x = a + 3) M m) (fun m => some (cz_mI m a 3 ((m.1 a 3) + (nI 1)))) 551
    (fun k m hk ⟨i1, i2, i3⟩ => by
      have ea : m.1 a = M.1 a := (i3.1 a (by omega)).1
      have ea1 : m.1 (a + 1) = M.1 (a + 1) := (i3.1 (a + 1) (by omega)).1
      refine ⟨cz_mI m (a + 3) (551 * pc + k) (M.1 (a + 1) k), fun rec => ?_, fun j hj => ?_, fun j hj => ?_, i3.tr (cz_fr.mI rfl)⟩
      · rw [f_X5_record_L51, if_neg (nI_ge hk (by decide)), cz_gdn hk (by decide), ea, h3, pk_mul, nI_add, cz_gdn (by omega) (by decide), cz_cl (by omega), cz_cl (by omega), ea1, cz_lt_e, cz_lt_e, nI_add]
      · rw [cz_mI_s]
        by_cases hjk : j = k
        · subst hjk; rw [pk_us]
        · rw [pk_un (by omega)]; exact i1 j (by omega)
      · rw [cz_mI_s, pk_un (by omega)]; exact i2 j hj)
    (fun m hI rec => by rw [f_X5_record_L51, if_pos (nI_le (Nat.le_refl _) (by decide))]; rfl) 551 0 M 4096 (by omega) (by omega) ⟨fun j hj => by omega, fun j hj => rfl, cz_fr.rf⟩
  have ea : M'.1 a = M.1 a := (h4.1 a (by omega)).1
  refine ⟨_, h, ?_, fun k hk => ?_, fun k hk => ?_, fun k hk => ?_, (h4.mono (fun x hx => Or.inr hx)).tr (cz_fr.mI (Or.inl rfl))⟩
  · rw [cz_mI_s, pk_us, ea, h3, nI_add]
  · rw [cz_mI_s, pk_un hk, ea]
  · rw [cz_mI_o (by omega)]; exact h1 k hk
  · rw [cz_mI_o (by omega)]; exact h2 k hk
