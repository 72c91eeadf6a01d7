/-! states depend on 551 places -/
/-! what both sides stand for: now, the history, the slots, the pad -/
abbrev cz_S : Type := (Nat → Int32) × Nat × Nat × (Nat → List Nat)
def cz_sok (A : cz_S) : Prop := cz_ok A.1 A.2.1 A.2.2.1 A.2.2.2 ∧ A.2.2.1 ≤ 9999
def cz_srp (M : cz_M) (p : Nat) (A : cz_S) : Prop := cz_rp M p A.1 A.2.1 A.2.2.2
def cz_wq (now : cz_S) (hist : Nat → cz_S) (pc : Nat) (slot : Nat → cz_S) (used pad : Nat → Nat) (len : Nat) : Prop :=
  cz_sok now ∧ (pc ≤ 4 ∧ ∀ i, i < pc → cz_sok (hist i)) ∧ (∀ i, i < 2 → used i < 2 ∧ (used i = 1 → cz_sok (slot i))) ∧ len ≤ 60 ∧ ∀ k, k < len → 33 ≤ pad k ∧ pad k ≤ 126
def cz_pi (b : Nat) (M : cz_M) : Prop := ∃ π : Nat → Nat, (∀ i, i < 4 → π i < 4 ∧ M.2.2 i = b + 119 + 57 * π i) ∧ ∀ i j, i < 4 → j < 4 → π i = π j → i = j
def cz_cv (b : Nat) (M : cz_M) (now : cz_S) (hist : Nat → cz_S) (pc : Nat) (slot : Nat → cz_S) (used pad : Nat → Nat) (len : Nat) : Prop :=
  cz_srp M (b + 1) now ∧ M.1 b 6 = nI pc ∧ cz_pi b M ∧ (∀ i, i < pc → cz_srp M (M.2.2 i) (hist i)) ∧ (∀ i, i < 2 → M.1 (b + 117) i = nI (used i) ∧ (used i = 1 → cz_srp M (b + 116 + (231 + 57 * i)) (slot i))) ∧ M.1 b 7 = nI len ∧ ∀ k, k < len → M.1 (b + 118) k = nI (pad k)
/-- cells, but not the order of the pasts -/
def cz_fw (D : Nat → Prop) (M M' : cz_M) : Prop := ∀ x, ¬ D x → M'.1 x = M.1 x ∧ M'.2.1 x = M.2.1 x
theorem cz_fw.tr {D : Nat → Prop} {M M1 M2 : cz_M} (h : cz_fw D M M1) (h2 : cz_fw D M1 M2) : cz_fw D M M2 := fun x hx => ⟨((h2 x hx).1).trans (h x hx).1, ((h2 x hx).2).trans (h x hx).2⟩
theorem cz_srp_w {M M' : cz_M} {p : Nat} {A : cz_S} (h : ∀ x, p ≤ x → x < p + 57 → M'.1 x = M.1 x ∧ M'.2.1 x = M.2.1 x) (hA : A.2.1 ≤ 40) (rp : cz_srp M p A) : cz_srp M' p A := by
  unfold cz_srp at rp ⊢
  obtain ⟨r1, ⟨r2, r3⟩, r4, r5, r6, r7⟩ := rp
  refine ⟨fun k hk => by rw [(h (p + 1) (by omega) (by omega)).1]; exact r1 k hk, ⟨by rw [(h p (by omega) (by omega)).1]; exact r2, by rw [(h p (by omega) (by omega)).1]; exact r3⟩, fun k hk => by rw [(h (p + 3) (by omega) (by omega)).1]; exact r4 k hk, fun c hc f hf => by rw [(h (p + 2 + (7 + c)) (by omega) (by omega)).1]; exact r5 c hc f hf, fun r hr => ?_, fun i hi => ?_⟩
  · unfold cz_rr
    rw [(h (p + 5 + (48 + 2 * r)) (by omega) (by omega)).1, (h (p + 5 + (48 + 2 * r) + 1) (by omega) (by omega)).1]
    exact r6 r hr
  · unfold cz_rl
    rw [(h (p + 4 + (9 + i)) (by omega) (by omega)).1, (h (p + 4 + (9 + i)) (by omega) (by omega)).2]
    exact r7 i hi
theorem cz_cv_w {b : Nat} {M M' : cz_M} {D : Nat → Prop} {now : cz_S} {hist : Nat → cz_S} {pc : Nat} {slot : Nat → cz_S} {used pad : Nat → Nat} {len : Nat} (h : cz_fr D M M') (hD : ∀ x, D x → b + 461 ≤ x ∨ (b + 58 ≤ x ∧ x < b + 115)) (wf : cz_wq now hist pc slot used pad len) (cv : cz_cv b M now hist pc slot used pad len) : cz_cv b M' now hist pc slot used pad len := by
  have hx : ∀ x, x < b + 58 ∨ (b + 115 ≤ x ∧ x < b + 461) → M'.1 x = M.1 x ∧ M'.2.1 x = M.2.1 x := fun x hx => h.1 x (fun z => by have := hD x z; omega)
  obtain ⟨c1, c2, c3, c4, c5, c6, c7⟩ := cv
  obtain ⟨w1, ⟨w2, w3⟩, w4, w5⟩ := wf
  have c3' := c3
  obtain ⟨π, hp1, hp2⟩ := c3'
  refine ⟨cz_srp_w (fun x h1 h2 => hx x (by omega)) w1.1.1.1.1 c1, by rw [(hx b (by omega)).1]; exact c2, by unfold cz_pi at c3 ⊢; rw [h.2]; exact c3, fun i hi => ?_, fun i hi => ?_, by rw [(hx b (by omega)).1]; exact c6, by rw [(hx (b + 118) (by omega)).1]; exact c7⟩
  · rw [h.2]
    have := hp1 i (by omega)
    exact cz_srp_w (fun x h1 h2 => hx x (by omega)) (w3 i hi).1.1.1.1 (c4 i hi)
  · rw [(hx (b + 117) (by omega)).1]
    exact ⟨(c5 i hi).1, fun hu => cz_srp_w (fun x h1 h2 => hx x (by omega)) ((w4 i hi).2 hu).1.1.1.1 ((c5 i hi).2 hu)⟩
/-- the history with one more state -/
def cz_hp (hist : Nat → cz_S) (pc : Nat) (now : cz_S) : Nat → cz_S := if pc = 4 then (fun i => if i = 3 then now else hist (i + 1)) else fun i => if i = pc then now else hist i
def cz_hc (pc : Nat) : Nat := if pc = 4 then 4 else pc + 1
theorem cz_wq_rec {now : cz_S} {hist : Nat → cz_S} {pc : Nat} {slot : Nat → cz_S} {used pad : Nat → Nat} {len : Nat} (wf : cz_wq now hist pc slot used pad len) : cz_wq now (cz_hp hist pc now) (cz_hc pc) slot used pad len := by
  obtain ⟨w1, ⟨w2, w3⟩, w4, w5⟩ := wf
  refine ⟨w1, ⟨?_, fun i hi => ?_⟩, w4, w5⟩
  · unfold cz_hc
    split <;> omega
  · unfold cz_hc at hi
    unfold cz_hp
    by_cases h4 : pc = 4
    · rw [if_pos h4] at hi
      rw [if_pos h4]
      split
      · exact w1
      · exact w3 _ (by omega)
    · rw [if_neg h4] at hi
      rw [if_neg h4]
      split
      · exact w1
      · exact w3 _ (by omega)
