/-! the invariant of the two sides -/
theorem cz_wq_now {now now' : cz_S} {hist : Nat → cz_S} {pc : Nat} {slot : Nat → cz_S} {used pad : Nat → Nat} {len : Nat} (wf : cz_wq now hist pc slot used pad len) (h : cz_sok now') : cz_wq now' hist pc slot used pad len := ⟨h, wf.2⟩
theorem cz_cv_now {b : Nat} {M M' : cz_M} {now now' : cz_S} {hist : Nat → cz_S} {pc : Nat} {slot : Nat → cz_S} {used pad : Nat → Nat} {len : Nat} (wf : cz_wq now hist pc slot used pad len) (h : cz_fr (fun x => b + 1 ≤ x ∧ x < b + 1 + 57) M M') (hn : cz_srp M' (b + 1) now') (cv : cz_cv b M now hist pc slot used pad len) : cz_cv b M' now' hist pc slot used pad len := by
  have hx : ∀ x, x < b + 1 ∨ b + 58 ≤ x → M'.1 x = M.1 x ∧ M'.2.1 x = M.2.1 x := fun x hx => h.1 x (by omega)
  obtain ⟨c1, c2, c3, c4, c5, c6, c7⟩ := cv
  obtain ⟨w1, ⟨w2, w3⟩, w4, w5⟩ := wf
  have c3' := c3
  obtain ⟨π, hp1, hp2⟩ := c3'
  refine ⟨hn, by rw [(hx b (by omega)).1]; exact c2, by unfold cz_pi at c3 ⊢; rw [h.2]; exact c3, fun i hi => ?_, fun i hi => ?_, by rw [(hx b (by omega)).1]; exact c6, by rw [(hx (b + 118) (by omega)).1]; exact c7⟩
  · rw [h.2]
    have := hp1 i (by omega)
    exact cz_srp_w (fun x h1 h2 => hx x (by omega)) (w3 i hi).1.1.1.1 (c4 i hi)
  · rw [(hx (b + 117) (by omega)).1]
    exact ⟨(c5 i hi).1, fun hu => cz_srp_w (fun x h1 h2 => hx x (by omega)) ((w4 i hi).2 hu).1.1.1.1 ((c5 i hi).2 hu)⟩
theorem cz_lt_not {x y : Int32} (h : y < x) : ¬ x ≤ y := fun z => absurd h (Int32.not_lt.mpr z)
