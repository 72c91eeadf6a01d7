/-! read, on both sides -/
/-- the pad is emptied, on each side -/
theorem cz_cv_0 {b : Nat} {M : cz_M} {now : cz_S} {hist : Nat → cz_S} {pc : Nat} {slot : Nat → cz_S} {used pad : Nat → Nat} {len : Nat} (wf : cz_wq now hist pc slot used pad len) (cv : cz_cv b M now hist pc slot used pad len) : cz_cv b (cz_mI M b 7 (nI 0)) now hist pc slot used pad 0 := by
  obtain ⟨c1, c2, ⟨π, hp1, hp2⟩, c4, c5, c6, c7⟩ := cv
  have hx : ∀ x, x ≠ b → (cz_mI M b 7 (nI 0)).1 x = M.1 x := fun x hx => cz_mI_o hx
  refine ⟨cz_srp_w (fun x h1 h2 => ⟨hx x (by omega), rfl⟩) wf.1.1.1.1.1 c1, by rw [cz_mI_s, pk_un (by decide), c2], ⟨π, hp1, hp2⟩, fun i hi => ?_, fun i hi => ?_, by rw [cz_mI_s, pk_us], fun k hk => by omega⟩
  · have hpi := (hp1 i (by have := wf.2.1.1; omega))
    exact cz_srp_w (p := M.2.2 i) (fun x h1 h2 => ⟨hx x (by rw [hpi.2] at h1; omega), rfl⟩) (wf.2.1.2 i hi).1.1.1.1 (c4 i hi)
  · rw [hx _ (by omega)]
    exact ⟨(c5 i hi).1, fun hu => cz_srp_w (fun x h1 h2 => ⟨hx x (by omega), rfl⟩) ((wf.2.2.1 i hi).2 hu).1.1.1.1 ((c5 i hi).2 hu)⟩
