/-! undo, save, restore -/
theorem cz_sA {M : cz_M} {a a1 : Nat} {A : cz_S} (hd : a + 57 ≤ a1 ∨ a1 + 57 ≤ a) (h : cz_sok A) (rp : cz_srp M a1 A) : ∃ M', f_X2_copyFrom M a a1 = some M' ∧ cz_srp M' a A ∧ cz_fr (fun x => a ≤ x ∧ x < a + 57) M M' :=
  c_copy M a a1 hd h.1.1.1.1 h.1.1.1.2.1 (fun r hr => (h.1.1.2.2.2.2.1 r hr).2.1) rp
