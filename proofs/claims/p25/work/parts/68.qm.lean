/-! the fault, on both sides -/
/-- K letters stand from a place on, and no fault is there -/
def cz_vl (pad : Nat → Nat) (len : Nat) : Nat → Nat → Prop
  | 0, _ => False
  | K + 1, p => 3 ≤ cz_rt pad len p ∧ ((p + cz_rt pad len p = len ∧ K = 0) ∨ (p + cz_rt pad len p < len ∧ pad (p + cz_rt pad len p) = 44 ∧ cz_vl pad len K (p + cz_rt pad len p + 1)))
/-- the reference's memory, but for the count of letters -/
def cz_td (a : Nat) (M m : cz_M) : Prop := cz_fr (fun x => x = a) M m ∧ ∀ k, k ≠ 11 → m.1 a k = M.1 a k
theorem cz_td.tr {a : Nat} {M m n : cz_M} (h : cz_td a M m) (h2 : cz_td a m n) : cz_td a M n := ⟨h.1.tr h2.1, fun k hk => (h2.2 k hk).trans (h.2 k hk)⟩
theorem cz_td.mI {a : Nat} {M : cz_M} {v : Int32} : cz_td a M (cz_mI M a 11 v) := ⟨cz_fr.mI rfl, fun k hk => by rw [cz_mI_s, pk_un hk]⟩
