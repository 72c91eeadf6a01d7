/-! a week of the reference -/
/-- who waits as the week begins -/
def cz_wt (s : Nat → Int32) : Nat → Int32 := fun j => if s (111 + 11 * j + 2) = nI 0 then nI 1 else nI 0
/-- what the two censors do -/
def cz_wa (s : Nat → Int32) (c0 c1 rdm : Nat) (L0 L1 : List Nat) : (Nat → Int32) × (Nat → Int32) := cz_gt (cz_wt s) 1 c1 rdm L1 (cz_gt (cz_wt s) 0 c0 rdm L0 (s, fun _ => nI 0))
/-- at the end of the week those that were let through come -/
def cz_fi (s : Nat → Int32) (k : Nat) : Nat → Int32 := fun j => if 111 ≤ j ∧ j < 111 + 11 * k ∧ s (111 + 11 * ((j - 111) / 11) + 2) = nI 3 then (if (j - 111) % 11 = 2 then nI 1 else if (j - 111) % 11 = 4 then s 3 - s (111 + 11 * ((j - 111) / 11) + 3) else s j) else s j
def cz_cn (s : Nat → Int32) : Nat → Nat
  | 0 => 0
  | k + 1 => cz_cn s k + (if s (111 + 11 * k + 2) = nI 3 then 1 else 0)
theorem cz_fi_p {s : Nat → Int32} {k j : Nat} (h : 111 ≤ j ∧ j < 111 + 11 * k ∧ s (111 + 11 * ((j - 111) / 11) + 2) = nI 3) : cz_fi s k j = if (j - 111) % 11 = 2 then nI 1 else if (j - 111) % 11 = 4 then s 3 - s (111 + 11 * ((j - 111) / 11) + 3) else s j := if_pos h
theorem cz_fi_q {s : Nat → Int32} {k j : Nat} (h : ¬ (111 ≤ j ∧ j < 111 + 11 * k ∧ s (111 + 11 * ((j - 111) / 11) + 2) = nI 3)) : cz_fi s k j = s j := if_neg h
/-- the end of the week leaves letters' other places -/
theorem cz_fi_o (s : Nat → Int32) (k j : Nat) (h : j < 111 ∨ ((j - 111) % 11 ≠ 2 ∧ (j - 111) % 11 ≠ 4) ∨ 111 + 11 * k ≤ j) : cz_fi s k j = s j := by
  by_cases h5 : 111 ≤ j ∧ j < 111 + 11 * k ∧ s (111 + 11 * ((j - 111) / 11) + 2) = nI 3
  · rw [cz_fi_p h5, if_neg (by omega), if_neg (by omega)]
  · rw [cz_fi_q h5]
