/-- the row that stays -/
def cz_nl (s u : Nat → Int32) (L : List Nat) : List Nat := L.filter (cz_pb s u 0) ++ L.filter (cz_pb s u 1)
theorem cz_pb_x {s u : Nat → Int32} (i : Nat) : ¬ (cz_pb s u 0 i = true ∧ cz_pb s u 1 i = true) := by
  rintro ⟨h1, h2⟩
  have e1 := (cz_pb_t.mp h1).2
  have e2 := (cz_pb_t.mp h2).2
  rw [e1] at e2
  exact absurd e2 (by decide)
theorem cz_nl_len (s u : Nat → Int32) (L : List Nat) : (cz_nl s u L).length ≤ L.length := by
  rw [cz_nl, List.length_append]
  exact cz_fl L (fun i _ => cz_pb_x i)
/-- the row is laid anew -/
def cz_rw (s : Nat → Int32) (r len : Nat) (l : List Nat) : Nat → Int32 := fun j => if 31 + 40 * r ≤ j ∧ j < 31 + 40 * r + len then nI (l.getD (j - (31 + 40 * r)) 0) else s j
/-- a prison's censor goes through its row -/
def cz_gt (w : Nat → Int32) (r c rdm : Nat) (L : List Nat) (p : (Nat → Int32) × (Nat → Int32)) : (Nat → Int32) × (Nat → Int32) :=
  let q := cz_go w c rdm L (0, p)
  (upd (cz_rw q.2.1 r L.length (cz_nl q.2.1 q.2.2 L)) (29 + r) (nI (cz_nl q.2.1 q.2.2 L).length), q.2.2)
