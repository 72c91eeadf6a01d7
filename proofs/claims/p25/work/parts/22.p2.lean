theorem cz_mI_s (M : cz_M) (a k : Nat) (v : Int32) : (cz_mI M a k v).1 a = upd (M.1 a) k v := by
  funext j
  rw [cz_mI_1]
  by_cases h : j = k
  · subst h; rw [if_pos ⟨rfl, rfl⟩, pk_us]
  · rw [if_neg (fun q => h q.2), pk_un h]
theorem cz_mI_o {M : cz_M} {a k x : Nat} {v : Int32} (h : x ≠ a) : (cz_mI M a k v).1 x = M.1 x := by
  funext j
  rw [cz_mI_1, if_neg (fun q => h q.1)]
/-- what reading the letter i does, if the censor c strikes the words m in it -/
def cz_rd (s : Nat → Int32) (c i m : Nat) : Nat → Int32 :=
  if upd s (13 + 4 * c + 1) (s (13 + 4 * c + 1) + nI 1) 1 < nI (cz_pc m) then
    upd (upd (upd (upd s (13 + 4 * c + 1) (s (13 + 4 * c + 1) + nI 1)) (111 + 11 * i + 6) (s (111 + 11 * i + 6) + nI 1)) (13 + 4 * c + 3) (s (13 + 4 * c + 3) + nI 1)) (111 + 11 * i + 2) (if s (111 + 11 * i + 6) + nI 1 < s 2 then nI 0 else nI 2)
  else
    upd (upd (upd (upd (upd s (13 + 4 * c + 1) (s (13 + 4 * c + 1) + nI 1)) (111 + 11 * i + 2) (nI 3)) (111 + 11 * i + 5) (nI m)) (111 + 11 * i + 7) (nI c)) (13 + 4 * c + 2) (s (13 + 4 * c + 2) + nI (cz_pc m))
/-- barred: one ahead in the thread was waiting -/
abbrev cz_bar (s w : Nat → Int32) (i : Nat) : Prop := ∃ j, j < i ∧ s (111 + 11 * j) = s (111 + 11 * i) ∧ w j = nI 1
