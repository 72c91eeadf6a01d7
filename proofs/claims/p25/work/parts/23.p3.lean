/-- places of the state that no reading changes -/
def cz_kp (j : Nat) : Prop := j < 13 ∨ (13 ≤ j ∧ j < 29 ∧ (j - 13) % 4 = 0) ∨ (29 ≤ j ∧ j < 111) ∨ (111 ≤ j ∧ ((j - 111) % 11 = 0 ∨ (j - 111) % 11 = 1 ∨ (j - 111) % 11 = 3 ∨ (j - 111) % 11 = 4 ∨ (j - 111) % 11 = 8 ∨ (j - 111) % 11 = 9 ∨ (j - 111) % 11 = 10))
theorem cz_rd_kp {s : Nat → Int32} {c i m j : Nat} (hc : c < 4) (hj : cz_kp j) : cz_rd s c i m j = s j := by
  unfold cz_kp at hj
  unfold cz_rd
  split
  · rw [pk_un (by omega), pk_un (by omega), pk_un (by omega), pk_un (by omega)]
  · rw [pk_un (by omega), pk_un (by omega), pk_un (by omega), pk_un (by omega), pk_un (by omega)]
/-- the words that the censor c would strike in the letter i -/
def cz_ms (s : Nat → Int32) (c i : Nat) : Nat := cz_mk (s (13 + 4 * c)).toNatClampNeg (cz_dig s i) (s (111 + 11 * i + 8)).toNatClampNeg
theorem cz_dig_eq {s s' : Nat → Int32} (h : ∀ j, cz_kp j → s j = s' j) (i k : Nat) (hk : k < 8) : cz_dig s i k = cz_dig s' i k := by
  unfold cz_dig
  rw [h _ (by unfold cz_kp; omega)]
theorem cz_ms_eq {s s' : Nat → Int32} (h : ∀ j, cz_kp j → s j = s' j) {c i : Nat} (hc : c < 4) (hl : (s (111 + 11 * i + 8)).toNatClampNeg ≤ 8) : cz_ms s c i = cz_ms s' c i := by
  unfold cz_ms
  rw [← h (13 + 4 * c) (by unfold cz_kp; omega), ← h (111 + 11 * i + 8) (by unfold cz_kp; omega)]
  exact cz_mk_congr (fun j hj => cz_dig_eq h i j (by omega))
theorem cz_bar_eq {s s' w : Nat → Int32} (h : ∀ j, cz_kp j → s j = s' j) (i : Nat) : cz_bar s w i ↔ cz_bar s' w i := by
  have e : ∀ j, s (111 + 11 * j) = s' (111 + 11 * j) := fun j => h _ (by unfold cz_kp; omega)
  unfold cz_bar
  simp only [e]
/-- one letter of a row: the count of those that were read, the state, who was read -/
def cz_s1 (w : Nat → Int32) (c rdm : Nat) (p : Nat × (Nat → Int32) × (Nat → Int32)) (i : Nat) : Nat × (Nat → Int32) × (Nat → Int32) :=
  if p.1 < rdm ∧ ¬ cz_bar p.2.1 w i then (p.1 + 1, cz_rd p.2.1 c i (cz_ms p.2.1 c i), upd p.2.2 i (nI 1)) else p
def cz_go (w : Nat → Int32) (c rdm : Nat) (l : List Nat) (p : Nat × (Nat → Int32) × (Nat → Int32)) : Nat × (Nat → Int32) × (Nat → Int32) := l.foldl (cz_s1 w c rdm) p
theorem cz_go_snoc (w : Nat → Int32) (c rdm : Nat) (l : List Nat) (i : Nat) (p : Nat × (Nat → Int32) × (Nat → Int32)) : cz_go w c rdm (l ++ [i]) p = cz_s1 w c rdm (cz_go w c rdm l p) i := by
  simp [cz_go, List.foldl_append]
theorem cz_go_kp {w : Nat → Int32} {c rdm : Nat} (hc : c < 4) {j : Nat} (hj : cz_kp j) : ∀ (l : List Nat) (p : Nat × (Nat → Int32) × (Nat → Int32)), (cz_go w c rdm l p).2.1 j = p.2.1 j
  | [], p => rfl
  | i :: l, p => by
    show (cz_go w c rdm l (cz_s1 w c rdm p i)).2.1 j = _
    rw [cz_go_kp hc hj l]
    unfold cz_s1
    split
    · exact cz_rd_kp hc hj
    · rfl
theorem cz_take {l : List Nat} {k : Nat} (h : k < l.length) : l.take (k + 1) = l.take k ++ [l[k]] := List.take_succ_eq_append_getElem h
/-- a letter's numbers are sound -/
def cz_lw (s : Nat → Int32) (i : Nat) : Prop := (∃ l, 1 ≤ l ∧ l ≤ 8 ∧ s (111 + 11 * i + 8) = nI l) ∧ (∃ u, u < 2 ^ 31 ∧ s (111 + 11 * i + 9) = nI u) ∧ (∃ u, u < 2 ^ 31 ∧ s (111 + 11 * i + 10) = nI u)
theorem cz_lw_eq {s s' : Nat → Int32} (h : ∀ j, cz_kp j → s j = s' j) {i : Nat} (hw : cz_lw s i) : cz_lw s' i := by
  unfold cz_lw at hw ⊢
  rw [← h (111 + 11 * i + 8) (by unfold cz_kp; omega), ← h (111 + 11 * i + 9) (by unfold cz_kp; omega), ← h (111 + 11 * i + 10) (by unfold cz_kp; omega)]
  exact hw
