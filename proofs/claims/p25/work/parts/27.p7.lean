/-! what a state of the reference is -/
/-- the letter i -/
def cz_le (s : Nat → Int32) (W : Nat) (R : Nat → List Nat) (i : Nat) : Prop :=
  cz_lw s i ∧ (∃ t, t < 5 ∧ s (111 + 11 * i) = nI t) ∧ (∃ r, r < 2 ∧ s (111 + 11 * i + 1) = nI r ∧ (s (111 + 11 * i + 2) = nI 0 → i ∈ R r)) ∧ (s (111 + 11 * i + 2) = nI 0 ∨ s (111 + 11 * i + 2) = nI 1 ∨ s (111 + 11 * i + 2) = nI 2 ∨ s (111 + 11 * i + 2) = nI 3) ∧ (∃ v, v ≤ W ∧ s (111 + 11 * i + 3) = nI v) ∧ (s (111 + 11 * i + 2) = nI 1 → ∃ d, d ≤ W ∧ s (111 + 11 * i + 4) = nI d) ∧ (s (111 + 11 * i + 2) ≠ nI 1 → s (111 + 11 * i + 4) = (-6 : Int32)) ∧ (∃ m, m < 256 ∧ s (111 + 11 * i + 5) = nI m) ∧ (∃ b, b ≤ 5 ∧ s (111 + 11 * i + 6) = nI b ∧ (s (111 + 11 * i + 2) = nI 0 → b ≤ 4)) ∧ (s (111 + 11 * i + 7) = (-6 : Int32) ∨ ∃ c, c < 4 ∧ s (111 + 11 * i + 7) = nI c)
/-- the row r -/
def cz_ro (s : Nat → Int32) (n r : Nat) (l : List Nat) : Prop :=
  s (29 + r) = nI l.length ∧ l.length ≤ 40 ∧ (∀ k (h : k < l.length), s (31 + 40 * r + k) = nI l[k]) ∧ l.Nodup ∧ ∀ i ∈ l, i < n ∧ s (111 + 11 * i + 1) = nI r ∧ s (111 + 11 * i + 2) = nI 0
/-- a state within a week: letters that were let through have the state 3; T bounds the turnings back of a censor -/
def cz_om (s : Nat → Int32) (n W T : Nat) (R : Nat → List Nat) : Prop :=
  (n ≤ 40 ∧ s 4 = nI n ∧ W < 2 ^ 20 ∧ s 3 = nI W) ∧ ((∃ k, k ≤ 9 ∧ s 0 = nI k) ∧ (∃ k, k ≤ 8 ∧ s 1 = nI k) ∧ (∃ k, k ≤ 5 ∧ s 2 = nI k)) ∧ (∀ k, k < 8 → ∃ c, c < 4 ∧ s (5 + k) = nI c) ∧ (∀ c, c < 4 → ∃ S, S < 2 ^ 26 ∧ s (13 + 4 * c) = nI S) ∧ (∀ r, r < 2 → cz_ro s n r (R r)) ∧ (∀ i, i < n → cz_le s W R i) ∧ ∀ c, c < 4 → ∃ t, t ≤ T ∧ s (13 + 4 * c + 3) = nI t
def cz_ok (s : Nat → Int32) (n W : Nat) (R : Nat → List Nat) : Prop := cz_om s n W (18 * W) R ∧ ∀ i, i < n → s (111 + 11 * i + 2) ≠ nI 3
/-- a place's number -/
def cz_no (s : Nat → Int32) (k : Nat) : Nat := (s k).toNatClampNeg
theorem cz_no_e {s : Nat → Int32} {k v : Nat} (h : s k = nI v) (hv : v < 2 ^ 31) : cz_no s k = v := by
  unfold cz_no
  rw [h, cz_cl hv]
def cz_wA (s : Nat → Int32) (W : Nat) (R : Nat → List Nat) : (Nat → Int32) × (Nat → Int32) := cz_wa s (cz_no s (5 + 2 * (W % 4))) (cz_no s (5 + 2 * (W % 4) + 1)) (cz_no s 0) (R 0) (R 1)
/-- the state a week later -/
def cz_wK (s : Nat → Int32) (n W : Nat) (R : Nat → List Nat) : Nat → Int32 := cz_fi (upd (cz_wA s W R).1 3 ((cz_wA s W R).1 3 + nI 1)) n
theorem cz_gt_kp {w : Nat → Int32} {r c rdm : Nat} {L : List Nat} {p : (Nat → Int32) × (Nat → Int32)} {j : Nat} (hc : c < 4) (hL : L.length ≤ 40) (hj : cz_kp j) (h2 : j ≠ 29 + r) (h3 : j < 31 + 40 * r ∨ 31 + 40 * r + 40 ≤ j) : (cz_gt w r c rdm L p).1 j = p.1 j := by
  unfold cz_gt
  dsimp only
  rw [pk_un h2, cz_rw, if_neg (by omega)]
  exact cz_go_kp hc hj L _
