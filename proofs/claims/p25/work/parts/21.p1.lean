/-! bits -/
theorem cz_and1 {n : Nat} (h : n < 2 ^ 32) : nI n &&& nI 1 = nI (n % 2) := pk_andN h 1 (by decide)
theorem cz_or_k : ∀ k, k < 8 → ∀ a, a < 2 ^ k → ∀ b, b < 2 → nI a ||| (nI b <<< (nI k &&& nI 31)) = nI (a + b * 2 ^ k) := by decide +kernel
def cz_mk (S : Nat) (d : Nat → Nat) : Nat → Nat
  | 0 => 0
  | k + 1 => cz_mk S d k + (S / 2 ^ d k % 2) * 2 ^ k
theorem cz_mk_lt (S : Nat) (d : Nat → Nat) : ∀ k, cz_mk S d k < 2 ^ k
  | 0 => by simp [cz_mk]
  | k + 1 => by
    have h1 := cz_mk_lt S d k
    have h2 : S / 2 ^ d k % 2 < 2 := Nat.mod_lt _ (by decide)
    have h3 : (S / 2 ^ d k % 2) * 2 ^ k ≤ 1 * 2 ^ k := Nat.mul_le_mul_right _ (by omega)
    rw [cz_mk, Nat.pow_succ]
    omega
theorem cz_mk_256 (S : Nat) (d : Nat → Nat) {k : Nat} (hk : k ≤ 8) : cz_mk S d k < 256 := Nat.lt_of_lt_of_le (cz_mk_lt S d k) (Nat.pow_le_pow_right (by decide) hk : 2 ^ k ≤ 2 ^ 8)
theorem cz_mk_congr {S : Nat} {d d' : Nat → Nat} : ∀ {k : Nat}, (∀ j, j < k → d j = d' j) → cz_mk S d k = cz_mk S d' k
  | 0, _ => rfl
  | k + 1, h => by rw [cz_mk, cz_mk, cz_mk_congr (fun j hj => h j (by omega)), h k (by omega)]
def cz_pc (m : Nat) : Nat := m % 2 + m / 2 % 2 + m / 4 % 2 + m / 8 % 2 + m / 16 % 2 + m / 32 % 2 + m / 64 % 2 + m / 128 % 2
theorem cz_pc_le (m : Nat) : cz_pc m ≤ 8 := by unfold cz_pc; omega
theorem c_bits8 : ∀ m, m < 256 → f_J6_bitCount_0f7a4 (nI m) = some (nI (cz_pc m)) := by decide +kernel
/-! the words of a letter, in the reference: two numbers of four digits -/
def cz_dig (s : Nat → Int32) (i k : Nat) : Nat := (s (111 + 11 * i + (9 + k / 4))).toNatClampNeg / 26 ^ (k % 4) % 26
