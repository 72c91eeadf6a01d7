/-! bits -/
theorem cz_sh31 : ∀ w, w < 32 → ((nI w &&& nI 31).toBitVec.smod 32).toNat = w := by decide +kernel
theorem cz_shr {S w : Nat} (hS : S < 2 ^ 31) (hw : w < 32) : nI S >>> (nI w &&& nI 31) = nI (S / 2 ^ w) := pk_shrN hS _ w (cz_sh31 w hw)
theorem cz_and1 {n : Nat} (h : n < 2 ^ 32) : nI n &&& nI 1 = nI (n % 2) := pk_andN h 1 (by decide)
theorem cz_bit {S w : Nat} (hS : S < 2 ^ 31) (hw : w < 32) : (nI S >>> (nI w &&& nI 31)) &&& nI 1 = nI (S / 2 ^ w % 2) := by
  rw [cz_shr hS hw, cz_and1 (Nat.lt_of_le_of_lt (Nat.div_le_self _ _) (by omega))]
theorem cz_or_k : ∀ k, k < 8 → ∀ a, a < 2 ^ k → ∀ b, b < 2 → nI a ||| (nI b <<< (nI k &&& nI 31)) = nI (a + b * 2 ^ k) := by decide +kernel
def cz_mk (S : Nat) (d : Nat → Nat) : Nat → Nat
  | 0 => 0
  | k + 1 => cz_mk S d k + (S / 2 ^ d k % 2) * 2 ^ k
theorem cz_mk_lt (S : Nat) (d : Nat → Nat) : ∀ k, cz_mk S d k < 2 ^ k
  | 0 => by simp [cz_mk]
  | k + 1 => by
    have h1 := cz_mk_lt S d k
    have h2 : S / 2 ^ d k % 2 < 2 := Nat.mod_lt _ (by decide)
    have h3 : (S / 2 ^ d k % 2) * 2 ^ k ≤ 1 * 2 ^ k := Nat.mul_le_mul_right _ (by omega)
    rw [cz_mk, Nat.pow_succ]
    omega
theorem cz_mk_256 (S : Nat) (d : Nat → Nat) {k : Nat} (hk : k ≤ 8) : cz_mk S d k < 256 := Nat.lt_of_lt_of_le (cz_mk_lt S d k) (Nat.pow_le_pow_right (by decide) hk : 2 ^ k ≤ 2 ^ 8)
theorem cz_mk_congr {S : Nat} {d d' : Nat → Nat} : ∀ {k : Nat}, (∀ j, j < k → d j = d' j) → cz_mk S d k = cz_mk S d' k
  | 0, _ => rfl
  | k + 1, h => by rw [cz_mk, cz_mk, cz_mk_congr (fun j hj => h j (by omega)), h k (by omega)]
def cz_pc (m : Nat) : Nat := m % 2 + m / 2 % 2 + m / 4 % 2 + m / 8 % 2 + m / 16 % 2 + m / 32 % 2 + m / 64 % 2 + m / 128 % 2
theorem cz_pc_le (m : Nat) : cz_pc m ≤ 8 := by unfold cz_pc; omega
theorem m_bits8 : ∀ m, m < 256 → f_X5_bits (nI m) = some (nI (cz_pc m)) := by decide +kernel
theorem c_bits8 : ∀ m, m < 256 → f_J6_bitCount_0f7a4 (nI m) = some (nI (cz_pc m)) := by decide +kernel
/-! the words of a letter, in the reference: two numbers of four digits -/
def cz_dig (s : Nat → Int32) (i k : Nat) : Nat := (s (111 + 11 * i + (9 + k / 4))).toNatClampNeg / 26 ^ (k % 4) % 26
theorem m_wordOf (M : cz_M) (a : Nat) {i k u : Nat} (hi : i < 40) (hk : k < 8) (hu : M.1 (a + 1) (111 + 11 * i + (9 + k / 4)) = nI u) (hu2 : u < 2 ^ 31) : f_X5_wordOf M a (nI i) (nI k) = some (nI (cz_dig (M.1 (a + 1)) i k)) := by
  have h0 : nI 9 + nI k / nI 4 = nI (9 + k / 4) := by rw [pk_div (by omega) (by decide) (by decide), nI_add]
  rw [f_X5_wordOf, h0, m_of M a hi (by omega), Option.bind_some, hu]
  obtain ⟨s', hI, h⟩ := cz_for2b (F := f_X5_wordOf_L15 (nI k) M (fun x6 x7 => some (x6 - x6 / (nI 26) * (nI 26)))) (fun j (s : Int32) => s = nI (u / 26 ^ j)) (fun s => some (s - s / (nI 26) * (nI 26))) (k % 4)
    (fun j s hj hI => by
      refine ⟨nI (u / 26 ^ (j + 1)), fun rec => ?_, rfl⟩
      subst hI
      have hb : u / 26 ^ j < 2 ^ 31 := Nat.lt_of_le_of_lt (Nat.div_le_self _ _) hu2
      rw [f_X5_wordOf_L15, pk_rem (by omega) (by decide) (by decide), if_neg (nI_ge hj (by omega)), cz_lt_e, cz_lt_e, pk_div hb (by decide) (by decide), nI_add, Nat.div_div_eq_div_mul, Nat.pow_succ])
    (fun s hI rec => by
      rw [f_X5_wordOf_L15, pk_rem (by omega) (by decide) (by decide), if_pos (nI_le (Nat.le_refl _) (by omega))]) (k % 4) 0 (nI u) 4096 (by omega) (by omega) (by simp)
  rw [h, hI, pk_rem (Nat.lt_of_le_of_lt (Nat.div_le_self _ _) hu2) (by decide) (by decide), cz_dig, hu, cz_cl hu2]
/-- the words of a letter that a set strikes -/
theorem m_strikes (M : cz_M) (a : Nat) {c i S len u v : Nat} (hc : c < 4) (hi : i < 40) (hS : M.1 (a + 1) (13 + 4 * c) = nI S) (hS2 : S < 2 ^ 26) (hl : M.1 (a + 1) (111 + 11 * i + 8) = nI len) (hl8 : len ≤ 8)
    (hu : M.1 (a + 1) (111 + 11 * i + 9) = nI u) (hu2 : u < 2 ^ 31) (hv : M.1 (a + 1) (111 + 11 * i + 10) = nI v) (hv2 : v < 2 ^ 31) : f_X5_strikes M a (nI c) (nI i) = some (nI (cz_mk S (cz_dig (M.1 (a + 1)) i) len)) := by
  rw [f_X5_strikes]
  obtain ⟨s', hI, h⟩ := cz_for2b (F := f_X5_strikes_L5 a (nI c) (nI i) M (fun x9 x10 => some x9)) (fun k (s : Int32) => s = nI (cz_mk S (cz_dig (M.1 (a + 1)) i) k)) (fun s => some s) len
    (fun k s hk hI => by
      refine ⟨nI (cz_mk S (cz_dig (M.1 (a + 1)) i) (k + 1)), fun rec => ?_, rfl⟩
      subst hI
      have hw : f_X5_wordOf M a (nI i) (nI k) = some (nI (cz_dig (M.1 (a + 1)) i k)) := by
        by_cases h4 : k < 4
        · exact m_wordOf M a hi (by omega) (by rw [Nat.div_eq_of_lt h4]; exact hu) hu2
        · exact m_wordOf M a hi (by omega) (by rw [show k / 4 = 1 by omega]; exact hv) hv2
      have hS0 : M.1 (a + 1) (13 + 4 * c + 0) = nI S := hS
      have hd : cz_dig (M.1 (a + 1)) i k < 32 := Nat.lt_of_lt_of_le (Nat.mod_lt _ (by decide)) (by decide)
      rw [f_X5_strikes_L5, m_of M a hi (by decide), Option.bind_some, hl, if_neg (nI_ge hk (by omega)), m_ofCensor, Option.bind_some, cz_gdn (by omega) (by decide), hw, Option.bind_some, cz_lt_e, cz_lt_e, cz_cl (by omega), hS0, cz_bit (by omega) hd, nI_add, cz_or_k k (by omega) _ (cz_mk_lt _ _ _) _ (Nat.mod_lt _ (by decide))]
      rfl)
    (fun s hI rec => by
      rw [f_X5_strikes_L5, m_of M a hi (by decide), Option.bind_some, hl, if_pos (nI_le (Nat.le_refl _) (by omega))]) len 0 (nI 0) 4096 (by omega) (by omega) rfl
  rw [h, hI]
