/-! bits of a set of words, on both sides -/
theorem cz_andN (a b : Nat) : nI a &&& nI b = nI (a &&& b) := by
  apply Int32.toBitVec_inj.1
  show BitVec.ofNat 32 a &&& BitVec.ofNat 32 b = BitVec.ofNat 32 (a &&& b)
  apply BitVec.eq_of_getLsbD_eq
  intro i hi
  simp [BitVec.getLsbD_and, BitVec.getLsbD_ofNat, hi, Nat.testBit_and]
theorem cz_xorN (a b : Nat) : nI a ^^^ nI b = nI (a ^^^ b) := by
  apply Int32.toBitVec_inj.1
  show BitVec.ofNat 32 a ^^^ BitVec.ofNat 32 b = BitVec.ofNat 32 (a ^^^ b)
  apply BitVec.eq_of_getLsbD_eq
  intro i hi
  simp [BitVec.getLsbD_xor, BitVec.getLsbD_ofNat, hi, Nat.testBit_xor]
theorem cz_shl1 : ∀ w, w < 26 → nI 1 <<< (nI w &&& nI 31) = nI (2 ^ w) := by decide +kernel
theorem cz_land8 (x y : Nat) : x &&& y = (x % 256 &&& y % 256) + 256 * (x / 256 &&& y / 256) := by
  have h1 : (x &&& y) % 2 ^ 8 = x % 2 ^ 8 &&& y % 2 ^ 8 := Nat.and_mod_two_pow
  have h2 : (x &&& y) / 2 ^ 8 = x / 2 ^ 8 &&& y / 2 ^ 8 := Nat.and_div_two_pow
  rw [show (256 : Nat) = 2 ^ 8 from rfl, ← h1, ← h2]
  omega
theorem cz_bt0 : ∀ m, m < 256 → m * 16843009 % 256 = m ∧ m * 16843009 / 256 % 256 = m ∧ m * 16843009 / 256 / 256 % 256 = m ∧ m * 16843009 / 256 / 256 / 256 % 256 = m := by decide +kernel
theorem cz_land32 {x m a b c d : Nat} (hx : x = a + 256 * b + 65536 * c + 16777216 * d) (ha : a < 256) (hb : b < 256) (hc : c < 256) (hd : d < 256) (hm : m < 256) : x &&& (m * 16843009) = (a &&& m) + 256 * (b &&& m) + 65536 * (c &&& m) + 16777216 * (d &&& m) := by
  rw [cz_land8 x, cz_land8 (x / 256), cz_land8 (x / 256 / 256), cz_land8 (x / 256 / 256 / 256)]
  rw [show x % 256 = a by omega, show x / 256 % 256 = b by omega, show x / 256 / 256 % 256 = c by omega, show x / 256 / 256 / 256 % 256 = d by omega]
  obtain ⟨k1, k2, k3, k4⟩ := cz_bt0 m hm
  rw [k1, k2, k3, k4, show x / 256 / 256 / 256 / 256 = 0 by omega, Nat.zero_and]
  omega
def cz_bp (B : Nat) : Nat := B - (B / 2 &&& 85)
def cz_bq (B : Nat) : Nat := (cz_bp B &&& 51) + (cz_bp B / 4 &&& 51)
theorem cz_bt1 : ∀ B, B < 256 → (∀ t, t < 2 → (B / 2 + 128 * t &&& 85) = (B / 2 &&& 85)) ∧ (B / 2 &&& 85) ≤ B := by decide +kernel
theorem cz_bt2 : ∀ P, P < 256 → ∀ t, t < 4 → (P / 4 + 64 * t &&& 51) = (P / 4 &&& 51) := by decide +kernel
theorem cz_bt3 : ∀ B, B < 256 → cz_bp B < 256 ∧ cz_bq B ≤ 68 ∧ cz_bq B % 16 ≤ 4 ∧ ∀ t, t < 5 → (cz_bq B + cz_bq B / 16 + 16 * t &&& 15) = cz_pc B := by decide +kernel
/-- bits, place by place -/
def cz_bs (S : Nat) : Nat → Nat
  | 0 => 0
  | k + 1 => cz_bs S k + S / 2 ^ k % 2
theorem cz_bs_8 (S : Nat) : ∀ k, cz_bs S (8 + k) = cz_pc (S % 256) + cz_bs (S / 256) k
  | 0 => by
    show 0 + S / 2 ^ 0 % 2 + S / 2 ^ 1 % 2 + S / 2 ^ 2 % 2 + S / 2 ^ 3 % 2 + S / 2 ^ 4 % 2 + S / 2 ^ 5 % 2 + S / 2 ^ 6 % 2 + S / 2 ^ 7 % 2 = cz_pc (S % 256) + 0
    unfold cz_pc
    omega
  | k + 1 => by
    show cz_bs S (8 + k) + S / 2 ^ (8 + k) % 2 = cz_pc (S % 256) + (cz_bs (S / 256) k + S / 256 / 2 ^ k % 2)
    rw [cz_bs_8 S k, Nat.pow_add, ← Nat.div_div_eq_div_mul, show (2 : Nat) ^ 8 = 256 from rfl]
    omega
theorem cz_bs_26 {S : Nat} (hS : S < 2 ^ 26) : cz_bs S 26 = cz_pc (S % 256) + cz_pc (S / 256 % 256) + cz_pc (S / 65536 % 256) + cz_pc (S / 16777216) := by
  rw [show 26 = 8 + (8 + (8 + 2)) from rfl, cz_bs_8, cz_bs_8, cz_bs_8, Nat.div_div_eq_div_mul, Nat.div_div_eq_div_mul]
  have h : cz_bs (S / (256 * 256 * 256)) 2 = cz_pc (S / (256 * 256 * 256)) := by
    show 0 + S / (256 * 256 * 256) / 2 ^ 0 % 2 + S / (256 * 256 * 256) / 2 ^ 1 % 2 = _
    unfold cz_pc
    omega
  rw [h, show 256 * 256 * 256 = 16777216 from rfl, show 256 * 256 = 65536 from rfl]
  omega
theorem c_bits26 {S : Nat} (hS : S < 2 ^ 26) : f_J6_bitCount_0f7a4 (nI S) = some (nI (cz_bs S 26)) := by
  rw [cz_bs_26 hS]
  obtain ⟨a, b, c, d, e, ha, hb, hc, hd, e1, e2, e3, e4⟩ : ∃ a b c d, S = a + 256 * b + 65536 * c + 16777216 * d ∧ a < 256 ∧ b < 256 ∧ c < 256 ∧ d < 4 ∧ S % 256 = a ∧ S / 256 % 256 = b ∧ S / 65536 % 256 = c ∧ S / 16777216 = d := ⟨S % 256, S / 256 % 256, S / 65536 % 256, S / 16777216, by omega, by omega, by omega, by omega, by omega, rfl, rfl, rfl, rfl⟩
  rw [e1, e2, e3, e4]
  have ka := cz_bt1 a ha
  have kb := cz_bt1 b hb
  have kc := cz_bt1 c hc
  have kd := cz_bt1 d (by omega)
  obtain ⟨pa, qa, na, ra⟩ := cz_bt3 a ha
  obtain ⟨pb, qb, nb, rb⟩ := cz_bt3 b hb
  obtain ⟨pc, qc, nc, rc⟩ := cz_bt3 c hc
  obtain ⟨pd, qd, nd, rd⟩ := cz_bt3 d (by omega)
  have h1 : S / 2 &&& 1431655765 = (a / 2 &&& 85) + 256 * (b / 2 &&& 85) + 65536 * (c / 2 &&& 85) + 16777216 * (d / 2 &&& 85) := by
    rw [show 1431655765 = 85 * 16843009 from rfl, cz_land32 (x := S / 2) (a := a / 2 + 128 * (b % 2)) (b := b / 2 + 128 * (c % 2)) (c := c / 2 + 128 * (d % 2)) (d := d / 2) (by omega) (by omega) (by omega) (by omega) (by omega) (by decide), ka.1 _ (Nat.mod_lt _ (by decide)), kb.1 _ (Nat.mod_lt _ (by decide)), kc.1 _ (Nat.mod_lt _ (by decide))]
  have v1 : nI S - (cz_us (nI S) (nI 1) &&& nI 1431655765) = nI (cz_bp a + 256 * cz_bp b + 65536 * cz_bp c + 16777216 * cz_bp d) := by
    rw [cz_usN (by omega) (by decide), cz_andN, Nat.pow_one, h1, cz_subN (by omega)]
    congr 1
    unfold cz_bp
    omega
  have v2 : (nI (cz_bp a + 256 * cz_bp b + 65536 * cz_bp c + 16777216 * cz_bp d) &&& nI 858993459) + (cz_us (nI (cz_bp a + 256 * cz_bp b + 65536 * cz_bp c + 16777216 * cz_bp d)) (nI 2) &&& nI 858993459) = nI (cz_bq a + 256 * cz_bq b + 65536 * cz_bq c + 16777216 * cz_bq d) := by
    have hd4 : cz_bp d ≤ d := Nat.sub_le _ _
    rw [cz_usN (by omega) (by decide), cz_andN, cz_andN, nI_add, show 858993459 = 51 * 16843009 from rfl, cz_land32 rfl pa pb pc pd (by decide)]
    rw [cz_land32 (x := (cz_bp a + 256 * cz_bp b + 65536 * cz_bp c + 16777216 * cz_bp d) / 2 ^ 2) (a := cz_bp a / 4 + 64 * (cz_bp b % 4)) (b := cz_bp b / 4 + 64 * (cz_bp c % 4)) (c := cz_bp c / 4 + 64 * (cz_bp d % 4)) (d := cz_bp d / 4) (by omega) (by omega) (by omega) (by omega) (by omega) (by decide), cz_bt2 _ pa _ (Nat.mod_lt _ (by decide)), cz_bt2 _ pb _ (Nat.mod_lt _ (by decide)), cz_bt2 _ pc _ (Nat.mod_lt _ (by decide))]
    congr 1
    unfold cz_bq
    omega
  have v3 : (nI (cz_bq a + 256 * cz_bq b + 65536 * cz_bq c + 16777216 * cz_bq d) + cz_us (nI (cz_bq a + 256 * cz_bq b + 65536 * cz_bq c + 16777216 * cz_bq d)) (nI 4)) &&& nI 252645135 = nI (cz_pc a + 256 * cz_pc b + 65536 * cz_pc c + 16777216 * cz_pc d) := by
    rw [cz_usN (by omega) (by decide), nI_add, cz_andN, show 252645135 = 15 * 16843009 from rfl]
    rw [cz_land32 (a := cz_bq a + cz_bq a / 16 + 16 * (cz_bq b % 16)) (b := cz_bq b + cz_bq b / 16 + 16 * (cz_bq c % 16)) (c := cz_bq c + cz_bq c / 16 + 16 * (cz_bq d % 16)) (d := cz_bq d + cz_bq d / 16 + 16 * 0) (by omega) (by omega) (by omega) (by omega) (by omega) (by decide), ra _ (by omega), rb _ (by omega), rc _ (by omega), rd _ (by omega)]
  have la := cz_pc_le a
  have lb := cz_pc_le b
  have lc := cz_pc_le c
  have ld := cz_pc_le d
  have fin : ∀ A B C D : Nat, A ≤ 8 → B ≤ 8 → C ≤ 8 → D ≤ 8 → (A + 256 * B + 65536 * C + 16777216 * D + (A + 256 * B + 65536 * C + 16777216 * D) / 2 ^ 8 + (A + 256 * B + 65536 * C + 16777216 * D + (A + 256 * B + 65536 * C + 16777216 * D) / 2 ^ 8) / 2 ^ 16) % 2 ^ 6 = A + B + C + D := by
    intro A B C D h1 h2 h3 h4
    have k1 : (A + 256 * B + 65536 * C + 16777216 * D) / 2 ^ 8 = B + 256 * C + 65536 * D := by omega
    rw [k1]
    have k2 : (A + 256 * B + 65536 * C + 16777216 * D + (B + 256 * C + 65536 * D)) / 2 ^ 16 = C + D + 256 * D := by omega
    rw [k2]
    have k3 : A + 256 * B + 65536 * C + 16777216 * D + (B + 256 * C + 65536 * D) + (C + D + 256 * D) = (A + B + C + D) + 64 * (4 * B + 4 * C + 4 * D + 1024 * C + 1024 * D + 262144 * D) := by omega
    rw [k3]
    omega
  rw [f_J6_bitCount_0f7a4, v1, cz_lt_e, v2, cz_lt_e, v3, cz_lt_e, cz_usN (by omega) (by decide), nI_add, cz_lt_e, cz_usN (by omega) (by decide), nI_add, cz_lt_e, pk_andN (by omega) 6 (by decide), fin _ _ _ _ la lb lc ld]
