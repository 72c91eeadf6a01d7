/-! the class: a letter's words are bytes of a long -/
def cz_L (N : Nat) : Int64 := (UInt64.ofNat N).toInt64
theorem cz_sh63 : ∀ s, s < 64 → ((nI s).toInt64.toUInt64 &&& Int64.toUInt64 63) = UInt64.ofNat s := by decide +kernel
theorem cz_usl_L {N s : Nat} (hN : N < 2 ^ 64) (hs : s < 64) : cz_usl (cz_L N) (nI s) = cz_L (N / 2 ^ s) := by
  unfold cz_usl
  rw [cz_sh63 s hs]
  show ((UInt64.ofNat N) >>> UInt64.ofNat s).toInt64 = (UInt64.ofNat (N / 2 ^ s)).toInt64
  congr 1
  apply UInt64.toNat_inj.mp
  have h1 : N / 2 ^ s < 2 ^ 64 := Nat.lt_of_le_of_lt (Nat.div_le_self _ _) hN
  rw [UInt64.toNat_shiftRight, UInt64.toNat_ofNat_of_lt' hN, UInt64.toNat_ofNat_of_lt' (by show s < 2 ^ 64; omega), UInt64.toNat_ofNat_of_lt' h1, Nat.mod_eq_of_lt hs, Nat.shiftRight_eq_div_pow]
theorem cz_and_L {N : Nat} (hN : N < 2 ^ 64) : cz_L N &&& (255 : Int64) = cz_L (N % 256) := by
  show ((UInt64.ofNat N) &&& (255 : UInt64)).toInt64 = (UInt64.ofNat (N % 256)).toInt64
  congr 1
  apply UInt64.toNat_inj.mp
  rw [UInt64.toNat_and, UInt64.toNat_ofNat_of_lt' hN, UInt64.toNat_ofNat_of_lt' (by show N % 256 < 2 ^ 64; omega)]
  exact Nat.and_two_pow_sub_one_eq_mod N 8
theorem cz_or_L {N c s : Nat} (hN : N < 2 ^ s) (h : N + c * 2 ^ s < 2 ^ 64) : cz_L N ||| cz_L (c * 2 ^ s) = cz_L (N + c * 2 ^ s) := by
  show ((UInt64.ofNat N) ||| (UInt64.ofNat (c * 2 ^ s))).toInt64 = (UInt64.ofNat (N + c * 2 ^ s)).toInt64
  congr 1
  apply UInt64.toNat_inj.mp
  rw [UInt64.toNat_or, UInt64.toNat_ofNat_of_lt' (by show N < 2 ^ 64; omega), UInt64.toNat_ofNat_of_lt' (by show c * 2 ^ s < 2 ^ 64; omega), UInt64.toNat_ofNat_of_lt' h, Nat.mul_comm c, Nat.add_comm N, Nat.two_pow_add_eq_or_of_lt hN, Nat.or_comm]
theorem cz_L32 : ∀ c, c < 256 → Int64.toInt32 (cz_L c) = nI c := by decide +kernel
theorem cz_L64 : ∀ c, c < 256 → Int32.toInt64 (nI c) = cz_L c := by decide +kernel
theorem cz_slL : ∀ k, k < 8 → ∀ c, c < 128 → cz_sl (cz_L c) (nI 8 * nI k) = cz_L (c * 2 ^ (8 * k)) := by decide +kernel
theorem cz_code {N k : Nat} (hN : N < 2 ^ 64) (hk : k < 8) : (Int64.toInt32 (cz_usl (cz_L N) (nI 8 * nI k))) &&& nI 255 = nI (N / 2 ^ (8 * k) % 256) := by
  have h1 : N / 2 ^ (8 * k) < 2 ^ 64 := Nat.lt_of_le_of_lt (Nat.div_le_self _ _) hN
  rw [pk_mul, cz_usl_L hN (by omega)]
  have h : (Int64.toInt32 (cz_L (N / 2 ^ (8 * k)))) &&& nI 255 = Int64.toInt32 (cz_L (N / 2 ^ (8 * k)) &&& (255 : Int64)) := by
    rw [Int64.toInt32_and]
    rfl
  rw [h, cz_and_L h1, cz_L32 _ (Nat.mod_lt _ (by decide))]
def cz_wN (f : Nat → Nat) : Nat → Nat
  | 0 => 0
  | k + 1 => cz_wN f k + f k * 2 ^ (8 * k)
theorem cz_wN_lt {f : Nat → Nat} : ∀ {l : Nat}, (∀ k, k < l → f k < 256) → cz_wN f l < 2 ^ (8 * l)
  | 0, _ => by simp [cz_wN]
  | l + 1, h => by
    have h1 := cz_wN_lt (l := l) (fun k hk => h k (by omega))
    have h2 : f l * 2 ^ (8 * l) ≤ 255 * 2 ^ (8 * l) := Nat.mul_le_mul_right _ (by have := h l (by omega); omega)
    rw [cz_wN, show 8 * (l + 1) = 8 * l + 8 by omega, Nat.pow_add]
    omega
theorem cz_wN_congr {f f' : Nat → Nat} : ∀ {l : Nat}, (∀ k, k < l → f k = f' k) → cz_wN f l = cz_wN f' l
  | 0, _ => rfl
  | l + 1, h => by rw [cz_wN, cz_wN, cz_wN_congr (fun k hk => h k (by omega)), h l (by omega)]
theorem cz_wN_by {f : Nat → Nat} : ∀ {l : Nat}, (∀ k, k < l → f k < 256) → ∀ k, k < l → cz_wN f l / 2 ^ (8 * k) % 256 = f k
  | 0, _, k, hk => by omega
  | l + 1, h, k, hk => by
    rw [cz_wN]
    by_cases hkl : k = l
    · subst hkl
      rw [Nat.add_mul_div_right _ _ (Nat.two_pow_pos _), Nat.div_eq_of_lt (cz_wN_lt (fun j hj => h j (by omega))), Nat.zero_add, Nat.mod_eq_of_lt (h k (by omega))]
    · have e : f l * 2 ^ (8 * l) = (256 * (f l * 2 ^ (8 * (l - k - 1)))) * 2 ^ (8 * k) := by
        have e2 : 8 * l = 8 + (8 * (l - k - 1) + 8 * k) := by omega
        rw [e2, Nat.pow_add, Nat.pow_add]
        rw [show (2 : Nat) ^ 8 = 256 from rfl]
        rw [Nat.mul_left_comm, Nat.mul_assoc, Nat.mul_assoc]
      rw [e, Nat.add_mul_div_right _ _ (Nat.two_pow_pos _), Nat.add_mul_mod_self_left]
      exact cz_wN_by (fun j hj => h j (by omega)) k (by omega)
theorem cz_us_sh : ∀ d, d < 32 → ((nI d).toUInt32 &&& Int32.toUInt32 31) = UInt32.ofNat d := by decide +kernel
theorem cz_usN {S d : Nat} (hS : S < 2 ^ 31) (hd : d < 32) : cz_us (nI S) (nI d) = nI (S / 2 ^ d) := by
  unfold cz_us
  rw [cz_us_sh d hd]
  have h1 : S / 2 ^ d < 2 ^ 31 := Nat.lt_of_le_of_lt (Nat.div_le_self _ _) hS
  show ((UInt32.ofNat S) >>> UInt32.ofNat d).toInt32 = (UInt32.ofNat (S / 2 ^ d)).toInt32
  congr 1
  apply UInt32.toNat_inj.mp
  rw [UInt32.toNat_shiftRight, UInt32.toNat_ofNat_of_lt' (by show S < 2 ^ 32; omega), UInt32.toNat_ofNat_of_lt' (by show d < 2 ^ 32; omega), UInt32.toNat_ofNat_of_lt' (by show S / 2 ^ d < 2 ^ 32; omega), Nat.mod_eq_of_lt hd, Nat.shiftRight_eq_div_pow]
/-- two values, the counter behind them -/
theorem cz_for3c {A B R : Type} {F : (A → B → Int32 → Option R) → A → B → Int32 → Option R} (I : Nat → A → B → Prop) (r : A → B → Option R) (N : Nat)
    (hs : ∀ k s t, k < N → I k s t → ∃ s' t', (∀ rec, F rec s t (nI k) = rec s' t' (nI (k + 1))) ∧ I (k + 1) s' t') (he : ∀ s t, I N s t → ∀ rec, F rec s t (nI N) = r s t) :
    ∀ (d k : Nat) (s : A) (t : B) (fuel : Nat), k + d = N → d < fuel → I k s t → ∃ s' t', I N s' t' ∧ cz_it3 F fuel s t (nI k) = r s' t' := by
  intro d
  induction d with
  | zero =>
    intro k s t fuel hk hf hI
    obtain rfl : k = N := by omega
    obtain ⟨f, rfl⟩ : ∃ f, fuel = f + 1 := ⟨fuel - 1, by omega⟩
    exact ⟨s, t, hI, he s t hI _⟩
  | succ d ih =>
    intro k s t fuel hk hf hI
    obtain ⟨f, rfl⟩ : ∃ f, fuel = f + 1 := ⟨fuel - 1, by omega⟩
    obtain ⟨s', t', h1, h2⟩ := hs k s t (by omega) hI
    obtain ⟨s'', t'', h3, h4⟩ := ih (k + 1) s' t' f (by omega) (by omega) h2
    exact ⟨s'', t'', h3, (h1 _).trans h4⟩
theorem c_placesOf (M : cz_M) (q : Nat) {S l : Nat} {d : Nat → Nat} (hS : S < 2 ^ 26) (hl : M.1 q 3 = nI l) (hl8 : l ≤ 8) (hd : ∀ k, d k < 26) (hw : M.2.1 q = cz_L (cz_wN (fun k => 97 + d k) l)) : f_X1_placesOf M q (nI S) = some (nI (cz_mk S d l)) := by
  have hb : ∀ k, k < l → (fun k => 97 + d k) k < 256 := fun k _ => by have := hd k; dsimp only; omega
  have hN : cz_wN (fun k => 97 + d k) l < 2 ^ 64 := Nat.lt_of_lt_of_le (cz_wN_lt hb) (Nat.pow_le_pow_right (by decide) (by omega : 8 * l ≤ 64))
  rw [f_X1_placesOf, cz_lt_e, hw]
  obtain ⟨s', t', hI, h⟩ := cz_for3c (F := f_X1_placesOf_L10 q (nI S) M (fun x12 x13 x14 => some x12)) (fun k (s : Int32) (t : Int64) => s = nI (cz_mk S d k) ∧ t = cz_L (cz_wN (fun k => 97 + d k) l / 2 ^ (8 * k))) (fun s t => some s) l
    (fun k s t hk ⟨i1, i2⟩ => by
      subst i1 i2
      have hNk : cz_wN (fun k => 97 + d k) l / 2 ^ (8 * k) < 2 ^ 64 := Nat.lt_of_le_of_lt (Nat.div_le_self _ _) hN
      have hdk := hd k
      refine ⟨nI (cz_mk S d (k + 1)), cz_L (cz_wN (fun k => 97 + d k) l / 2 ^ (8 * (k + 1))), fun rec => ?_, rfl, rfl⟩
      have hsh : cz_usl (cz_L (cz_wN (fun k => 97 + d k) l / 2 ^ (8 * k))) (nI 8) = cz_L (cz_wN (fun k => 97 + d k) l / 2 ^ (8 * (k + 1))) := by
        rw [cz_usl_L hNk (by decide), Nat.div_div_eq_div_mul, ← Nat.pow_add]
        rfl
      have hby : cz_wN (fun k => 97 + d k) l / 2 ^ (8 * k) % 256 = 97 + d k := cz_wN_by hb k hk
      have hmk : cz_mk S d (k + 1) = cz_mk S d k + (S / 2 ^ d k % 2) * 2 ^ k := rfl
      rw [f_X1_placesOf_L10, hl, if_neg (nI_ge hk (by omega)), cz_and_L hNk, hby, cz_L32 _ (by omega), cz_lt_e, cz_subN (by omega), Nat.add_sub_cancel_left, cz_usN (by omega) (by omega), cz_and1 (Nat.lt_of_le_of_lt (Nat.div_le_self _ _) (by omega)), hsh, cz_lt_e, cz_lt_e, cz_lt_e, cz_lt_e, cz_lt_e, nI_add]
      rcases Nat.mod_two_eq_zero_or_one (S / 2 ^ d k) with h0 | h0
      · rw [h0, if_pos rfl, hmk, h0, Nat.zero_mul]
        rfl
      · rw [h0, if_neg (by decide), cz_or_k k (by omega) _ (cz_mk_lt _ _ _) 1 (by decide), hmk, h0])
    (fun s t hI rec => by rw [f_X1_placesOf_L10, hl, if_pos (nI_le (Nat.le_refl _) (by omega))]) l 0 (nI 0) (cz_L (cz_wN (fun k => 97 + d k) l)) 4096 (by omega) (by omega) ⟨rfl, by simp⟩
  rw [h, hI.1]
