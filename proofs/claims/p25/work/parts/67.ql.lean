/-! texts: the fault -/
/-- what may come behind a sign, 99: it cannot stand -/
def cz_sb (st c : Nat) : Nat := if st = 0 then (if 48 ≤ c ∧ c ≤ 52 then 1 else 99) else if st = 1 then (if c = 62 ∨ c = 60 then 2 else 99) else if 97 ≤ c ∧ c ≤ 122 then (if st < 10 then st + 1 else 99) else if c = 44 ∧ 3 ≤ st then 0 else 99
theorem c_stage : ∀ st, st < 11 → ∀ c, c < 128 → f_X4_stageBehind (nI st) (nI c) = some (if cz_sb st c = 99 then (-1 : Int32) else nI (cz_sb st c)) := by decide +kernel
theorem cz_sb_10 : ∀ st, st < 11 → ∀ c, c < 128 → cz_sb st c = 99 ∨ cz_sb st c < 11 := by decide +kernel
def cz_fp (pad : Nat → Nat) (len : Nat) : Nat → Nat → Nat → Int32
  | 0, st, _ => if st ≤ 2 then nI len else (-6 : Int32)
  | d + 1, st, k => if cz_sb st (pad k) = 99 then nI k else cz_fp pad len d (cz_sb st (pad k)) (k + 1)
theorem c_faultL {M : cz_M} {b len : Nat} {pad : Nat → Nat} (hl : len ≤ 60) (h7 : M.1 b 7 = nI len) (hp : ∀ k, k < len → M.1 (b + 118) k = nI (pad k)) (hc : ∀ k, k < len → pad k < 128) :
    ∀ (d st k fuel : Nat), k + d = len → d < fuel → st < 11 → cz_it2 (f_X4_faultOfPad_L4 b M (fun x7 x8 => if x7 ≤ (nI 2) then (some (M.1 b 7)) else (some (-6 : Int32)))) fuel (nI st) (nI k) = some (cz_fp pad len d st k) := by
  intro d
  induction d with
  | zero =>
    intro st k fuel hk hf hst
    obtain rfl : k = len := by omega
    obtain ⟨g, rfl⟩ : ∃ g, fuel = g + 1 := ⟨fuel - 1, by omega⟩
    show f_X4_faultOfPad_L4 b M (fun x7 x8 => if x7 ≤ (nI 2) then (some (M.1 b 7)) else (some (-6 : Int32))) (cz_it2 (f_X4_faultOfPad_L4 b M (fun x7 x8 => if x7 ≤ (nI 2) then (some (M.1 b 7)) else (some (-6 : Int32)))) g) (nI st) (nI k) = _
    rw [f_X4_faultOfPad_L4, h7, if_pos (nI_le (Nat.le_refl _) (by omega)), cz_fp]
    by_cases h2 : st ≤ 2
    · rw [if_pos (nI_le h2 (by decide)), if_pos h2]
    · rw [if_neg (nI_ge (by omega) (by omega)), if_neg h2]
  | succ d ih =>
    intro st k fuel hk hf hst
    obtain ⟨g, rfl⟩ : ∃ g, fuel = g + 1 := ⟨fuel - 1, by omega⟩
    show f_X4_faultOfPad_L4 b M (fun x7 x8 => if x7 ≤ (nI 2) then (some (M.1 b 7)) else (some (-6 : Int32))) (cz_it2 (f_X4_faultOfPad_L4 b M (fun x7 x8 => if x7 ≤ (nI 2) then (some (M.1 b 7)) else (some (-6 : Int32)))) g) (nI st) (nI k) = _
    have hck := hc k (by omega)
    rw [f_X4_faultOfPad_L4, if_neg (by rw [h7]; exact nI_ge (by omega) (by omega)), cz_gdn (by omega) (by decide), cz_cl (by omega), hp k (by omega), c_stage st hst _ hck, Option.bind_some, cz_fp]
    by_cases h99 : cz_sb st (pad k) = 99
    · rw [if_pos h99, if_pos h99, if_pos rfl]
    · have h11 : cz_sb st (pad k) < 11 := (cz_sb_10 st hst _ hck).resolve_left h99
      have hne : ¬ nI (cz_sb st (pad k)) = (-1 : Int32) := by
        intro z
        have := congrArg Int32.toInt z
        rw [nI_toInt (by omega)] at this
        have h1 : (-1 : Int32).toInt = -1 := by decide
        omega
      rw [if_neg h99, if_neg h99, if_neg hne, cz_lt_e, nI_add]
      exact ih _ (k + 1) g (by omega) (by omega) h11
theorem c_faultOfPad {M : cz_M} {b len : Nat} {pad : Nat → Nat} (hl : len ≤ 60) (h7 : M.1 b 7 = nI len) (hp : ∀ k, k < len → M.1 (b + 118) k = nI (pad k)) (hc : ∀ k, k < len → pad k < 128) : f_X4_faultOfPad M b = some (cz_fp pad len len 0 0) := by
  rw [f_X4_faultOfPad]
  exact c_faultL hl h7 hp hc len 0 0 4096 (by omega) (by omega) (by decide)
/-! the reference: a letter of the pad -/
def cz_nx (pad : Nat → Nat) (len k : Nat) : Nat := if k < len then pad k else 0
def cz_wd (pad : Nat → Nat) (len p : Nat) (n : Nat) : Bool := decide (97 ≤ cz_nx pad len (p + n) ∧ cz_nx pad len (p + n) ≤ 122)
def cz_rt (pad : Nat → Nat) (len p : Nat) : Nat := if 48 ≤ cz_nx pad len p ∧ cz_nx pad len p ≤ 52 then (if cz_nx pad len (p + 1) = 62 ∨ cz_nx pad len (p + 1) = 60 then cz_un (cz_wd pad len p) 8 2 else 1) else 0
theorem cz_un_sp (f : Nat → Bool) : ∀ d k, k ≤ cz_un f d k ∧ cz_un f d k ≤ k + d ∧ (∀ i, k ≤ i → i < cz_un f d k → f i = true) ∧ (cz_un f d k < k + d → ¬ f (cz_un f d k) = true)
  | 0, k => by
    rw [cz_un]
    exact ⟨Nat.le_refl _, Nat.le_refl _, fun i h1 h2 => by omega, fun h => by omega⟩
  | d + 1, k => by
    obtain ⟨h1, h2, h3, h4⟩ := cz_un_sp f d (k + 1)
    rw [cz_un]
    by_cases hf : f k = true
    · rw [if_pos hf]
      refine ⟨by omega, by omega, fun i i1 i2 => ?_, fun h => h4 (by omega)⟩
      by_cases hik : i = k
      · subst hik; exact hf
      · exact h3 i (by omega) i2
    · rw [if_neg hf]
      exact ⟨Nat.le_refl _, by omega, fun i i1 i2 => by omega, fun _ => hf⟩
/-- a letter's characters stand in the pad -/
theorem cz_rt_le {pad : Nat → Nat} {len p : Nat} (hp : p ≤ len) : p + cz_rt pad len p ≤ len := by
  have h0 : ∀ k, cz_nx pad len k ≠ 0 → k < len := fun k h => by
    unfold cz_nx at h
    by_cases hk : k < len
    · exact hk
    · rw [if_neg hk] at h; exact absurd rfl h
  unfold cz_rt
  by_cases h1 : 48 ≤ cz_nx pad len p ∧ cz_nx pad len p ≤ 52
  · rw [if_pos h1]
    have k1 := h0 p (by omega)
    by_cases h2 : cz_nx pad len (p + 1) = 62 ∨ cz_nx pad len (p + 1) = 60
    · rw [if_pos h2]
      have k2 := h0 (p + 1) (by omega)
      obtain ⟨u1, u2, u3, u4⟩ := cz_un_sp (cz_wd pad len p) 8 2
      by_cases hu : cz_un (cz_wd pad len p) 8 2 = 2
      · omega
      · have hw := of_decide_eq_true (u3 (cz_un (cz_wd pad len p) 8 2 - 1) (by omega) (by omega))
        have k3 := h0 (p + (cz_un (cz_wd pad len p) 8 2 - 1)) (by omega)
        omega
    · rw [if_neg h2]; omega
  · rw [if_neg h1]; omega
theorem cz_rt_10 (pad : Nat → Nat) (len p : Nat) : cz_rt pad len p ≤ 10 := by
  have := (cz_un_sp (cz_wd pad len p) 8 2).2.1
  unfold cz_rt
  split
  · split
    · omega
    · omega
  · omega
/-- the signs of a letter, one behind the other -/
theorem cz_fp_w {pad : Nat → Nat} {len p : Nat} : ∀ (e n : Nat), 2 ≤ n → n + e ≤ 10 → p + n + e ≤ len → (∀ i, n ≤ i → i < n + e → cz_wd pad len p i = true) → cz_fp pad len (len - (p + n)) n (p + n) = cz_fp pad len (len - (p + (n + e))) (n + e) (p + (n + e))
  | 0, n, _, _, _, _ => rfl
  | e + 1, n, h2, h10, hl, hw => by
    have h1 := of_decide_eq_true (hw n (Nat.le_refl _) (by omega))
    have hlt : p + n < len := by omega
    unfold cz_nx at h1
    rw [if_pos hlt] at h1
    have hsb : cz_sb n (pad (p + n)) = n + 1 := by
      unfold cz_sb
      rw [if_neg (by omega), if_neg (by omega), if_pos h1, if_pos (by omega)]
    have ih := cz_fp_w (pad := pad) (len := len) (p := p) e (n + 1) (by omega) (by omega) (by omega) (fun i i1 i2 => hw i (by omega) (by omega))
    rw [show len - (p + n) = (len - (p + (n + 1))) + 1 by omega, cz_fp, hsb, if_neg (by omega)]
    rw [show p + n + 1 = p + (n + 1) by omega, ih]
    rw [show n + 1 + e = n + (e + 1) by omega]
/-- the class's scan goes a letter further -/
theorem cz_fp_l {pad : Nat → Nat} {len p : Nat} (hp : p ≤ len) : cz_fp pad len (len - p) 0 p = if cz_rt pad len p < 3 then nI (p + cz_rt pad len p) else if p + cz_rt pad len p < len then (if pad (p + cz_rt pad len p) = 44 then cz_fp pad len (len - (p + cz_rt pad len p + 1)) 0 (p + cz_rt pad len p + 1) else nI (p + cz_rt pad len p)) else (-6 : Int32) := by
  by_cases hpl : p = len
  · subst hpl
    have hr : cz_rt pad p p = 0 := by
      unfold cz_rt cz_nx
      rw [if_neg (by rw [if_neg (by omega)]; omega)]
    rw [hr, if_pos (by decide), Nat.sub_self, cz_fp, if_pos (by decide)]
    rfl
  · have hlt : p < len := by omega
    have e0 : cz_nx pad len p = pad p := by unfold cz_nx; rw [if_pos hlt]
    rw [show len - p = (len - (p + 1)) + 1 by omega, cz_fp]
    by_cases h1 : 48 ≤ pad p ∧ pad p ≤ 52
    · have s1 : cz_sb 0 (pad p) = 1 := by unfold cz_sb; rw [if_pos rfl, if_pos h1]
      rw [s1, if_neg (by decide)]
      by_cases hp1 : p + 1 = len
      · have hr : cz_rt pad len p = 1 := by
          unfold cz_rt
          rw [e0, if_pos h1, if_neg]
          unfold cz_nx
          rw [if_neg (by omega)]
          omega
        rw [hr, if_pos (by decide), show len - (p + 1) = 0 by omega, cz_fp, if_pos (by decide), hp1]
      · have e1 : cz_nx pad len (p + 1) = pad (p + 1) := by unfold cz_nx; rw [if_pos (by omega)]
        rw [show len - (p + 1) = (len - (p + 2)) + 1 by omega, cz_fp]
        by_cases h2 : pad (p + 1) = 62 ∨ pad (p + 1) = 60
        · have s2 : cz_sb 1 (pad (p + 1)) = 2 := by unfold cz_sb; rw [if_neg (by decide), if_pos rfl, if_pos h2]
          have hr : cz_rt pad len p = cz_un (cz_wd pad len p) 8 2 := by
            unfold cz_rt
            rw [e0, if_pos h1, e1, if_pos h2]
          rw [s2, if_neg (by decide)]
          obtain ⟨u1, u2, u3, u4⟩ := cz_un_sp (cz_wd pad len p) 8 2
          have hle := cz_rt_le (pad := pad) hp
          rw [hr] at hle ⊢
          generalize cz_un (cz_wd pad len p) 8 2 = r at *
          have hw := cz_fp_w (pad := pad) (len := len) (p := p) (r - 2) 2 (by decide) (by omega) (by omega) (fun i i1 i2 => u3 i i1 (by omega))
          rw [show 2 + (r - 2) = r by omega] at hw
          rw [show p + 1 + 1 = p + 2 from rfl, hw]
          by_cases hend : p + r = len
          · rw [show len - (p + r) = 0 by omega, cz_fp]
            by_cases h3 : r < 3
            · rw [if_pos h3, if_pos (by omega), hend]
            · rw [if_neg h3, if_neg (by omega), if_neg (by omega)]
          · rw [show len - (p + r) = (len - (p + r + 1)) + 1 by omega, cz_fp]
            have e2 : cz_nx pad len (p + r) = pad (p + r) := by unfold cz_nx; rw [if_pos (by omega)]
            have hword : 97 ≤ pad (p + r) ∧ pad (p + r) ≤ 122 → r = 10 := fun z => by
              by_cases h10 : r < 2 + 8
              · refine absurd ?_ (u4 h10)
                unfold cz_wd
                rw [e2]
                exact decide_eq_true z
              · omega
            by_cases h44 : pad (p + r) = 44
            · by_cases h3 : r < 3
              · have s3 : cz_sb r (pad (p + r)) = 99 := by
                  unfold cz_sb
                  rw [if_neg (by omega), if_neg (by omega), if_neg (by omega), if_neg (by omega)]
                rw [s3, if_pos rfl, if_pos h3]
              · have s3 : cz_sb r (pad (p + r)) = 0 := by
                  unfold cz_sb
                  rw [if_neg (by omega), if_neg (by omega), if_neg (by omega), if_pos ⟨h44, by omega⟩]
                rw [s3, if_neg (by decide), if_neg h3, if_pos (by omega), if_pos h44]
            · have s3 : cz_sb r (pad (p + r)) = 99 := by
                unfold cz_sb
                rw [if_neg (by omega), if_neg (by omega)]
                by_cases hwd : 97 ≤ pad (p + r) ∧ pad (p + r) ≤ 122
                · rw [if_pos hwd, if_neg (by have := hword hwd; omega)]
                · rw [if_neg hwd, if_neg (fun z => h44 z.1)]
              rw [s3, if_pos rfl]
              by_cases h3 : r < 3
              · rw [if_pos h3]
              · rw [if_neg h3, if_pos (by omega), if_neg h44]
        · have s2 : cz_sb 1 (pad (p + 1)) = 99 := by unfold cz_sb; rw [if_neg (by decide), if_pos rfl, if_neg h2]
          have hr : cz_rt pad len p = 1 := by
            unfold cz_rt
            rw [e0, if_pos h1, e1, if_neg h2]
          rw [s2, if_pos rfl, hr, if_pos (by decide)]
    · have s1 : cz_sb 0 (pad p) = 99 := by unfold cz_sb; rw [if_pos rfl, if_neg h1]
      have hr : cz_rt pad len p = 0 := by
        unfold cz_rt
        rw [e0, if_neg h1]
      rw [s1, if_pos rfl, hr, if_pos (by decide)]
      rfl
