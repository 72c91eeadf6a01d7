def cz_s0 (k : Nat) : Int32 := if k = 2 then 2 else if k = 1 then 2 else if k = 0 then 3 else 0
def cz_r0 (k : Nat) : Int32 := if k < 8 then nI ((k / 2 + k % 2) % 4) else 0
def cz_I0 (kd : Nat) : cz_M := (fun _ k => if kd = 103 then cz_s0 k else if kd = 108 then cz_r0 k else if kd = 651 then 0 else 0, fun _ => 0, fun _ => 0)
theorem cz_nlt (o k : Nat) : ¬ (o + k < o) := by omega
def cz_eqv (a : Nat) (e e' : va_E) : Prop := ∀ (D : va_G) (cl : List vw_C) (H : Heap), va_at D cl (a, e) H → va_at D cl (a, e') H
theorem cz_eqv_of {a : Nat} {e e' : va_E} (h : e = e') : cz_eqv a e e' := fun _ _ _ q => h ▸ q
theorem cz_arrV {c : ClassId} {n : Nat} {f f' : Nat → Value} (h : ∀ j, j < n → f j = f' j) : arrV c n f = arrV c n f' := by
  unfold arrV
  congr 1
  apply Array.ext
  · simp
  · intro i h1 h2
    simp at h1 ⊢
    exact h i h1
theorem cz_eqv_q {a n : Nat} {c : ClassId} {f f' : Nat → Option Nat} (h : ∀ j, j < n → f j = f' j) : cz_eqv a (.inl (c, n, .inr (.inr (.inr (.inr f))))) (.inl (c, n, .inr (.inr (.inr (.inr f'))))) := by
  intro D cl H q
  show H[a]? = some (vp_cell _ _)
  rw [vp_cell_q, ← cz_arrV (f := fun j => va_rf (f j)) (fun j hj => by rw [h j hj])]
  exact q
theorem cz_N.eqv {g : cz_G} {b n : Nat} {C C' : Nat → va_E} {s : State} {H : Heap} {locs : List Loc} (h : cz_N g b n C s H locs) (hC : ∀ o, o < n → cz_eqv (b + o) (C o) (C' o)) : cz_N g b n C' s H locs := by
  refine ⟨fun k q hk => ?_, h.2⟩
  have hl := (List.getElem?_eq_some_iff.mp hk).1
  rw [cz_wf_len] at hl
  rw [cz_wf_at hl] at hk
  cases hk
  exact hC k hl _ _ _ (h.1 k _ (cz_wf_at hl))
/-- a Prisons block while it is made -/
def cz_stg (g : cz_G) (b o : Nat) (C : Nat → va_E) (i r j w : Nat) : Nat → va_E := fun q =>
  if q < o then C q
  else if q = o then .inr (2, [.ref (b + (o + 1)), .ref (b + (o + 2)), .ref (b + (o + 3)), .ref (b + (o + 4)), .ref (b + (o + 5)), .ref (b + (o + 6)), .ref (b + (o + 8)), .int 0, .int 0])
  else if q = o + 1 then .inl (g.1 0, 3, .inl cz_s0)
  else if q = o + 2 then .inl (g.1 3, 4, .inr (.inr (.inr (.inr (fun k => if k < i then some (b + (o + 9 + k)) else none)))))
  else if q = o + 3 then .inl (g.1 0, 8, .inl (fun k => if k < r then cz_r0 k else 0))
  else if q = o + 4 then .inl (g.1 4, 40, .inr (.inr (.inr (.inr (fun k => if k < j then some (b + (o + 13 + k)) else none)))))
  else if q = o + 5 then .inl (g.1 5, 2, .inr (.inr (.inr (.inr (fun k => if k < w then some (b + (o + 53 + 2 * k)) else none)))))
  else if q = o + 6 then .inr (3, [.ref (b + (o + 7)), .int 0])
  else if q = o + 7 then .inl (g.1 0, 40, .inl (fun _ => 0))
  else if q = o + 8 then .inl (g.1 0, 5, .inl (fun _ => 0))
  else if q < o + 13 then .inr (0, [.int 0, .int 0, .int 0, .int 0])
  else if q < o + 53 then .inr (1, [.int 0, .int 0, .long 0, .int 0, .int 0, .int 0, .int 0, .int 0, .int 0, .int 0, .int 0])
  else if (q - (o + 53)) % 2 = 0 then .inr (3, [.ref (b + (q + 1)), .int 0])
  else .inl (g.1 0, 40, .inl (fun _ => 0))
def cz_blk (g : cz_G) (b o : Nat) (C : Nat → va_E) : Nat → va_E := fun q => if q < o then C q else cz_cel g.1 (b + q) (cz_pk (q - o)) (cz_I0 (cz_pk (q - o)))
theorem cz_blk_of (g : cz_G) (b o : Nat) (C : Nat → va_E) (q : Nat) (hq : q < o + 57) : cz_eqv (b + q) (cz_stg g b o C 4 8 40 2 q) (cz_blk g b o C q) := by
  by_cases h0 : q < o
  · apply cz_eqv_of; simp [cz_stg, cz_blk, h0]
  obtain ⟨t, rfl⟩ : ∃ t, q = o + t := ⟨q - o, by omega⟩
  have ht : t < 57 := by omega
  rw [cz_stg, if_neg h0, cz_blk, if_neg h0, show o + t - o = t by omega]
  rcases Nat.lt_or_ge t 9 with h9 | h9
  · have : t = 0 ∨ t = 1 ∨ t = 2 ∨ t = 3 ∨ t = 4 ∨ t = 5 ∨ t = 6 ∨ t = 7 ∨ t = 8 := by omega
    rcases this with rfl | rfl | rfl | rfl | rfl | rfl | rfl | rfl | rfl
    · apply cz_eqv_of; simp [cz_pk, cz_cel, cz_fs, cz_I0, Nat.add_assoc]
    · apply cz_eqv_of; simp [cz_pk, cz_cel, cz_fs, cz_I0, Nat.add_assoc]
    · simp [cz_pk, cz_cel]
      exact cz_eqv_q (fun j hj => by rw [if_pos hj]; congr 1; omega)
    · apply cz_eqv_of; simp [cz_pk, cz_cel, cz_fs, cz_I0, Nat.add_assoc]
      funext k
      by_cases hk : k < 8 <;> simp [hk, cz_r0]
    · simp [cz_pk, cz_cel]
      exact cz_eqv_q (fun j hj => by rw [if_pos hj]; congr 1; omega)
    · simp [cz_pk, cz_cel]
      exact cz_eqv_q (fun j hj => by rw [if_pos hj]; congr 1; omega)
    · apply cz_eqv_of; simp [cz_pk, cz_cel, cz_fs, cz_I0, Nat.add_assoc]
    · apply cz_eqv_of; simp [cz_pk, cz_cel, cz_fs, cz_I0, Nat.add_assoc]
    · apply cz_eqv_of; simp [cz_pk, cz_cel, cz_fs, cz_I0, Nat.add_assoc]
  · apply cz_eqv_of
    rw [if_neg (by omega), if_neg (by omega), if_neg (by omega), if_neg (by omega), if_neg (by omega), if_neg (by omega), if_neg (by omega), if_neg (by omega), if_neg (by omega)]
    by_cases h13 : t < 13
    · have e : cz_pk t = 0 := by simp only [cz_pk]; rw [if_neg (by omega), if_neg (by omega), if_neg (by omega), if_neg (by omega), if_neg (by omega), if_neg (by omega), if_neg (by omega), if_neg (by omega), if_neg (by omega), if_pos h13]
      rw [if_pos (by omega), e]; rfl
    · rw [if_neg (by omega)]
      by_cases h53 : t < 53
      · have e : cz_pk t = 1 := by simp only [cz_pk]; rw [if_neg (by omega), if_neg (by omega), if_neg (by omega), if_neg (by omega), if_neg (by omega), if_neg (by omega), if_neg (by omega), if_neg (by omega), if_neg (by omega), if_neg h13, if_pos h53]
        rw [if_pos (by omega), e]; rfl
      · rw [if_neg (by omega)]
        have : t = 53 ∨ t = 54 ∨ t = 55 ∨ t = 56 := by omega
        rcases this with rfl | rfl | rfl | rfl
        · rw [if_pos (by omega)]; simp [cz_pk, cz_cel, cz_fs, cz_I0, Nat.add_assoc]
        · rw [if_neg (by omega)]; simp [cz_pk, cz_cel, cz_fs, cz_I0, Nat.add_assoc]
        · rw [if_pos (by omega)]; simp [cz_pk, cz_cel, cz_fs, cz_I0, Nat.add_assoc]
        · rw [if_neg (by omega)]; simp [cz_pk, cz_cel, cz_fs, cz_I0, Nat.add_assoc]
theorem cz_r0v : ∀ i, i < 8 → (nI i / 2 + (nI i - nI i / 2 * 2)) - (nI i / 2 + (nI i - nI i / 2 * 2)) / 4 * 4 = cz_r0 i := by decide +kernel
theorem cz_in0 : vp_in 0 3 ∧ vp_in 1 3 ∧ vp_in 2 3 := ⟨vp_in_nI (n := 0) (by decide) (by decide), vp_in_nI (n := 1) (by decide) (by decide), vp_in_nI (n := 2) (by decide) (by decide)⟩

theorem cz_stepA_L1 (g : cz_G) (b o : Nat) (C : Nat → va_E) (i q : Nat) (hq : q < o + 9 + (i + 1)) (hi : i < 4) : va_up (va_up (cz_stg g b o C i 0 0 0) (o + 9 + i) (.inr (0, [.int 0, .int 0, .int 0, .int 0]))) (o + 2) (.inl (g.1 3, 4, .inr (.inr (.inr (.inr (va_up (fun k => if k < i then some (b + (o + 9 + k)) else none) i (some (b + (o + 9 + i))))))))) q = cz_stg g b o C (i + 1) 0 0 0 q := by
  by_cases h2 : q = o + 2
  · subst h2
    simp [va_up, cz_stg, cz_nlt]
    funext k
    by_cases hk : k = i
    · subst hk; simp [va_up]
    · have : k < i + 1 ↔ k < i := by omega
      simp [va_up, hk, this]
  · by_cases h9 : q = o + 9 + i
    · subst h9
      simp only [va_up, h2, if_false, if_true]
      rw [cz_stg, if_neg (by omega), if_neg (by omega), if_neg (by omega), if_neg (by omega), if_neg (by omega), if_neg (by omega), if_neg (by omega), if_neg (by omega), if_neg (by omega), if_neg (by omega), if_pos (by omega)]
    · simp [va_up, h2, h9, cz_stg]
theorem cz_stepA_L2 (g : cz_G) (b o : Nat) (C : Nat → va_E) (i q : Nat) (hq : q < o + 9 + 4) : va_up (cz_stg g b o C 4 i 0 0) (o + 3) (.inl (g.1 0, 8, .inl (upd (fun k => if k < i then cz_r0 k else 0) i (cz_r0 i)))) q = cz_stg g b o C 4 (i + 1) 0 0 q := by
  by_cases h2 : q = o + 3
  · subst h2
    simp [va_up, cz_stg, cz_nlt]
    funext k
    by_cases hk : k = i
    · subst hk; simp [upd]
    · have : k < i + 1 ↔ k < i := by omega
      simp [upd, hk, this]
  · simp [va_up, h2, cz_stg]
theorem cz_stepA_L3 (g : cz_G) (b o : Nat) (C : Nat → va_E) (i q : Nat) (hq : q < o + 13 + (i + 1)) (hi : i < 40) : va_up (va_up (cz_stg g b o C 4 8 i 0) (o + 13 + i) (.inr (1, [.int 0, .int 0, .long 0, .int 0, .int 0, .int 0, .int 0, .int 0, .int 0, .int 0, .int 0]))) (o + 4) (.inl (g.1 4, 40, .inr (.inr (.inr (.inr (va_up (fun k => if k < i then some (b + (o + 13 + k)) else none) i (some (b + (o + 13 + i))))))))) q = cz_stg g b o C 4 8 (i + 1) 0 q := by
  by_cases h2 : q = o + 4
  · subst h2
    simp [va_up, cz_stg, cz_nlt]
    funext k
    by_cases hk : k = i
    · subst hk; simp [va_up]
    · have : k < i + 1 ↔ k < i := by omega
      simp [va_up, hk, this]
  · by_cases h9 : q = o + 13 + i
    · subst h9
      simp only [va_up, h2, if_false, if_true]
      rw [cz_stg, if_neg (by omega), if_neg (by omega), if_neg (by omega), if_neg (by omega), if_neg (by omega), if_neg (by omega), if_neg (by omega), if_neg (by omega), if_neg (by omega), if_neg (by omega), if_neg (by omega), if_pos (by omega)]
    · simp [va_up, h2, h9, cz_stg]
theorem cz_stepB (g : cz_G) (b o : Nat) (C : Nat → va_E) (i : Nat) : va_up (va_up (va_up (cz_stg g b o C 4 8 40 i) (o + 53 + 2 * i) (.inr (3, [.null, .int 0]))) (o + 53 + 2 * i + 1) (.inl (g.1 0, 40, .inl (fun _ => 0)))) (o + 53 + 2 * i) (.inr (3, [.ref (b + (o + 53 + 2 * i + 1)), .int 0])) (o + 5) = .inl (g.1 5, 2, .inr (.inr (.inr (.inr (fun k => if k < i then some (b + (o + 53 + 2 * k)) else none))))) := by
  have h1 : ¬ (o + 5 = o + 53 + 2 * i) := by omega
  have h2 : ¬ (o + 5 = o + 53 + 2 * i + 1) := by omega
  simp only [va_up, h1, h2, if_false]
  simp [cz_stg, cz_nlt]
theorem cz_stepA_L4 (g : cz_G) (b o : Nat) (C : Nat → va_E) (i q : Nat) (hq : q < o + 53 + 2 * i + 1 + 1) (hi : i < 2) : va_up (va_up (va_up (va_up (cz_stg g b o C 4 8 40 i) (o + 53 + 2 * i) (.inr (3, [.null, .int 0]))) (o + 53 + 2 * i + 1) (.inl (g.1 0, 40, .inl (fun _ => 0)))) (o + 53 + 2 * i) (.inr (3, [.ref (b + (o + 53 + 2 * i + 1)), .int 0]))) (o + 5) (.inl (g.1 5, 2, .inr (.inr (.inr (.inr (va_up (fun k => if k < i then some (b + (o + 53 + 2 * k)) else none) i (some (b + (o + 53 + 2 * i))))))))) q = cz_stg g b o C 4 8 40 (i + 1) q := by
  by_cases h2 : q = o + 5
  · subst h2
    simp [va_up, cz_stg, cz_nlt]
    funext k
    by_cases hk : k = i
    · subst hk; simp [va_up]
    · have : k < i + 1 ↔ k < i := by omega
      simp [va_up, hk, this]
  · by_cases h9 : q = o + 53 + 2 * i
    · subst h9
      simp only [va_up, h2, if_false, if_true]
      rw [cz_stg, if_neg (by omega), if_neg (by omega), if_neg (by omega), if_neg (by omega), if_neg (by omega), if_neg (by omega), if_neg (by omega), if_neg (by omega), if_neg (by omega), if_neg (by omega), if_neg (by omega), if_neg (by omega), if_pos (by omega)]
    · by_cases h10 : q = o + 53 + 2 * i + 1
      · subst h10
        simp only [va_up, h2, h9, if_false, if_true]
        rw [cz_stg, if_neg (by omega), if_neg (by omega), if_neg (by omega), if_neg (by omega), if_neg (by omega), if_neg (by omega), if_neg (by omega), if_neg (by omega), if_neg (by omega), if_neg (by omega), if_neg (by omega), if_neg (by omega), if_neg (by omega)]
      · simp [va_up, h2, h9, h10, cz_stg]

set_option maxHeartbeats 8000000 in
set_option maxRecDepth 100000 in
theorem cN_X2 {l : Launch} {g : cz_G} {b o : Nat} {C : Nat → va_E} (he : C o = .inr (2, [.null, .null, .null, .null, .null, .null, .null, .int 0, .int 0])) : cz_CN l yX2_init cX2_init 2 2 64 56 800 g b o (o + 1) C (o + 57) (cz_blk g b o C) := by
  refine cz_startN (by decide) rfl (by decide) (fun p e s m args below meth c X H ls hW hl => ?_)
  have X : cz_XN p s m args meth c cX2_init 2 RX2 g := X
  obtain ⟨hx, hb, -, -, -, -, ⟨ea0, ea1, ea3, ea2, em3, em0, em1⟩, -⟩ := id X
  refine lv_aload_n hx hb dX2_init_0 rfl (lv_at hl 0 rfl) ?_
  refine cz_Nobj X hl.1 ml_X2_3 (Nat.le_of_ble_eq_true rfl) (Nat.le_of_ble_eq_true rfl) dX2_init_1 ?_
  refine lv_aload_n hx hb dX2_init_4 rfl (lv_at hl 0 rfl) ?_
  refine lv_iconst (v := 3) hx hb dX2_init_5 (by decide) ?_
  refine cz_newa (atype := .int) (ty := .int) (t0 := 0) (N' := 3) X hW rfl ac_int rfl rfl rfl (by decide) (by decide) (by decide) (Nat.le_of_ble_eq_true rfl) (Nat.le_of_ble_eq_true rfl) dX2_init_6 (fun H hW => ?_)
  refine lv_dup hx hb dX2_init_8 rfl ?_
  refine lv_iconst (v := 0) hx hb dX2_init_9 (by decide) ?_
  refine lv_iconst (v := 3) hx hb dX2_init_10 (by decide) ?_
  refine cz_Niast (o := o + 1) (N' := 3) (f := (fun _ => 0)) X hW (by omega) (by simp [va_up]) cz_in0.1 dX2_init_11 (fun H locs hW => ?_)
  refine lv_dup hx hb dX2_init_12 rfl ?_
  refine lv_iconst (v := 1) hx hb dX2_init_13 (by decide) ?_
  refine lv_iconst (v := 2) hx hb dX2_init_14 (by decide) ?_
  refine cz_Niast (o := o + 1) (N' := 3) (f := (upd (fun _ => 0) (Int32.toNatClampNeg 0) 3)) X hW (by omega) (by simp [va_up]) cz_in0.2.1 dX2_init_15 (fun H locs hW => ?_)
  refine lv_dup hx hb dX2_init_16 rfl ?_
  refine lv_iconst (v := 2) hx hb dX2_init_17 (by decide) ?_
  refine lv_iconst (v := 2) hx hb dX2_init_18 (by decide) ?_
  refine cz_Niast (o := o + 1) (N' := 3) (f := (upd (upd (fun _ => 0) (Int32.toNatClampNeg 0) 3) (Int32.toNatClampNeg 1) 2)) X hW (by omega) (by simp [va_up]) cz_in0.2.2 dX2_init_19 (fun H locs hW => ?_)
  refine cz_NputF (ci := 2) (k := 0) (N0 := 9) (fs := [.null, .null, .null, .null, .null, .null, .null, .int 0, .int 0]) (ty := .array .int) X hW (by omega) (by simp [va_up, he, Nat.add_assoc]) rfl inX2 tyX2_ok nmX2 (by decide) rfl lk_X2_9 rfl rfl (by decide +kernel) rfl rfl (by simp) dX2_init_20 (fun H locs hW => ?_)
  refine lv_aload_n hx hb dX2_init_23 rfl (lv_at hl 0 rfl) ?_
  refine lv_iconst (v := 4) hx hb dX2_init_24 (by decide) ?_
  refine cz_newq (t0 := 3) (N' := 4) X hW cl_X2_15 ea0 rfl (by decide) (by decide) (by decide) (Nat.le_of_ble_eq_true rfl) (Nat.le_of_ble_eq_true rfl) dX2_init_25 (fun H hW => ?_)
  refine cz_NputF (ci := 2) (k := 1) (N0 := 9) (fs := [.ref (b + (o + 1)), .null, .null, .null, .null, .null, .null, .int 0, .int 0]) (ty := .array (.object RX0)) X hW (by omega) (by simp [va_up, he, Nat.add_assoc]) rfl inX2 tyX2_ok nmX2 (by decide) rfl lk_X2_17 rfl rfl (by decide +kernel) rfl rfl (by simp) dX2_init_28 (fun H locs hW => ?_)
  refine lv_aload_n hx hb dX2_init_31 rfl (lv_at hl 0 rfl) ?_
  refine lv_bipush (v := 8) hx hb dX2_init_32 (by decide) ?_
  refine cz_newa (atype := .int) (ty := .int) (t0 := 0) (N' := 8) X hW rfl ac_int rfl rfl rfl (by decide) (by decide) (by decide) (Nat.le_of_ble_eq_true rfl) (Nat.le_of_ble_eq_true rfl) dX2_init_34 (fun H hW => ?_)
  refine cz_NputF (ci := 2) (k := 2) (N0 := 9) (fs := [.ref (b + (o + 1)), .ref (b + (o + 2)), .null, .null, .null, .null, .null, .int 0, .int 0]) (ty := .array .int) X hW (by omega) (by simp [va_up, he, Nat.add_assoc]) rfl inX2 tyX2_ok nmX2 (by decide) rfl lk_X2_21 rfl rfl (by decide +kernel) rfl rfl (by simp) dX2_init_36 (fun H locs hW => ?_)
  refine lv_aload_n hx hb dX2_init_39 rfl (lv_at hl 0 rfl) ?_
  refine lv_bipush (v := 40) hx hb dX2_init_40 (by decide) ?_
  refine cz_newq (t0 := 4) (N' := 40) X hW cl_X2_24 ea1 rfl (by decide) (by decide) (by decide) (Nat.le_of_ble_eq_true rfl) (Nat.le_of_ble_eq_true rfl) dX2_init_42 (fun H hW => ?_)
  refine cz_NputF (ci := 2) (k := 3) (N0 := 9) (fs := [.ref (b + (o + 1)), .ref (b + (o + 2)), .ref (b + (o + 3)), .null, .null, .null, .null, .int 0, .int 0]) (ty := .array (.object RX1)) X hW (by omega) (by simp [va_up, he, Nat.add_assoc]) rfl inX2 tyX2_ok nmX2 (by decide) rfl lk_X2_26 rfl rfl (by decide +kernel) rfl rfl (by simp) dX2_init_45 (fun H locs hW => ?_)
  refine lv_aload_n hx hb dX2_init_48 rfl (lv_at hl 0 rfl) ?_
  refine lv_iconst (v := 2) hx hb dX2_init_49 (by decide) ?_
  refine cz_newq (t0 := 5) (N' := 2) X hW cl_X2_30 ea3 rfl (by decide) (by decide) (by decide) (Nat.le_of_ble_eq_true rfl) (Nat.le_of_ble_eq_true rfl) dX2_init_50 (fun H hW => ?_)
  refine cz_NputF (ci := 2) (k := 4) (N0 := 9) (fs := [.ref (b + (o + 1)), .ref (b + (o + 2)), .ref (b + (o + 3)), .ref (b + (o + 4)), .null, .null, .null, .int 0, .int 0]) (ty := .array (.object RX3)) X hW (by omega) (by simp [va_up, he, Nat.add_assoc]) rfl inX2 tyX2_ok nmX2 (by decide) rfl lk_X2_32 rfl rfl (by decide +kernel) rfl rfl (by simp) dX2_init_53 (fun H locs hW => ?_)
  refine lv_aload_n hx hb dX2_init_56 rfl (lv_at hl 0 rfl) ?_
  refine cz_newo (ty0 := tyX3) (fs := [.null, .int 0]) (ci := 3) X hW rfl inX3 tyX3_ok cl_X2_30 is_X3 ini_X3 (by decide +kernel) (Nat.le_of_ble_eq_true rfl) (Nat.le_of_ble_eq_true rfl) dX2_init_57 (fun H hW => ?_)
  refine lv_dup hx hb dX2_init_60 rfl ?_
  refine cz_NrunIN (o := o + 6) X hW hl.1 (cN_X3 (by omega) (by simp [va_up])) mI_X3 em3 ⟨Nat.le_of_ble_eq_true rfl, Nat.le_of_ble_eq_true rfl⟩ ⟨Nat.le_of_ble_eq_true rfl, Nat.le_of_ble_eq_true rfl⟩ (Nat.le_of_ble_eq_true rfl) dX2_init_61 (fun H locs hW => ?_)
  refine cz_NputF (ci := 2) (k := 5) (N0 := 9) (fs := [.ref (b + (o + 1)), .ref (b + (o + 2)), .ref (b + (o + 3)), .ref (b + (o + 4)), .ref (b + (o + 5)), .null, .null, .int 0, .int 0]) (ty := .object RX3) X hW (by omega) (by simp [va_up, he, Nat.add_assoc]) rfl inX2 tyX2_ok nmX2 (by decide) rfl lk_X2_37 rfl rfl (by decide +kernel) rfl rfl (by simp) dX2_init_64 (fun H locs hW => ?_)
  refine lv_aload_n hx hb dX2_init_67 rfl (lv_at hl 0 rfl) ?_
  refine lv_iconst (v := 5) hx hb dX2_init_68 (by decide) ?_
  refine cz_newa (atype := .int) (ty := .int) (t0 := 0) (N' := 5) X hW rfl ac_int rfl rfl rfl (by decide) (by decide) (by decide) (Nat.le_of_ble_eq_true rfl) (Nat.le_of_ble_eq_true rfl) dX2_init_69 (fun H hW => ?_)
  refine cz_NputF (ci := 2) (k := 6) (N0 := 9) (fs := [.ref (b + (o + 1)), .ref (b + (o + 2)), .ref (b + (o + 3)), .ref (b + (o + 4)), .ref (b + (o + 5)), .ref (b + (o + 6)), .null, .int 0, .int 0]) (ty := .array .int) X hW (by omega) (by simp [va_up, he, Nat.add_assoc]) rfl inX2 tyX2_ok nmX2 (by decide) rfl lk_X2_41 rfl rfl (by decide +kernel) rfl rfl (by simp) dX2_init_71 (fun H locs hW => ?_)
  have hW : cz_N g b (o + 9) (cz_stg g b o C 0 0 0 0) s H locs := by
    refine cz_N.congr hW (fun q hq => ?_)
    by_cases h0 : q < o
    · simp [va_up, cz_stg, h0, show q ≠ o by omega, show q ≠ o + 1 by omega, show q ≠ o + 2 by omega, show q ≠ o + 3 by omega, show q ≠ o + 4 by omega, show q ≠ o + 5 by omega, show q ≠ o + 6 by omega, show q ≠ o + 7 by omega, show q ≠ o + 8 by omega]
    · obtain ⟨t, rfl⟩ : ∃ t, q = o + t := ⟨q - o, by omega⟩
      have : t = 0 ∨ t = 1 ∨ t = 2 ∨ t = 3 ∨ t = 4 ∨ t = 5 ∨ t = 6 ∨ t = 7 ∨ t = 8 := by omega
      rcases this with rfl | rfl | rfl | rfl | rfl | rfl | rfl | rfl | rfl
      · simp [va_up, cz_stg, cz_nlt]
      · simp [va_up, cz_stg, cz_nlt]
        funext k
        simp [upd, cz_s0]
      all_goals simp [va_up, cz_stg, cz_nlt]
  refine W.widen (k := 8) (n := 104) (Nat.le_of_ble_eq_true rfl) (Nat.le_of_ble_eq_true rfl) ?_
  refine lv_iconst (v := 0) hx hb dX2_init_74 (by decide) ?_
  refine lv_istore_n (lv' := [(1, .int 0), (0, .ref (b + o))]) hx hb dX2_init_75 rfl hl (by decide) rfl (fun ls hl => ?_)
  have L1 : ∀ (k i : Nat), i + k = 4 → ∀ (H : Heap) (locs : List Loc) (ls : Array Slot), cz_N g b (o + 9 + i) (cz_stg g b o C i 0 0 0) s H locs → lv_has ls 2 [(1, .int (nI i)), (0, .ref (b + o))] → (∀ (H : Heap) (locs : List Loc) (ls : Array Slot), cz_N g b (o + 9 + 4) (cz_stg g b o C 4 0 0 0) s H locs → lv_has ls 2 [(1, .int (nI 4)), (0, .ref (b + o))] → W p l e { frames := 2, cells := 56, slots := 800, locals := 64 } s m args below meth c H locs (8 + 4) (104 + 4 * 4) (MQ below (cz_QN g b (o + 57) (cz_blk g b o C)) args s 56 800 (fun q => b ≤ q)) (F0 m 100 ls [])) → W p l e { frames := 2, cells := 56, slots := 800, locals := 64 } s m args below meth c H locs (8 + i) (104 + 4 * i) (MQ below (cz_QN g b (o + 57) (cz_blk g b o C)) args s 56 800 (fun q => b ≤ q)) (F0 m 76 ls []) := by
    intro k
    induction k with
    | zero =>
      intro i hi H locs ls hW hl hX
      obtain rfl : i = 4 := by omega
      refine lv_iload_n hx hb dX2_init_76 rfl (lv_at hl 0 rfl) ?_
      refine lv_iconst (v := 4) hx hb dX2_init_77 (by decide) ?_
      refine lv_icmp_ge (tgt := 100) hx hb dX2_init_78 (by decide) (fun _ => hX H locs ls hW hl) (fun hc => absurd ((nI_leI (a := 4) (b := 4) (by decide) (by decide)).mpr (Nat.le_refl _)) hc)
    | succ k ih =>
      intro i hi H locs ls hW hl hX
      refine lv_iload_n hx hb dX2_init_76 rfl (lv_at hl 0 rfl) ?_
      refine lv_iconst (v := 4) hx hb dX2_init_77 (by decide) ?_
      refine lv_icmp_ge (tgt := 100) hx hb dX2_init_78 (by decide) (fun hc => absurd ((nI_leI (a := 4) (b := i) (by decide) (by omega)).mp hc) (by omega)) (fun _ => ?_)
      have hvi : vp_in (nI i) 4 := vp_in_nI (by omega) (by decide)
      have hci : (nI i).toNatClampNeg = i := nI_clamp (by omega)
      refine lv_aload_n hx hb dX2_init_81 rfl (lv_at hl 1 rfl) ?_
      refine cz_Nget (ci := 2) (k := 1) (N0 := 9) (fs := [.ref (b + (o + 1)), .ref (b + (o + 2)), .ref (b + (o + 3)), .ref (b + (o + 4)), .ref (b + (o + 5)), .ref (b + (o + 6)), .ref (b + (o + 8)), .int 0, .int 0]) X hW (by omega) (by simp [cz_stg, cz_nlt]) rfl inX2 (by decide) lk_X2_17 rfl rfl dX2_init_82 ?_
      refine lv_iload_n hx hb dX2_init_85 rfl (lv_at hl 0 rfl) ?_
      refine cz_newo (ty0 := tyX0) (fs := [.int 0, .int 0, .int 0, .int 0]) (ci := 0) X hW rfl inX0 tyX0_ok cl_X2_15 is_X0 ini_X0 (by decide +kernel) (by show _ ≤ 56; omega) (by show _ ≤ 800; omega) dX2_init_86 (fun H hW => ?_)
      refine lv_dup hx hb dX2_init_89 rfl ?_
      refine cz_NrunIN (o := o + 9 + i) X hW hl.1 cN_X0 mI_X0 em0 ⟨Nat.le_of_ble_eq_true rfl, Nat.le_of_ble_eq_true rfl⟩ ⟨by show _ ≤ 56; omega, by show _ ≤ 800; omega⟩ (Nat.le_of_ble_eq_true rfl) dX2_init_90 (fun H locs hW => ?_)
      refine cz_Naast (o := o + 2) (oq := o + 9 + i) (t0 := 3) (N' := 4) (f := fun k => if k < i then some (b + (o + 9 + k)) else none) X hW (by omega) (by rw [va_up, if_neg (by omega)]; simp [cz_stg, cz_nlt]) rfl (by omega) (by simp [va_up]; exact ⟨rfl, rfl⟩) rfl hvi dX2_init_93 (fun H locs hW => ?_)
      refine W.widen (k := 8 + (i + 1)) (n := 104 + 4 * (i + 1)) (by omega) (by omega) ?_
      have hW : cz_N g b (o + 9 + (i + 1)) (cz_stg g b o C (i + 1) 0 0 0) s H locs := by
        rw [hci] at hW
        refine cz_N.congr hW (fun q hq => ?_)
        exact cz_stepA_L1 g b o C i q (by omega) (by omega)
      refine lv_iinc (v := nI (i + 1)) (lv' := [(1, .int (nI (i + 1))), (0, .ref (b + o))]) hx hb dX2_init_94 hl (k := 0) rfl (nI_1 i) (by decide) rfl (fun ls hl => ?_)
      refine lv_goto (tgt := 76) hx hb dX2_init_97 (by decide) ?_
      exact ih (i + 1) (by omega) H locs ls hW hl hX
  refine L1 4 0 rfl H locs ls hW hl (fun H locs ls hW hl => ?_)
  refine lv_iconst (v := 0) hx hb dX2_init_100 (by decide) ?_
  refine lv_istore_n (lv' := [(1, .int 0), (0, .ref (b + o))]) hx hb dX2_init_101 rfl hl (by decide) rfl (fun ls hl => ?_)
  have L2 : ∀ (k i : Nat), i + k = 8 → ∀ (H : Heap) (locs : List Loc) (ls : Array Slot), cz_N g b (o + 9 + 4) (cz_stg g b o C 4 i 0 0) s H locs → lv_has ls 2 [(1, .int (nI i)), (0, .ref (b + o))] → (∀ (H : Heap) (locs : List Loc) (ls : Array Slot), cz_N g b (o + 9 + 4) (cz_stg g b o C 4 8 0 0) s H locs → lv_has ls 2 [(1, .int (nI 8)), (0, .ref (b + o))] → W p l e { frames := 2, cells := 56, slots := 800, locals := 64 } s m args below meth c H locs (8 + 4) (104 + 4 * 4) (MQ below (cz_QN g b (o + 57) (cz_blk g b o C)) args s 56 800 (fun q => b ≤ q)) (F0 m 129 ls [])) → W p l e { frames := 2, cells := 56, slots := 800, locals := 64 } s m args below meth c H locs (8 + 4) (104 + 4 * 4) (MQ below (cz_QN g b (o + 57) (cz_blk g b o C)) args s 56 800 (fun q => b ≤ q)) (F0 m 102 ls []) := by
    intro k
    induction k with
    | zero =>
      intro i hi H locs ls hW hl hX
      obtain rfl : i = 8 := by omega
      refine lv_iload_n hx hb dX2_init_102 rfl (lv_at hl 0 rfl) ?_
      refine lv_bipush (v := 8) hx hb dX2_init_103 (by decide) ?_
      refine lv_icmp_ge (tgt := 129) hx hb dX2_init_105 (by decide) (fun _ => hX H locs ls hW hl) (fun hc => absurd ((nI_leI (a := 8) (b := 8) (by decide) (by decide)).mpr (Nat.le_refl _)) hc)
    | succ k ih =>
      intro i hi H locs ls hW hl hX
      refine lv_iload_n hx hb dX2_init_102 rfl (lv_at hl 0 rfl) ?_
      refine lv_bipush (v := 8) hx hb dX2_init_103 (by decide) ?_
      refine lv_icmp_ge (tgt := 129) hx hb dX2_init_105 (by decide) (fun hc => absurd ((nI_leI (a := 8) (b := i) (by decide) (by omega)).mp hc) (by omega)) (fun _ => ?_)
      have hvi : vp_in (nI i) 8 := vp_in_nI (by omega) (by decide)
      have hci : (nI i).toNatClampNeg = i := nI_clamp (by omega)
      refine lv_aload_n hx hb dX2_init_108 rfl (lv_at hl 1 rfl) ?_
      refine cz_Nget (ci := 2) (k := 2) (N0 := 9) (fs := [.ref (b + (o + 1)), .ref (b + (o + 2)), .ref (b + (o + 3)), .ref (b + (o + 4)), .ref (b + (o + 5)), .ref (b + (o + 6)), .ref (b + (o + 8)), .int 0, .int 0]) X hW (by omega) (by simp [cz_stg, cz_nlt]) rfl inX2 (by decide) lk_X2_21 rfl rfl dX2_init_109 ?_
      refine lv_iload_n hx hb dX2_init_112 rfl (lv_at hl 0 rfl) ?_
      refine lv_iload_n hx hb dX2_init_113 rfl (lv_at hl 0 rfl) ?_
      refine lv_iconst (v := 2) hx hb dX2_init_114 (by decide) ?_
      refine lv_idiv hx hb dX2_init_115 (by decide) ?_
      refine lv_iload_n hx hb dX2_init_116 rfl (lv_at hl 0 rfl) ?_
      refine lv_iconst (v := 2) hx hb dX2_init_117 (by decide) ?_
      refine lv_irem hx hb dX2_init_118 (by decide) ?_
      refine lv_iadd hx hb dX2_init_119 ?_
      refine lv_iconst (v := 4) hx hb dX2_init_120 (by decide) ?_
      refine lv_irem hx hb dX2_init_121 (by decide) ?_
      rw [cz_r0v i (by omega)]
      refine cz_Niast (o := o + 3) (N' := 8) (f := fun k => if k < i then cz_r0 k else 0) X hW (by omega) (by simp [cz_stg, cz_nlt]) hvi dX2_init_122 (fun H locs hW => ?_)
      have hW : cz_N g b (o + 9 + 4) (cz_stg g b o C 4 (i + 1) 0 0) s H locs := by
        rw [hci] at hW
        refine cz_N.congr hW (fun q hq => ?_)
        exact cz_stepA_L2 g b o C i q (by omega)
      refine lv_iinc (v := nI (i + 1)) (lv' := [(1, .int (nI (i + 1))), (0, .ref (b + o))]) hx hb dX2_init_123 hl (k := 0) rfl (nI_1 i) (by decide) rfl (fun ls hl => ?_)
      refine lv_goto (tgt := 102) hx hb dX2_init_126 (by decide) ?_
      exact ih (i + 1) (by omega) H locs ls hW hl hX
  refine L2 8 0 rfl H locs ls hW hl (fun H locs ls hW hl => ?_)
  refine lv_iconst (v := 0) hx hb dX2_init_129 (by decide) ?_
  refine lv_istore_n (lv' := [(1, .int 0), (0, .ref (b + o))]) hx hb dX2_init_130 rfl hl (by decide) rfl (fun ls hl => ?_)
  have L3 : ∀ (k i : Nat), i + k = 40 → ∀ (H : Heap) (locs : List Loc) (ls : Array Slot), cz_N g b (o + 13 + i) (cz_stg g b o C 4 8 i 0) s H locs → lv_has ls 2 [(1, .int (nI i)), (0, .ref (b + o))] → (∀ (H : Heap) (locs : List Loc) (ls : Array Slot), cz_N g b (o + 13 + 40) (cz_stg g b o C 4 8 40 0) s H locs → lv_has ls 2 [(1, .int (nI 40)), (0, .ref (b + o))] → W p l e { frames := 2, cells := 56, slots := 800, locals := 64 } s m args below meth c H locs (12 + 40) (120 + 11 * 40) (MQ below (cz_QN g b (o + 57) (cz_blk g b o C)) args s 56 800 (fun q => b ≤ q)) (F0 m 156 ls [])) → W p l e { frames := 2, cells := 56, slots := 800, locals := 64 } s m args below meth c H locs (12 + i) (120 + 11 * i) (MQ below (cz_QN g b (o + 57) (cz_blk g b o C)) args s 56 800 (fun q => b ≤ q)) (F0 m 131 ls []) := by
    intro k
    induction k with
    | zero =>
      intro i hi H locs ls hW hl hX
      obtain rfl : i = 40 := by omega
      refine lv_iload_n hx hb dX2_init_131 rfl (lv_at hl 0 rfl) ?_
      refine lv_bipush (v := 40) hx hb dX2_init_132 (by decide) ?_
      refine lv_icmp_ge (tgt := 156) hx hb dX2_init_134 (by decide) (fun _ => hX H locs ls hW hl) (fun hc => absurd ((nI_leI (a := 40) (b := 40) (by decide) (by decide)).mpr (Nat.le_refl _)) hc)
    | succ k ih =>
      intro i hi H locs ls hW hl hX
      refine lv_iload_n hx hb dX2_init_131 rfl (lv_at hl 0 rfl) ?_
      refine lv_bipush (v := 40) hx hb dX2_init_132 (by decide) ?_
      refine lv_icmp_ge (tgt := 156) hx hb dX2_init_134 (by decide) (fun hc => absurd ((nI_leI (a := 40) (b := i) (by decide) (by omega)).mp hc) (by omega)) (fun _ => ?_)
      have hvi : vp_in (nI i) 40 := vp_in_nI (by omega) (by decide)
      have hci : (nI i).toNatClampNeg = i := nI_clamp (by omega)
      refine lv_aload_n hx hb dX2_init_137 rfl (lv_at hl 1 rfl) ?_
      refine cz_Nget (ci := 2) (k := 3) (N0 := 9) (fs := [.ref (b + (o + 1)), .ref (b + (o + 2)), .ref (b + (o + 3)), .ref (b + (o + 4)), .ref (b + (o + 5)), .ref (b + (o + 6)), .ref (b + (o + 8)), .int 0, .int 0]) X hW (by omega) (by simp [cz_stg, cz_nlt]) rfl inX2 (by decide) lk_X2_26 rfl rfl dX2_init_138 ?_
      refine lv_iload_n hx hb dX2_init_141 rfl (lv_at hl 0 rfl) ?_
      refine cz_newo (ty0 := tyX1) (fs := [.int 0, .int 0, .long 0, .int 0, .int 0, .int 0, .int 0, .int 0, .int 0, .int 0, .int 0]) (ci := 1) X hW rfl inX1 tyX1_ok cl_X2_24 is_X1 ini_X1 (by decide +kernel) (by show _ ≤ 56; omega) (by show _ ≤ 800; omega) dX2_init_142 (fun H hW => ?_)
      refine lv_dup hx hb dX2_init_145 rfl ?_
      refine cz_NrunIN (o := o + 13 + i) X hW hl.1 cN_X1 mI_X1 em1 ⟨Nat.le_of_ble_eq_true rfl, Nat.le_of_ble_eq_true rfl⟩ ⟨by show _ ≤ 56; omega, by show _ ≤ 800; omega⟩ (Nat.le_of_ble_eq_true rfl) dX2_init_146 (fun H locs hW => ?_)
      refine cz_Naast (o := o + 4) (oq := o + 13 + i) (t0 := 4) (N' := 40) (f := fun k => if k < i then some (b + (o + 13 + k)) else none) X hW (by omega) (by rw [va_up, if_neg (by omega)]; simp [cz_stg, cz_nlt]) rfl (by omega) (by simp [va_up]; exact ⟨rfl, rfl⟩) rfl hvi dX2_init_149 (fun H locs hW => ?_)
      refine W.widen (k := 12 + (i + 1)) (n := 120 + 11 * (i + 1)) (by omega) (by omega) ?_
      have hW : cz_N g b (o + 13 + (i + 1)) (cz_stg g b o C 4 8 (i + 1) 0) s H locs := by
        rw [hci] at hW
        refine cz_N.congr hW (fun q hq => ?_)
        exact cz_stepA_L3 g b o C i q (by omega) (by omega)
      refine lv_iinc (v := nI (i + 1)) (lv' := [(1, .int (nI (i + 1))), (0, .ref (b + o))]) hx hb dX2_init_150 hl (k := 0) rfl (nI_1 i) (by decide) rfl (fun ls hl => ?_)
      refine lv_goto (tgt := 131) hx hb dX2_init_153 (by decide) ?_
      exact ih (i + 1) (by omega) H locs ls hW hl hX
  refine W.widen (k := 12 + 0) (n := 120 + 11 * 0) (by omega) (by omega) ?_
  refine L3 40 0 rfl H locs ls hW hl (fun H locs ls hW hl => ?_)
  refine lv_iconst (v := 0) hx hb dX2_init_156 (by decide) ?_
  refine lv_istore_n (lv' := [(1, .int 0), (0, .ref (b + o))]) hx hb dX2_init_157 rfl hl (by decide) rfl (fun ls hl => ?_)
  refine W.widen (k := 52 + 2 * 0) (n := 560 + 42 * 0) (by omega) (by omega) ?_
  have L4 : ∀ (k i : Nat), i + k = 2 → ∀ (H : Heap) (locs : List Loc) (ls : Array Slot), cz_N g b (o + 53 + 2 * i) (cz_stg g b o C 4 8 40 i) s H locs → lv_has ls 2 [(1, .int (nI i)), (0, .ref (b + o))] → (∀ (H : Heap) (locs : List Loc) (ls : Array Slot), cz_N g b (o + 53 + 2 * 2) (cz_stg g b o C 4 8 40 2) s H locs → lv_has ls 2 [(1, .int (nI 2)), (0, .ref (b + o))] → W p l e { frames := 2, cells := 56, slots := 800, locals := 64 } s m args below meth c H locs (52 + 2 * 2) (560 + 42 * 2) (MQ below (cz_QN g b (o + 57) (cz_blk g b o C)) args s 56 800 (fun q => b ≤ q)) (F0 m 182 ls [])) → W p l e { frames := 2, cells := 56, slots := 800, locals := 64 } s m args below meth c H locs (52 + 2 * i) (560 + 42 * i) (MQ below (cz_QN g b (o + 57) (cz_blk g b o C)) args s 56 800 (fun q => b ≤ q)) (F0 m 158 ls []) := by
    intro k
    induction k with
    | zero =>
      intro i hi H locs ls hW hl hX
      obtain rfl : i = 2 := by omega
      refine lv_iload_n hx hb dX2_init_158 rfl (lv_at hl 0 rfl) ?_
      refine lv_iconst (v := 2) hx hb dX2_init_159 (by decide) ?_
      refine lv_icmp_ge (tgt := 182) hx hb dX2_init_160 (by decide) (fun _ => hX H locs ls hW hl) (fun hc => absurd ((nI_leI (a := 2) (b := 2) (by decide) (by decide)).mpr (Nat.le_refl _)) hc)
    | succ k ih =>
      intro i hi H locs ls hW hl hX
      refine lv_iload_n hx hb dX2_init_158 rfl (lv_at hl 0 rfl) ?_
      refine lv_iconst (v := 2) hx hb dX2_init_159 (by decide) ?_
      refine lv_icmp_ge (tgt := 182) hx hb dX2_init_160 (by decide) (fun hc => absurd ((nI_leI (a := 2) (b := i) (by decide) (by omega)).mp hc) (by omega)) (fun _ => ?_)
      have hvi : vp_in (nI i) 2 := vp_in_nI (by omega) (by decide)
      have hci : (nI i).toNatClampNeg = i := nI_clamp (by omega)
      refine lv_aload_n hx hb dX2_init_163 rfl (lv_at hl 1 rfl) ?_
      refine cz_Nget (ci := 2) (k := 4) (N0 := 9) (fs := [.ref (b + (o + 1)), .ref (b + (o + 2)), .ref (b + (o + 3)), .ref (b + (o + 4)), .ref (b + (o + 5)), .ref (b + (o + 6)), .ref (b + (o + 8)), .int 0, .int 0]) X hW (by omega) (by simp [cz_stg, cz_nlt]) rfl inX2 (by decide) lk_X2_32 rfl rfl dX2_init_164 ?_
      refine lv_iload_n hx hb dX2_init_167 rfl (lv_at hl 0 rfl) ?_
      refine cz_newo (ty0 := tyX3) (fs := [.null, .int 0]) (ci := 3) X hW rfl inX3 tyX3_ok cl_X2_30 is_X3 ini_X3 (by decide +kernel) (by show _ ≤ 56; omega) (by show _ ≤ 800; omega) dX2_init_168 (fun H hW => ?_)
      refine lv_dup hx hb dX2_init_171 rfl ?_
      refine cz_NrunIN (o := o + 53 + 2 * i) X hW hl.1 (cN_X3 (by omega) (by simp [va_up])) mI_X3 em3 ⟨Nat.le_of_ble_eq_true rfl, Nat.le_of_ble_eq_true rfl⟩ ⟨by show _ ≤ 56; omega, by show _ ≤ 800; omega⟩ (Nat.le_of_ble_eq_true rfl) dX2_init_172 (fun H locs hW => ?_)
      refine cz_Naast (o := o + 5) (oq := o + 53 + 2 * i) (t0 := 5) (N' := 2) (f := fun k => if k < i then some (b + (o + 53 + 2 * k)) else none) X hW (by omega) (cz_stepB g b o C i) rfl (by omega) (by simp [va_up]; exact ⟨rfl, rfl⟩) rfl hvi dX2_init_175 (fun H locs hW => ?_)
      refine W.widen (k := 52 + 2 * (i + 1)) (n := 560 + 42 * (i + 1)) (by omega) (by omega) ?_
      have hW : cz_N g b (o + 53 + 2 * (i + 1)) (cz_stg g b o C 4 8 40 (i + 1)) s H locs := by
        rw [hci] at hW
        rw [show o + 53 + 2 * (i + 1) = o + 53 + 2 * i + 1 + 1 by omega]
        refine cz_N.congr hW (fun q hq => ?_)
        exact cz_stepA_L4 g b o C i q (by omega) (by omega)
      refine lv_iinc (v := nI (i + 1)) (lv' := [(1, .int (nI (i + 1))), (0, .ref (b + o))]) hx hb dX2_init_176 hl (k := 0) rfl (nI_1 i) (by decide) rfl (fun ls hl => ?_)
      refine lv_goto (tgt := 158) hx hb dX2_init_179 (by decide) ?_
      exact ih (i + 1) (by omega) H locs ls hW hl hX
  refine L4 2 0 rfl H locs ls hW hl (fun H locs ls hW hl => ?_)
  have hW : cz_N g b (o + 57) (cz_blk g b o C) s H locs := cz_N.eqv hW (fun q hq => cz_blk_of g b o C q hq)
  exact cz_Nret X hW rfl (fun _ _ => rfl) (by omega) (by omega) dX2_init_182
