def cz_mn (g : cz_G) (b i w : Nat) : Nat → va_E := fun q =>
  if q = 0 then .inr (4, [.ref (b + 1), .ref (b + 58), .ref (b + 115), .ref (b + 116), .ref (b + 117), .ref (b + 118), .int 0, .int 0])
  else if q < 115 then cz_cel g.1 (b + q) (cz_pk ((q - 1) % 57)) (cz_I0 (cz_pk ((q - 1) % 57)))
  else if q = 115 then .inl (g.1 6, 4, .inr (.inr (.inr (.inr (fun k => if k < i then some (b + (119 + 57 * k)) else none)))))
  else if q = 116 then .inl (g.1 6, 2, .inr (.inr (.inr (.inr (fun k => if k < w then some (b + (347 + 57 * k)) else none)))))
  else if q = 117 then .inl (g.1 2, 2, .inl (fun _ => 0))
  else if q = 118 then .inl (g.1 1, 60, .inl (fun _ => 0))
  else cz_cel g.1 (b + q) (cz_pk ((q - 119) % 57)) (cz_I0 (cz_pk ((q - 119) % 57)))
abbrev cz_bk2 : va_E := .inr (2, [.null, .null, .null, .null, .null, .null, .null, .int 0, .int 0])
theorem cz_stepP (g : cz_G) (b i q : Nat) (hq : q < 119 + 57 * i + 57) : va_up (cz_blk g b (119 + 57 * i) (va_up (cz_mn g b i 0) (119 + 57 * i) cz_bk2)) 115 (.inl (g.1 6, 4, .inr (.inr (.inr (.inr (va_up (fun k => if k < i then some (b + (119 + 57 * k)) else none) i (some (b + (119 + 57 * i))))))))) q = cz_mn g b (i + 1) 0 q := by
  by_cases h2 : q = 115
  · subst h2
    simp [va_up, cz_mn]
    funext k
    by_cases hk : k = i
    · subst hk; simp [va_up]
    · have : k < i + 1 ↔ k < i := by omega
      simp [va_up, hk, this]
  · by_cases h9 : q < 119 + 57 * i
    · have h10 : q ≠ 119 + 57 * i := by omega
      simp [va_up, h2, cz_blk, h9, h10, cz_mn]
    · rw [va_up, if_neg h2, cz_blk, if_neg h9, cz_mn, if_neg (by omega), if_neg (by omega), if_neg (by omega), if_neg (by omega), if_neg (by omega), if_neg (by omega), show (q - 119) % 57 = q - (119 + 57 * i) by omega]
theorem cz_stepQ (g : cz_G) (b i q : Nat) (hq : q < 347 + 57 * i + 57) : va_up (cz_blk g b (347 + 57 * i) (va_up (cz_mn g b 4 i) (347 + 57 * i) cz_bk2)) 116 (.inl (g.1 6, 2, .inr (.inr (.inr (.inr (va_up (fun k => if k < i then some (b + (347 + 57 * k)) else none) i (some (b + (347 + 57 * i))))))))) q = cz_mn g b 4 (i + 1) q := by
  by_cases h2 : q = 116
  · subst h2
    simp [va_up, cz_mn]
    funext k
    by_cases hk : k = i
    · subst hk; simp [va_up]
    · have : k < i + 1 ↔ k < i := by omega
      simp [va_up, hk, this]
  · by_cases h9 : q < 347 + 57 * i
    · have h10 : q ≠ 347 + 57 * i := by omega
      simp [va_up, h2, cz_blk, h9, h10, cz_mn]
    · rw [va_up, if_neg h2, cz_blk, if_neg h9, cz_mn, if_neg (by omega), if_neg (by omega), if_neg (by omega), if_neg (by omega), if_neg (by omega), if_neg (by omega), show (q - 119) % 57 = q - (347 + 57 * i) by omega]
set_option maxHeartbeats 8000000 in
set_option maxRecDepth 100000 in
theorem cN_X4 {l : Launch} {g : cz_G} {b : Nat} {C : Nat → va_E} (he : C 0 = .inr (4, [.null, .null, .null, .null, .null, .null, .int 0, .int 0])) : cz_CN l yX4_init cX4_init 2 3 96 460 7000 g b 0 1 C 461 (cz_mn g b 4 2) := by
  refine cz_startN (by decide) rfl (by decide) (fun p e s m args below meth c X H ls hW hl => ?_)
  have X : cz_XN p s m args meth c cX4_init 2 RX4 g := X
  obtain ⟨hx, hb, -, -, -, -, ⟨ea0, ea1, ea3, ea2, em3, em0, em1⟩, -⟩ := id X
  refine lv_aload_n hx hb dX4_init_0 rfl (lv_at hl 0 rfl) ?_
  refine cz_Nobj X hl.1 ml_X4_3 (Nat.le_of_ble_eq_true rfl) (Nat.le_of_ble_eq_true rfl) dX4_init_1 ?_
  refine lv_aload_n hx hb dX4_init_4 rfl (lv_at hl 0 rfl) ?_
  refine cz_newo (ty0 := tyX2) (fs := [.null, .null, .null, .null, .null, .null, .null, .int 0, .int 0]) (ci := 2) X hW rfl inX2 tyX2_ok cl_X4_9 is_X2 ini_X2 (by decide +kernel) (Nat.le_of_ble_eq_true rfl) (Nat.le_of_ble_eq_true rfl) dX4_init_5 (fun H hW => ?_)
  refine lv_dup hx hb dX4_init_8 rfl ?_
  refine cz_NrunI (o := 1) X hW hl.1 (cN_X2 (by simp [va_up])) mI_X2 ml_X4_11 ⟨Nat.le_of_ble_eq_true rfl, Nat.le_of_ble_eq_true rfl⟩ ⟨Nat.le_of_ble_eq_true rfl, Nat.le_of_ble_eq_true rfl⟩ (Nat.le_of_ble_eq_true rfl) dX4_init_9 (fun H locs hW => ?_)
  refine cz_NputF (o := 0) (ci := 4) (k := 0) (N0 := 8) (fs := [.null, .null, .null, .null, .null, .null, .int 0, .int 0]) (ty := .object RX2) X hW (by omega) (by simp [va_up, cz_blk, he]) rfl inX4 tyX4_ok nmX4 (by decide) rfl lk_X4_12 rfl rfl (by decide +kernel) rfl rfl (by simp) dX4_init_12 (fun H locs hW => ?_)
  refine lv_aload_n hx hb dX4_init_15 rfl (lv_at hl 0 rfl) ?_
  refine cz_newo (ty0 := tyX2) (fs := [.null, .null, .null, .null, .null, .null, .null, .int 0, .int 0]) (ci := 2) X hW rfl inX2 tyX2_ok cl_X4_9 is_X2 ini_X2 (by decide +kernel) (Nat.le_of_ble_eq_true rfl) (Nat.le_of_ble_eq_true rfl) dX4_init_16 (fun H hW => ?_)
  refine lv_dup hx hb dX4_init_19 rfl ?_
  refine cz_NrunI (o := 58) X hW hl.1 (cN_X2 (by simp [va_up])) mI_X2 ml_X4_11 ⟨Nat.le_of_ble_eq_true rfl, Nat.le_of_ble_eq_true rfl⟩ ⟨Nat.le_of_ble_eq_true rfl, Nat.le_of_ble_eq_true rfl⟩ (Nat.le_of_ble_eq_true rfl) dX4_init_20 (fun H locs hW => ?_)
  refine cz_NputF (o := 0) (ci := 4) (k := 1) (N0 := 8) (fs := [.ref (b + 1), .null, .null, .null, .null, .null, .int 0, .int 0]) (ty := .object RX2) X hW (by omega) (by simp [va_up, cz_blk, he]) rfl inX4 tyX4_ok nmX4 (by decide) rfl lk_X4_16 rfl rfl (by decide +kernel) rfl rfl (by simp) dX4_init_23 (fun H locs hW => ?_)
  refine lv_aload_n hx hb dX4_init_26 rfl (lv_at hl 0 rfl) ?_
  refine lv_iconst (v := 4) hx hb dX4_init_27 (by decide) ?_
  refine cz_newq (t0 := 6) (N' := 4) X hW cl_X4_9 ea2 rfl (by decide) (by decide) (by decide) (Nat.le_of_ble_eq_true rfl) (Nat.le_of_ble_eq_true rfl) dX4_init_28 (fun H hW => ?_)
  refine cz_NputF (o := 0) (ci := 4) (k := 2) (N0 := 8) (fs := [.ref (b + 1), .ref (b + 58), .null, .null, .null, .null, .int 0, .int 0]) (ty := .array (.object RX2)) X hW (by omega) (by simp [va_up, cz_blk, he]) rfl inX4 tyX4_ok nmX4 (by decide) rfl lk_X4_19 rfl rfl (by decide +kernel) rfl rfl (by simp) dX4_init_31 (fun H locs hW => ?_)
  refine lv_aload_n hx hb dX4_init_34 rfl (lv_at hl 0 rfl) ?_
  refine lv_iconst (v := 2) hx hb dX4_init_35 (by decide) ?_
  refine cz_newq (t0 := 6) (N' := 2) X hW cl_X4_9 ea2 rfl (by decide) (by decide) (by decide) (Nat.le_of_ble_eq_true rfl) (Nat.le_of_ble_eq_true rfl) dX4_init_36 (fun H hW => ?_)
  refine cz_NputF (o := 0) (ci := 4) (k := 3) (N0 := 8) (fs := [.ref (b + 1), .ref (b + 58), .ref (b + 115), .null, .null, .null, .int 0, .int 0]) (ty := .array (.object RX2)) X hW (by omega) (by simp [va_up, cz_blk, he]) rfl inX4 tyX4_ok nmX4 (by decide) rfl lk_X4_23 rfl rfl (by decide +kernel) rfl rfl (by simp) dX4_init_39 (fun H locs hW => ?_)
  refine lv_aload_n hx hb dX4_init_42 rfl (lv_at hl 0 rfl) ?_
  refine lv_iconst (v := 2) hx hb dX4_init_43 (by decide) ?_
  refine cz_newa (atype := .boolean) (ty := .boolean) (t0 := 2) (N' := 2) X hW rfl ac_boolean rfl rfl rfl (by decide) (by decide) (by decide) (Nat.le_of_ble_eq_true rfl) (Nat.le_of_ble_eq_true rfl) dX4_init_44 (fun H hW => ?_)
  refine cz_NputF (o := 0) (ci := 4) (k := 4) (N0 := 8) (fs := [.ref (b + 1), .ref (b + 58), .ref (b + 115), .ref (b + 116), .null, .null, .int 0, .int 0]) (ty := .array .boolean) X hW (by omega) (by simp [va_up, cz_blk, he]) rfl inX4 tyX4_ok nmX4 (by decide) rfl lk_X4_26 rfl rfl (by decide +kernel) rfl rfl (by simp) dX4_init_46 (fun H locs hW => ?_)
  refine lv_aload_n hx hb dX4_init_49 rfl (lv_at hl 0 rfl) ?_
  refine lv_bipush (v := 60) hx hb dX4_init_50 (by decide) ?_
  refine cz_newa (atype := .char) (ty := .char) (t0 := 1) (N' := 60) X hW rfl ac_char rfl rfl rfl (by decide) (by decide) (by decide) (Nat.le_of_ble_eq_true rfl) (Nat.le_of_ble_eq_true rfl) dX4_init_52 (fun H hW => ?_)
  refine cz_NputF (o := 0) (ci := 4) (k := 5) (N0 := 8) (fs := [.ref (b + 1), .ref (b + 58), .ref (b + 115), .ref (b + 116), .ref (b + 117), .null, .int 0, .int 0]) (ty := .array .char) X hW (by omega) (by simp [va_up, cz_blk, he]) rfl inX4 tyX4_ok nmX4 (by decide) rfl lk_X4_30 rfl rfl (by decide +kernel) rfl rfl (by simp) dX4_init_54 (fun H locs hW => ?_)
  have hW : cz_N g b 119 (cz_mn g b 0 0) s H locs := by
    refine cz_N.congr hW (fun q hq => ?_)
    by_cases h0 : q = 0
    · subst h0; simp [va_up, cz_mn]
    by_cases h115 : q < 115
    · rw [cz_mn, if_neg h0, if_pos h115]
      have e1 : q ≠ 115 := by omega
      have e2 : q ≠ 116 := by omega
      have e3 : q ≠ 117 := by omega
      have e4 : q ≠ 118 := by omega
      by_cases h58 : q < 58
      · have e5 : q ≠ 58 := by omega
        have e6 : ¬ q < 1 := by omega
        simp [va_up, cz_blk, h0, e1, e2, e3, e4, h58, e5, e6]
        rw [show (q - 1) % 57 = q - 1 by omega]
      · simp [va_up, cz_blk, h0, e1, e2, e3, e4, h58]
        rw [show (q - 1) % 57 = q - 58 by omega]
    · rcases (show q = 115 ∨ q = 116 ∨ q = 117 ∨ q = 118 by omega) with rfl | rfl | rfl | rfl <;> simp [va_up, cz_mn]
  refine W.widen (k := 118) (n := 2000) (Nat.le_of_ble_eq_true rfl) (Nat.le_of_ble_eq_true rfl) ?_
  refine lv_iconst (v := 0) hx hb dX4_init_57 (by decide) ?_
  refine lv_istore_n (lv' := [(1, .int 0), (0, .ref (b + 0))]) hx hb dX4_init_58 rfl hl (by decide) rfl (fun ls hl => ?_)
  have L1 : ∀ (k i : Nat), i + k = 4 → ∀ (H : Heap) (locs : List Loc) (ls : Array Slot), cz_N g b (119 + 57 * i) (cz_mn g b i 0) s H locs → lv_has ls 2 [(1, .int (nI i)), (0, .ref (b + 0))] → (∀ (H : Heap) (locs : List Loc) (ls : Array Slot), cz_N g b (119 + 57 * 4) (cz_mn g b 4 0) s H locs → lv_has ls 2 [(1, .int (nI 4)), (0, .ref (b + 0))] → W p l e { frames := 3, cells := 460, slots := 7000, locals := 96 } s m args below meth c H locs (118 + 57 * 4) (2000 + 809 * 4) (MQ below (cz_QN g b 461 (cz_mn g b 4 2)) args s 460 7000 (fun q => b ≤ q)) (F0 m 83 ls [])) → W p l e { frames := 3, cells := 460, slots := 7000, locals := 96 } s m args below meth c H locs (118 + 57 * i) (2000 + 809 * i) (MQ below (cz_QN g b 461 (cz_mn g b 4 2)) args s 460 7000 (fun q => b ≤ q)) (F0 m 59 ls []) := by
    intro k
    induction k with
    | zero =>
      intro i hi H locs ls hW hl hX
      obtain rfl : i = 4 := by omega
      refine lv_iload_n hx hb dX4_init_59 rfl (lv_at hl 0 rfl) ?_
      refine lv_iconst (v := 4) hx hb dX4_init_60 (by decide) ?_
      refine lv_icmp_ge (tgt := 83) hx hb dX4_init_61 (by decide) (fun _ => hX H locs ls hW hl) (fun hc => absurd ((nI_leI (a := 4) (b := 4) (by decide) (by decide)).mpr (Nat.le_refl _)) hc)
    | succ k ih =>
      intro i hi H locs ls hW hl hX
      refine lv_iload_n hx hb dX4_init_59 rfl (lv_at hl 0 rfl) ?_
      refine lv_iconst (v := 4) hx hb dX4_init_60 (by decide) ?_
      refine lv_icmp_ge (tgt := 83) hx hb dX4_init_61 (by decide) (fun hc => absurd ((nI_leI (a := 4) (b := i) (by decide) (by omega)).mp hc) (by omega)) (fun _ => ?_)
      have hvi : vp_in (nI i) 4 := vp_in_nI (by omega) (by decide)
      have hci : (nI i).toNatClampNeg = i := nI_clamp (by omega)
      refine lv_aload_n hx hb dX4_init_64 rfl (lv_at hl 1 rfl) ?_
      refine cz_Nget (o := 0) (ci := 4) (k := 2) (N0 := 8) (fs := [.ref (b + 1), .ref (b + 58), .ref (b + 115), .ref (b + 116), .ref (b + 117), .ref (b + 118), .int 0, .int 0]) X hW (by omega) (by simp [cz_mn]) rfl inX4 (by decide) lk_X4_19 rfl rfl dX4_init_65 ?_
      refine lv_iload_n hx hb dX4_init_68 rfl (lv_at hl 0 rfl) ?_
      refine cz_newo (ty0 := tyX2) (fs := [.null, .null, .null, .null, .null, .null, .null, .int 0, .int 0]) (ci := 2) X hW rfl inX2 tyX2_ok cl_X4_9 is_X2 ini_X2 (by decide +kernel) (by show _ ≤ 460; omega) (by show _ ≤ 7000; omega) dX4_init_69 (fun H hW => ?_)
      refine lv_dup hx hb dX4_init_72 rfl ?_
      refine cz_NrunI (o := 119 + 57 * i) X hW hl.1 (cN_X2 (by simp [va_up])) mI_X2 ml_X4_11 ⟨Nat.le_of_ble_eq_true rfl, Nat.le_of_ble_eq_true rfl⟩ ⟨by show _ ≤ 460; omega, by show _ ≤ 7000; omega⟩ (Nat.le_of_ble_eq_true rfl) dX4_init_73 (fun H locs hW => ?_)
      refine cz_Naast (o := 115) (oq := 119 + 57 * i) (t0 := 6) (N' := 4) (f := fun k => if k < i then some (b + (119 + 57 * k)) else none) X hW (by omega) (by rw [cz_blk, if_pos (by omega), va_up, if_neg (by omega)]; simp [cz_mn]) rfl (by omega) (by simp [cz_blk, cz_pk, cz_cel]; exact ⟨rfl, rfl⟩) rfl hvi dX4_init_76 (fun H locs hW => ?_)
      refine W.widen (k := 118 + 57 * (i + 1)) (n := 2000 + 809 * (i + 1)) (by omega) (by omega) ?_
      have hW : cz_N g b (119 + 57 * (i + 1)) (cz_mn g b (i + 1) 0) s H locs := by
        rw [hci] at hW
        rw [show 119 + 57 * (i + 1) = 119 + 57 * i + 57 by omega]
        exact cz_N.congr hW (fun q hq => cz_stepP g b i q hq)
      refine lv_iinc (v := nI (i + 1)) (lv' := [(1, .int (nI (i + 1))), (0, .ref (b + 0))]) hx hb dX4_init_77 hl (k := 0) rfl (nI_1 i) (by decide) rfl (fun ls hl => ?_)
      refine lv_goto (tgt := 59) hx hb dX4_init_80 (by decide) ?_
      exact ih (i + 1) (by omega) H locs ls hW hl hX
  refine L1 4 0 rfl H locs ls hW hl (fun H locs ls hW hl => ?_)
  refine lv_iconst (v := 0) hx hb dX4_init_83 (by decide) ?_
  refine lv_istore_n (lv' := [(1, .int 0), (0, .ref (b + 0))]) hx hb dX4_init_84 rfl hl (by decide) rfl (fun ls hl => ?_)
  have L2 : ∀ (k i : Nat), i + k = 2 → ∀ (H : Heap) (locs : List Loc) (ls : Array Slot), cz_N g b (347 + 57 * i) (cz_mn g b 4 i) s H locs → lv_has ls 2 [(1, .int (nI i)), (0, .ref (b + 0))] → (∀ (H : Heap) (locs : List Loc) (ls : Array Slot), cz_N g b (347 + 57 * 2) (cz_mn g b 4 2) s H locs → lv_has ls 2 [(1, .int (nI 2)), (0, .ref (b + 0))] → W p l e { frames := 3, cells := 460, slots := 7000, locals := 96 } s m args below meth c H locs (346 + 57 * 2) (5236 + 809 * 2) (MQ below (cz_QN g b 461 (cz_mn g b 4 2)) args s 460 7000 (fun q => b ≤ q)) (F0 m 109 ls [])) → W p l e { frames := 3, cells := 460, slots := 7000, locals := 96 } s m args below meth c H locs (346 + 57 * i) (5236 + 809 * i) (MQ below (cz_QN g b 461 (cz_mn g b 4 2)) args s 460 7000 (fun q => b ≤ q)) (F0 m 85 ls []) := by
    intro k
    induction k with
    | zero =>
      intro i hi H locs ls hW hl hX
      obtain rfl : i = 2 := by omega
      refine lv_iload_n hx hb dX4_init_85 rfl (lv_at hl 0 rfl) ?_
      refine lv_iconst (v := 2) hx hb dX4_init_86 (by decide) ?_
      refine lv_icmp_ge (tgt := 109) hx hb dX4_init_87 (by decide) (fun _ => hX H locs ls hW hl) (fun hc => absurd ((nI_leI (a := 2) (b := 2) (by decide) (by decide)).mpr (Nat.le_refl _)) hc)
    | succ k ih =>
      intro i hi H locs ls hW hl hX
      refine lv_iload_n hx hb dX4_init_85 rfl (lv_at hl 0 rfl) ?_
      refine lv_iconst (v := 2) hx hb dX4_init_86 (by decide) ?_
      refine lv_icmp_ge (tgt := 109) hx hb dX4_init_87 (by decide) (fun hc => absurd ((nI_leI (a := 2) (b := i) (by decide) (by omega)).mp hc) (by omega)) (fun _ => ?_)
      have hvi : vp_in (nI i) 2 := vp_in_nI (by omega) (by decide)
      have hci : (nI i).toNatClampNeg = i := nI_clamp (by omega)
      refine lv_aload_n hx hb dX4_init_90 rfl (lv_at hl 1 rfl) ?_
      refine cz_Nget (o := 0) (ci := 4) (k := 3) (N0 := 8) (fs := [.ref (b + 1), .ref (b + 58), .ref (b + 115), .ref (b + 116), .ref (b + 117), .ref (b + 118), .int 0, .int 0]) X hW (by omega) (by simp [cz_mn]) rfl inX4 (by decide) lk_X4_23 rfl rfl dX4_init_91 ?_
      refine lv_iload_n hx hb dX4_init_94 rfl (lv_at hl 0 rfl) ?_
      refine cz_newo (ty0 := tyX2) (fs := [.null, .null, .null, .null, .null, .null, .null, .int 0, .int 0]) (ci := 2) X hW rfl inX2 tyX2_ok cl_X4_9 is_X2 ini_X2 (by decide +kernel) (by show _ ≤ 460; omega) (by show _ ≤ 7000; omega) dX4_init_95 (fun H hW => ?_)
      refine lv_dup hx hb dX4_init_98 rfl ?_
      refine cz_NrunI (o := 347 + 57 * i) X hW hl.1 (cN_X2 (by simp [va_up])) mI_X2 ml_X4_11 ⟨Nat.le_of_ble_eq_true rfl, Nat.le_of_ble_eq_true rfl⟩ ⟨by show _ ≤ 460; omega, by show _ ≤ 7000; omega⟩ (Nat.le_of_ble_eq_true rfl) dX4_init_99 (fun H locs hW => ?_)
      refine cz_Naast (o := 116) (oq := 347 + 57 * i) (t0 := 6) (N' := 2) (f := fun k => if k < i then some (b + (347 + 57 * k)) else none) X hW (by omega) (by rw [cz_blk, if_pos (by omega), va_up, if_neg (by omega)]; simp [cz_mn]) rfl (by omega) (by simp [cz_blk, cz_pk, cz_cel]; exact ⟨rfl, rfl⟩) rfl hvi dX4_init_102 (fun H locs hW => ?_)
      refine W.widen (k := 346 + 57 * (i + 1)) (n := 5236 + 809 * (i + 1)) (by omega) (by omega) ?_
      have hW : cz_N g b (347 + 57 * (i + 1)) (cz_mn g b 4 (i + 1)) s H locs := by
        rw [hci] at hW
        rw [show 347 + 57 * (i + 1) = 347 + 57 * i + 57 by omega]
        exact cz_N.congr hW (fun q hq => cz_stepQ g b i q hq)
      refine lv_iinc (v := nI (i + 1)) (lv' := [(1, .int (nI (i + 1))), (0, .ref (b + 0))]) hx hb dX4_init_103 hl (k := 0) rfl (nI_1 i) (by decide) rfl (fun ls hl => ?_)
      refine lv_goto (tgt := 85) hx hb dX4_init_106 (by decide) ?_
      exact ih (i + 1) (by omega) H locs ls hW hl hX
  refine L2 2 0 rfl H locs ls hW hl (fun H locs ls hW hl => ?_)
  exact cz_Nret X hW rfl (fun _ _ => rfl) (by omega) (by omega) dX4_init_109
def cz_ini (o k : Nat) : Int32 := if cz_kd o = 103 then cz_s0 k else if cz_kd o = 108 then cz_r0 k else 0
def cz_M0 (b : Nat) : cz_M := (fun a k => cz_ini (a - b) k, fun _ => 0, fun j => b + (119 + 57 * j))
theorem cz_fs_eq {ci a : Nat} {M M' : cz_M} (h1 : M.1 a = M'.1 a) (h2 : M.2.1 a = M'.2.1 a) : cz_fs ci a M = cz_fs ci a M' := by
  unfold cz_fs
  split <;> simp only [h1, h2]
theorem cz_cel_eq {y : Nat → ClassId} {a kd : Nat} {M M' : cz_M} (h1 : M.1 a = M'.1 a) (h2 : M.2.1 a = M'.2.1 a) (h3 : kd ≠ 13) : cz_cel y a kd M = cz_cel y a kd M' := by
  unfold cz_cel
  rw [cz_fs_eq h1 h2, h1, if_neg h3, if_neg h3]
theorem cz_pk_ne : ∀ o, o < 57 → cz_pk o ≠ 13 ∧ cz_pk o ≠ 651 := by decide +kernel
theorem cz_pk_ini (b q : Nat) (o : Nat) (h : cz_kd q = cz_pk o) (h0 : cz_pk o ≠ 651) : (cz_I0 (cz_pk o)).1 (b + q) = (cz_M0 b).1 (b + q) := by
  funext k
  show (if cz_pk o = 103 then cz_s0 k else if cz_pk o = 108 then cz_r0 k else if cz_pk o = 651 then 0 else 0) = cz_ini (b + q - b) k
  rw [Nat.add_sub_cancel_left, cz_ini, h]
  simp
theorem cz_whole (g : cz_G) (b q : Nat) (hq : q < 461) : cz_eqv (b + q) (cz_mn g b 4 2 q) (cz_cel g.1 (b + q) (cz_kd q) (cz_M0 b)) := by
  have hini : ∀ k, (cz_M0 b).1 (b + q) k = cz_ini q k := fun k => by show cz_ini (b + q - b) k = _; rw [Nat.add_sub_cancel_left]
  have h461 := hq
  by_cases h0 : q = 0
  · subst h0
    apply cz_eqv_of
    have e0 : cz_ini 0 6 = 0 := by decide +kernel
    have e1 : cz_ini 0 7 = 0 := by decide +kernel
    have e2 : cz_kd 0 = 4 := by decide +kernel
    rw [cz_mn, if_pos rfl, e2, cz_cel_obj (by decide)]
    simp only [cz_fs, hini, e0, e1]
  by_cases h115 : q < 115
  · apply cz_eqv_of
    have e : cz_kd q = cz_pk ((q - 1) % 57) := by simp [cz_kd, h0, h115]
    rw [cz_mn, if_neg h0, if_pos h115, e]
    exact cz_cel_eq (cz_pk_ini b q _ e (cz_pk_ne _ (Nat.mod_lt _ (by decide))).2) rfl (cz_pk_ne _ (Nat.mod_lt _ (by decide))).1
  by_cases h119 : q < 119
  · rcases (show q = 115 ∨ q = 116 ∨ q = 117 ∨ q = 118 by omega) with rfl | rfl | rfl | rfl
    · simp [cz_mn, cz_kd, cz_cel]
      exact cz_eqv_q (fun j hj => by rw [if_pos hj]; rfl)
    · simp [cz_mn, cz_kd, cz_cel]
      exact cz_eqv_q (fun j hj => by rw [if_pos hj]; congr 1; omega)
    · apply cz_eqv_of
      simp [cz_mn, cz_kd, cz_cel]
      funext k
      rw [hini]
      simp [cz_ini, cz_kd]
    · apply cz_eqv_of
      simp [cz_mn, cz_kd, cz_cel]
      funext k
      rw [hini]
      simp [cz_ini, cz_kd]
  · apply cz_eqv_of
    have e : cz_kd q = cz_pk ((q - 119) % 57) := by simp [cz_kd, h0, h115, h461, show q ≠ 115 by omega, show q ≠ 116 by omega, show q ≠ 117 by omega, show q ≠ 118 by omega]
    rw [cz_mn, if_neg h0, if_neg h115, if_neg (by omega), if_neg (by omega), if_neg (by omega), if_neg (by omega), e]
    exact cz_cel_eq (cz_pk_ini b q _ e (cz_pk_ne _ (Nat.mod_lt _ (by decide))).2) rfl (cz_pk_ne _ (Nat.mod_lt _ (by decide))).1
/-- the world that the law's object makes -/
theorem cz_whole_P (g : cz_G) (b : Nat) (s : State) (H : Heap) (locs : List Loc) (h : cz_N g b 461 (cz_mn g b 4 2) s H locs) : va_P g.2 vwCl (cz_wl g.1 b (cz_M0 b)) H ∧ (∀ j, j < 4 → cz_K b ((cz_M0 b).2.2 j) 2) ∧ va_S (fun q => b ≤ q) s.heap H locs := by
  have h2 := cz_N.eqv (C' := fun q => cz_cel g.1 (b + q) (cz_kd q) (cz_M0 b)) h (fun q hq => cz_whole g b q hq)
  refine ⟨h2.1, fun j hj => ?_, h2.2.2⟩
  show cz_K b (b + (119 + 57 * j)) 2
  refine ⟨by omega, by omega, ?_⟩
  rw [Nat.add_sub_cancel_left]
  rcases (show j = 0 ∨ j = 1 ∨ j = 2 ∨ j = 3 by omega) with rfl | rfl | rfl | rfl <;> decide +kernel
