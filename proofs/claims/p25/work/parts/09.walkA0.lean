theorem mv_X0_copyFrom : cz_MV yX0_copyFrom cX0_copyFrom 2 none RX0 1 := ⟨mi_X0_copyFrom, ms_X0_copyFrom, mc_X0_copyFrom, ini_X0, by decide +kernel⟩
set_option maxHeartbeats 4000000 in
set_option maxRecDepth 100000 in
theorem c_X0_copyFrom {l : Launch} {g : cz_G} {b : Nat} {M : cz_M} {M9 : cz_M} {a : Nat} {a1 : Nat} (ka : cz_K b a 0) (ka1 : cz_K b a1 0) (h : f_X0_copyFrom M a a1 = some M9) : cz_C l yX0_copyFrom cX0_copyFrom 2 none 0 0 g b [.ref a, .ref a1] M none M9 := by
  refine cz_start (by decide) (Nat.le_of_ble_eq_true rfl) (fun p e s m args below meth c X H ls hM hl => ?_)
  have X : cz_X p s m args meth c cX0_copyFrom 2 RX0 g b none := X
  obtain ⟨hx, hb, -, ho, ht, -⟩ := id X
  have hRf : 0 ≤ ({ frames := 0, cells := 0, slots := 0, locals := 0 } : Room).frames := Nat.le_refl _
  have hRl : 0 ≤ ({ frames := 0, cells := 0, slots := 0, locals := 0 } : Room).locals := Nat.le_refl _
  have hl : lv_has ls 2 [(0, .ref a), (1, .ref a1)] := hl
  rw [f_X0_copyFrom] at h
  refine lv_aload_n hx hb dX0_copyFrom_0 rfl (lv_at hl 0 rfl) ?_
  refine lv_aload_n hx hb dX0_copyFrom_1 rfl (lv_at hl 1 rfl) ?_
  refine cz_getI X hM ff_X0_0 ka1 lk_X0_7 dX0_copyFrom_2 ?_
  refine cz_putI X hM h ff_X0_0 ka lk_X0_7 dX0_copyFrom_5 (fun M1 H locs h hM => ?_)
  refine lv_aload_n hx hb dX0_copyFrom_8 rfl (lv_at hl 0 rfl) ?_
  refine lv_aload_n hx hb dX0_copyFrom_9 rfl (lv_at hl 1 rfl) ?_
  refine cz_getI X hM ff_X0_1 ka1 lk_X0_13 dX0_copyFrom_10 ?_
  refine cz_putI X hM h ff_X0_1 ka lk_X0_13 dX0_copyFrom_13 (fun M2 H locs h hM => ?_)
  refine lv_aload_n hx hb dX0_copyFrom_16 rfl (lv_at hl 0 rfl) ?_
  refine lv_aload_n hx hb dX0_copyFrom_17 rfl (lv_at hl 1 rfl) ?_
  refine cz_getI X hM ff_X0_2 ka1 lk_X0_16 dX0_copyFrom_18 ?_
  refine cz_putI X hM h ff_X0_2 ka lk_X0_16 dX0_copyFrom_21 (fun M3 H locs h hM => ?_)
  refine lv_aload_n hx hb dX0_copyFrom_24 rfl (lv_at hl 0 rfl) ?_
  refine lv_aload_n hx hb dX0_copyFrom_25 rfl (lv_at hl 1 rfl) ?_
  refine cz_getI X hM ff_X0_3 ka1 lk_X0_19 dX0_copyFrom_26 ?_
  refine cz_putI X hM h ff_X0_3 ka lk_X0_19 dX0_copyFrom_29 (fun M4 H locs h hM => ?_)
  exact cz_retv X hM h dX0_copyFrom_32
theorem mv_X1_begin : cz_MV yX1_begin cX1_begin 3 none RX1 2 := ⟨mi_X1_begin, ms_X1_begin, mc_X1_begin, ini_X1, by decide +kernel⟩
set_option maxHeartbeats 4000000 in
set_option maxRecDepth 100000 in
theorem c_X1_begin {l : Launch} {g : cz_G} {b : Nat} {M : cz_M} {M9 : cz_M} {a : Nat} {x1 : Int32} {x2 : Int32} (ka : cz_K b a 1) (h : f_X1_begin M a x1 x2 = some M9) : cz_C l yX1_begin cX1_begin 3 none 0 0 g b [.ref a, .int x1, .int x2] M none M9 := by
  refine cz_start (by decide) (Nat.le_of_ble_eq_true rfl) (fun p e s m args below meth c X H ls hM hl => ?_)
  have X : cz_X p s m args meth c cX1_begin 3 RX1 g b none := X
  obtain ⟨hx, hb, -, ho, ht, -⟩ := id X
  have hRf : 0 ≤ ({ frames := 0, cells := 0, slots := 0, locals := 0 } : Room).frames := Nat.le_refl _
  have hRl : 0 ≤ ({ frames := 0, cells := 0, slots := 0, locals := 0 } : Room).locals := Nat.le_refl _
  have hl : lv_has ls 3 [(0, .ref a), (1, .int x1), (2, .int x2)] := hl
  rw [f_X1_begin] at h
  refine lv_aload_n hx hb dX1_begin_0 rfl (lv_at hl 0 rfl) ?_
  refine lv_iload_n hx hb dX1_begin_1 rfl (lv_at hl 1 rfl) ?_
  refine cz_putI X hM h ff_X1_0 ka lk_X1_9 dX1_begin_2 (fun M1 H locs h hM => ?_)
  refine lv_aload_n hx hb dX1_begin_5 rfl (lv_at hl 0 rfl) ?_
  refine lv_iconst (v := nI 0) hx hb dX1_begin_6 (by decide) ?_
  refine cz_putI X hM h ff_X1_1 ka lk_X1_15 dX1_begin_7 (fun M2 H locs h hM => ?_)
  refine lv_aload_n hx hb dX1_begin_10 rfl (lv_at hl 0 rfl) ?_
  refine lv_lconst (v := 0) hx hb dX1_begin_11 (by decide) ?_
  refine cz_putL X hM h ff_X1_2 ka lk_X1_18 dX1_begin_12 (fun M3 H locs h hM => ?_)
  refine lv_aload_n hx hb dX1_begin_15 rfl (lv_at hl 0 rfl) ?_
  refine lv_iconst (v := nI 0) hx hb dX1_begin_16 (by decide) ?_
  refine cz_putI X hM h ff_X1_3 ka lk_X1_22 dX1_begin_17 (fun M4 H locs h hM => ?_)
  refine lv_aload_n hx hb dX1_begin_20 rfl (lv_at hl 0 rfl) ?_
  refine lv_iload_n hx hb dX1_begin_21 rfl (lv_at hl 2 rfl) ?_
  refine cz_putI X hM h ff_X1_4 ka lk_X1_25 dX1_begin_22 (fun M5 H locs h hM => ?_)
  refine lv_aload_n hx hb dX1_begin_25 rfl (lv_at hl 0 rfl) ?_
  refine lv_iconst (v := nI 0) hx hb dX1_begin_26 (by decide) ?_
  refine cz_putI X hM h ff_X1_5 ka lk_X1_28 dX1_begin_27 (fun M6 H locs h hM => ?_)
  refine lv_aload_n hx hb dX1_begin_30 rfl (lv_at hl 0 rfl) ?_
  refine lv_iconst (v := nI 0) hx hb dX1_begin_31 (by decide) ?_
  refine cz_putI X hM h ff_X1_6 ka lk_X1_31 dX1_begin_32 (fun M7 H locs h hM => ?_)
  refine lv_aload_n hx hb dX1_begin_35 rfl (lv_at hl 0 rfl) ?_
  refine lv_iconst (v := nI 0) hx hb dX1_begin_36 (by decide) ?_
  refine cz_putI X hM h ff_X1_7 ka lk_X1_34 dX1_begin_37 (fun M8 H locs h hM => ?_)
  refine lv_aload_n hx hb dX1_begin_40 rfl (lv_at hl 0 rfl) ?_
  refine lv_iconst (v := nI 0) hx hb dX1_begin_41 (by decide) ?_
  refine cz_putI X hM h ff_X1_8 ka lk_X1_37 dX1_begin_42 (fun M9 H locs h hM => ?_)
  refine lv_aload_n hx hb dX1_begin_45 rfl (lv_at hl 0 rfl) ?_
  refine lv_bipush (v := -6) hx hb dX1_begin_46 (by decide) ?_
  refine cz_putI X hM h ff_X1_9 ka lk_X1_40 dX1_begin_48 (fun M10 H locs h hM => ?_)
  exact cz_retv X hM h dX1_begin_51
theorem mv_X1_copyFrom : cz_MV yX1_copyFrom cX1_copyFrom 2 none RX1 1 := ⟨mi_X1_copyFrom, ms_X1_copyFrom, mc_X1_copyFrom, ini_X1, by decide +kernel⟩
set_option maxHeartbeats 4000000 in
set_option maxRecDepth 100000 in
theorem c_X1_copyFrom {l : Launch} {g : cz_G} {b : Nat} {M : cz_M} {M9 : cz_M} {a : Nat} {a1 : Nat} (ka : cz_K b a 1) (ka1 : cz_K b a1 1) (h : f_X1_copyFrom M a a1 = some M9) : cz_C l yX1_copyFrom cX1_copyFrom 2 none 0 0 g b [.ref a, .ref a1] M none M9 := by
  refine cz_start (by decide) (Nat.le_of_ble_eq_true rfl) (fun p e s m args below meth c X H ls hM hl => ?_)
  have X : cz_X p s m args meth c cX1_copyFrom 2 RX1 g b none := X
  obtain ⟨hx, hb, -, ho, ht, -⟩ := id X
  have hRf : 0 ≤ ({ frames := 0, cells := 0, slots := 0, locals := 0 } : Room).frames := Nat.le_refl _
  have hRl : 0 ≤ ({ frames := 0, cells := 0, slots := 0, locals := 0 } : Room).locals := Nat.le_refl _
  have hl : lv_has ls 2 [(0, .ref a), (1, .ref a1)] := hl
  rw [f_X1_copyFrom] at h
  refine lv_aload_n hx hb dX1_copyFrom_0 rfl (lv_at hl 0 rfl) ?_
  refine lv_aload_n hx hb dX1_copyFrom_1 rfl (lv_at hl 1 rfl) ?_
  refine cz_getI X hM ff_X1_0 ka1 lk_X1_9 dX1_copyFrom_2 ?_
  refine cz_putI X hM h ff_X1_0 ka lk_X1_9 dX1_copyFrom_5 (fun M1 H locs h hM => ?_)
  refine lv_aload_n hx hb dX1_copyFrom_8 rfl (lv_at hl 0 rfl) ?_
  refine lv_aload_n hx hb dX1_copyFrom_9 rfl (lv_at hl 1 rfl) ?_
  refine cz_getI X hM ff_X1_1 ka1 lk_X1_15 dX1_copyFrom_10 ?_
  refine cz_putI X hM h ff_X1_1 ka lk_X1_15 dX1_copyFrom_13 (fun M2 H locs h hM => ?_)
  refine lv_aload_n hx hb dX1_copyFrom_16 rfl (lv_at hl 0 rfl) ?_
  refine lv_aload_n hx hb dX1_copyFrom_17 rfl (lv_at hl 1 rfl) ?_
  refine cz_getL X hM ff_X1_2 ka1 lk_X1_18 dX1_copyFrom_18 ?_
  refine cz_putL X hM h ff_X1_2 ka lk_X1_18 dX1_copyFrom_21 (fun M3 H locs h hM => ?_)
  refine lv_aload_n hx hb dX1_copyFrom_24 rfl (lv_at hl 0 rfl) ?_
  refine lv_aload_n hx hb dX1_copyFrom_25 rfl (lv_at hl 1 rfl) ?_
  refine cz_getI X hM ff_X1_3 ka1 lk_X1_22 dX1_copyFrom_26 ?_
  refine cz_putI X hM h ff_X1_3 ka lk_X1_22 dX1_copyFrom_29 (fun M4 H locs h hM => ?_)
  refine lv_aload_n hx hb dX1_copyFrom_32 rfl (lv_at hl 0 rfl) ?_
  refine lv_aload_n hx hb dX1_copyFrom_33 rfl (lv_at hl 1 rfl) ?_
  refine cz_getI X hM ff_X1_4 ka1 lk_X1_25 dX1_copyFrom_34 ?_
  refine cz_putI X hM h ff_X1_4 ka lk_X1_25 dX1_copyFrom_37 (fun M5 H locs h hM => ?_)
  refine lv_aload_n hx hb dX1_copyFrom_40 rfl (lv_at hl 0 rfl) ?_
  refine lv_aload_n hx hb dX1_copyFrom_41 rfl (lv_at hl 1 rfl) ?_
  refine cz_getI X hM ff_X1_5 ka1 lk_X1_28 dX1_copyFrom_42 ?_
  refine cz_putI X hM h ff_X1_5 ka lk_X1_28 dX1_copyFrom_45 (fun M6 H locs h hM => ?_)
  refine lv_aload_n hx hb dX1_copyFrom_48 rfl (lv_at hl 0 rfl) ?_
  refine lv_aload_n hx hb dX1_copyFrom_49 rfl (lv_at hl 1 rfl) ?_
  refine cz_getI X hM ff_X1_6 ka1 lk_X1_31 dX1_copyFrom_50 ?_
  refine cz_putI X hM h ff_X1_6 ka lk_X1_31 dX1_copyFrom_53 (fun M7 H locs h hM => ?_)
  refine lv_aload_n hx hb dX1_copyFrom_56 rfl (lv_at hl 0 rfl) ?_
  refine lv_aload_n hx hb dX1_copyFrom_57 rfl (lv_at hl 1 rfl) ?_
  refine cz_getI X hM ff_X1_7 ka1 lk_X1_34 dX1_copyFrom_58 ?_
  refine cz_putI X hM h ff_X1_7 ka lk_X1_34 dX1_copyFrom_61 (fun M8 H locs h hM => ?_)
  refine lv_aload_n hx hb dX1_copyFrom_64 rfl (lv_at hl 0 rfl) ?_
  refine lv_aload_n hx hb dX1_copyFrom_65 rfl (lv_at hl 1 rfl) ?_
  refine cz_getI X hM ff_X1_8 ka1 lk_X1_37 dX1_copyFrom_66 ?_
  refine cz_putI X hM h ff_X1_8 ka lk_X1_37 dX1_copyFrom_69 (fun M9 H locs h hM => ?_)
  refine lv_aload_n hx hb dX1_copyFrom_72 rfl (lv_at hl 0 rfl) ?_
  refine lv_aload_n hx hb dX1_copyFrom_73 rfl (lv_at hl 1 rfl) ?_
  refine cz_getI X hM ff_X1_9 ka1 lk_X1_40 dX1_copyFrom_74 ?_
  refine cz_putI X hM h ff_X1_9 ka lk_X1_40 dX1_copyFrom_77 (fun M10 H locs h hM => ?_)
  exact cz_retv X hM h dX1_copyFrom_80
theorem mv_X1_addWord : cz_MV yX1_addWord cX1_addWord 2 none RX1 1 := ⟨mi_X1_addWord, ms_X1_addWord, mc_X1_addWord, ini_X1, by decide +kernel⟩
set_option maxHeartbeats 4000000 in
set_option maxRecDepth 100000 in
theorem c_X1_addWord {l : Launch} {g : cz_G} {b : Nat} {M : cz_M} {M9 : cz_M} {a : Nat} {x1 : Int32} (ka : cz_K b a 1) (h : f_X1_addWord M a x1 = some M9) : cz_C l yX1_addWord cX1_addWord 2 none 0 0 g b [.ref a, .int x1] M none M9 := by
  refine cz_start (by decide) (Nat.le_of_ble_eq_true rfl) (fun p e s m args below meth c X H ls hM hl => ?_)
  have X : cz_X p s m args meth c cX1_addWord 2 RX1 g b none := X
  obtain ⟨hx, hb, -, ho, ht, -⟩ := id X
  have hRf : 0 ≤ ({ frames := 0, cells := 0, slots := 0, locals := 0 } : Room).frames := Nat.le_refl _
  have hRl : 0 ≤ ({ frames := 0, cells := 0, slots := 0, locals := 0 } : Room).locals := Nat.le_refl _
  have hl : lv_has ls 2 [(0, .ref a), (1, .int x1)] := hl
  rw [f_X1_addWord] at h
  refine lv_aload_n hx hb dX1_addWord_0 rfl (lv_at hl 0 rfl) ?_
  refine cz_getI X hM ff_X1_3 ka lk_X1_22 dX1_addWord_1 ?_
  refine lv_bipush (v := nI 8) hx hb dX1_addWord_4 (by decide) ?_
  refine lv_icmp_ge (tgt := 38) hx hb dX1_addWord_6 (by decide) (fun c1 => ?_) (fun c1 => ?_)
  · have h := cz_ite_t c1 h
    exact cz_retv X hM h dX1_addWord_38
  · have h := cz_ite_f c1 h
    refine lv_aload_n hx hb dX1_addWord_9 rfl (lv_at hl 0 rfl) ?_
    refine lv_aload_n hx hb dX1_addWord_10 rfl (lv_at hl 0 rfl) ?_
    refine cz_getL X hM ff_X1_2 ka lk_X1_18 dX1_addWord_11 ?_
    refine lv_iload_n hx hb dX1_addWord_14 rfl (lv_at hl 1 rfl) ?_
    refine lv_i2l (v := Int32.toInt64 x1) hx hb dX1_addWord_15 rfl ?_
    refine lv_bipush (v := nI 8) hx hb dX1_addWord_16 (by decide) ?_
    refine lv_aload_n hx hb dX1_addWord_18 rfl (lv_at hl 0 rfl) ?_
    refine cz_getI X hM ff_X1_3 ka lk_X1_22 dX1_addWord_19 ?_
    refine lv_imul hx hb dX1_addWord_22 ?_
    refine lv_lshl (v := cz_sl (Int32.toInt64 x1) ((nI 8) * (M.1 a 3))) hx hb dX1_addWord_23 rfl ?_
    refine lv_lor hx hb dX1_addWord_24 ?_
    refine cz_putL X hM h ff_X1_2 ka lk_X1_18 dX1_addWord_25 (fun M2 H locs h hM => ?_)
    refine lv_aload_n hx hb dX1_addWord_28 rfl (lv_at hl 0 rfl) ?_
    refine lv_dup hx hb dX1_addWord_29 rfl ?_
    refine cz_getI X hM ff_X1_3 ka lk_X1_22 dX1_addWord_30 ?_
    refine lv_iconst (v := nI 1) hx hb dX1_addWord_33 (by decide) ?_
    refine lv_iadd hx hb dX1_addWord_34 ?_
    refine cz_putI X hM h ff_X1_3 ka lk_X1_22 dX1_addWord_35 (fun M3 H locs h hM => ?_)
    exact cz_retv X hM h dX1_addWord_38
theorem mv_X1_codeAt : cz_MV yX1_codeAt cX1_codeAt 2 (some .int) RX1 1 := ⟨mi_X1_codeAt, ms_X1_codeAt, mc_X1_codeAt, ini_X1, by decide +kernel⟩
set_option maxHeartbeats 4000000 in
set_option maxRecDepth 100000 in
theorem c_X1_codeAt {l : Launch} {g : cz_G} {b : Nat} {M : cz_M} {r0 : Int32} {a : Nat} {x1 : Int32} (ka : cz_K b a 1) (h : f_X1_codeAt M a x1 = some r0) : cz_C l yX1_codeAt cX1_codeAt 2 (some .int) 0 0 g b [.ref a, .int x1] M (some (.int r0)) M := by
  refine cz_start (by decide) (Nat.le_of_ble_eq_true rfl) (fun p e s m args below meth c X H ls hM hl => ?_)
  have X : cz_X p s m args meth c cX1_codeAt 2 RX1 g b (some .int) := X
  obtain ⟨hx, hb, -, ho, ht, -⟩ := id X
  have hRf : 0 ≤ ({ frames := 0, cells := 0, slots := 0, locals := 0 } : Room).frames := Nat.le_refl _
  have hRl : 0 ≤ ({ frames := 0, cells := 0, slots := 0, locals := 0 } : Room).locals := Nat.le_refl _
  have hl : lv_has ls 2 [(0, .ref a), (1, .int x1)] := hl
  rw [f_X1_codeAt] at h
  refine lv_aload_n hx hb dX1_codeAt_0 rfl (lv_at hl 0 rfl) ?_
  refine cz_getL X hM ff_X1_2 ka lk_X1_18 dX1_codeAt_1 ?_
  refine lv_bipush (v := nI 8) hx hb dX1_codeAt_4 (by decide) ?_
  refine lv_iload_n hx hb dX1_codeAt_6 rfl (lv_at hl 1 rfl) ?_
  refine lv_imul hx hb dX1_codeAt_7 ?_
  refine lv_lushr (v := cz_usl (M.2.1 a) ((nI 8) * x1)) hx hb dX1_codeAt_8 rfl ?_
  refine lv_l2i (v := Int64.toInt32 (cz_usl (M.2.1 a) ((nI 8) * x1))) hx hb dX1_codeAt_9 rfl ?_
  refine lv_sipush (v := nI 255) hx hb dX1_codeAt_10 (by decide) ?_
  refine lv_iand hx hb dX1_codeAt_13 ?_
  exact cz_retp X hM h rfl dX1_codeAt_14
theorem mv_X1_isStruckAt : cz_MV yX1_isStruckAt cX1_isStruckAt 2 (some .boolean) RX1 1 := ⟨mi_X1_isStruckAt, ms_X1_isStruckAt, mc_X1_isStruckAt, ini_X1, by decide +kernel⟩
set_option maxHeartbeats 4000000 in
set_option maxRecDepth 100000 in
theorem c_X1_isStruckAt {l : Launch} {g : cz_G} {b : Nat} {M : cz_M} {r0 : Int32} {a : Nat} {x1 : Int32} (ka : cz_K b a 1) (h : f_X1_isStruckAt M a x1 = some r0) : cz_C l yX1_isStruckAt cX1_isStruckAt 2 (some .boolean) 0 0 g b [.ref a, .int x1] M (some (.int r0)) M := by
  refine cz_start (by decide) (Nat.le_of_ble_eq_true rfl) (fun p e s m args below meth c X H ls hM hl => ?_)
  have X : cz_X p s m args meth c cX1_isStruckAt 2 RX1 g b (some .boolean) := X
  obtain ⟨hx, hb, -, ho, ht, -⟩ := id X
  have hRf : 0 ≤ ({ frames := 0, cells := 0, slots := 0, locals := 0 } : Room).frames := Nat.le_refl _
  have hRl : 0 ≤ ({ frames := 0, cells := 0, slots := 0, locals := 0 } : Room).locals := Nat.le_refl _
  have hl : lv_has ls 2 [(0, .ref a), (1, .int x1)] := hl
  rw [f_X1_isStruckAt] at h
  refine lv_aload_n hx hb dX1_isStruckAt_0 rfl (lv_at hl 0 rfl) ?_
  refine cz_getI X hM ff_X1_8 ka lk_X1_37 dX1_isStruckAt_1 ?_
  refine lv_iload_n hx hb dX1_isStruckAt_4 rfl (lv_at hl 1 rfl) ?_
  refine lv_iushr (v := cz_us (M.1 a 8) x1) hx hb dX1_isStruckAt_5 rfl ?_
  refine lv_iconst (v := nI 1) hx hb dX1_isStruckAt_6 (by decide) ?_
  refine lv_iand hx hb dX1_isStruckAt_7 ?_
  refine lv_if_eq (tgt := 15) hx hb dX1_isStruckAt_8 (by decide) (fun c1 => ?_) (fun c1 => ?_)
  · have h := cz_ite_t c1 h
    refine lv_iconst (v := nI 0) hx hb dX1_isStruckAt_15 (by decide) ?_
    exact cz_retp X hM h rfl dX1_isStruckAt_16
  · have h := cz_ite_f c1 h
    refine lv_iconst (v := nI 1) hx hb dX1_isStruckAt_11 (by decide) ?_
    refine lv_goto (tgt := 16) hx hb dX1_isStruckAt_12 (by decide) ?_
    exact cz_retp X hM h rfl dX1_isStruckAt_16
theorem mv_J6_bitCount_0f7a4 : cz_MS yJ6_bitCount_0f7a4 cJ6_bitCount_0f7a4 1 (some .int) 1 := ⟨mt_J6_bitCount_0f7a4, mc_J6_bitCount_0f7a4, ini_J6, by decide +kernel⟩
set_option maxHeartbeats 4000000 in
set_option maxRecDepth 100000 in
theorem c_J6_bitCount_0f7a4 {l : Launch} {g : cz_G} {b : Nat} {M : cz_M} {r0 : Int32} {x0 : Int32}  (h : f_J6_bitCount_0f7a4 x0 = some r0) : cz_C l yJ6_bitCount_0f7a4 cJ6_bitCount_0f7a4 1 (some .int) 0 0 g b [.int x0] M (some (.int r0)) M := by
  refine cz_start (by decide) (Nat.le_of_ble_eq_true rfl) (fun p e s m args below meth c X H ls hM hl => ?_)
  have X : cz_X p s m args meth c cJ6_bitCount_0f7a4 1 RJ6 g b (some .int) := X
  obtain ⟨hx, hb, -, ho, ht, -⟩ := id X
  have hRf : 0 ≤ ({ frames := 0, cells := 0, slots := 0, locals := 0 } : Room).frames := Nat.le_refl _
  have hRl : 0 ≤ ({ frames := 0, cells := 0, slots := 0, locals := 0 } : Room).locals := Nat.le_refl _
  have hl : lv_has ls 1 [(0, .int x0)] := hl
  rw [f_J6_bitCount_0f7a4] at h
  refine lv_iload_n hx hb dJ6_bitCount_0f7a4_0 rfl (lv_at hl 0 rfl) ?_
  refine lv_iload_n hx hb dJ6_bitCount_0f7a4_1 rfl (lv_at hl 0 rfl) ?_
  refine lv_iconst (v := nI 1) hx hb dJ6_bitCount_0f7a4_2 (by decide) ?_
  refine lv_iushr (v := cz_us x0 (nI 1)) hx hb dJ6_bitCount_0f7a4_3 rfl ?_
  refine lv_ldcw hx hb ho (ht _ lc_J6_265) dJ6_bitCount_0f7a4_4 ?_
  refine lv_iand hx hb dJ6_bitCount_0f7a4_7 ?_
  refine lv_isub hx hb dJ6_bitCount_0f7a4_8 ?_
  refine cz_nmi h (fun v1 h => ?_)
  refine lv_istore_n (lv' := [(0, .int v1)]) hx hb dJ6_bitCount_0f7a4_9 rfl hl (by decide) rfl (fun ls hl => ?_)
  refine lv_iload_n hx hb dJ6_bitCount_0f7a4_10 rfl (lv_at hl 0 rfl) ?_
  refine lv_ldcw hx hb ho (ht _ lc_J6_266) dJ6_bitCount_0f7a4_11 ?_
  refine lv_iand hx hb dJ6_bitCount_0f7a4_14 ?_
  refine lv_iload_n hx hb dJ6_bitCount_0f7a4_15 rfl (lv_at hl 0 rfl) ?_
  refine lv_iconst (v := nI 2) hx hb dJ6_bitCount_0f7a4_16 (by decide) ?_
  refine lv_iushr (v := cz_us v1 (nI 2)) hx hb dJ6_bitCount_0f7a4_17 rfl ?_
  refine lv_ldcw hx hb ho (ht _ lc_J6_266) dJ6_bitCount_0f7a4_18 ?_
  refine lv_iand hx hb dJ6_bitCount_0f7a4_21 ?_
  refine lv_iadd hx hb dJ6_bitCount_0f7a4_22 ?_
  refine cz_nmi h (fun v2 h => ?_)
  refine lv_istore_n (lv' := [(0, .int v2)]) hx hb dJ6_bitCount_0f7a4_23 rfl hl (by decide) rfl (fun ls hl => ?_)
  refine lv_iload_n hx hb dJ6_bitCount_0f7a4_24 rfl (lv_at hl 0 rfl) ?_
  refine lv_iload_n hx hb dJ6_bitCount_0f7a4_25 rfl (lv_at hl 0 rfl) ?_
  refine lv_iconst (v := nI 4) hx hb dJ6_bitCount_0f7a4_26 (by decide) ?_
  refine lv_iushr (v := cz_us v2 (nI 4)) hx hb dJ6_bitCount_0f7a4_27 rfl ?_
  refine lv_iadd hx hb dJ6_bitCount_0f7a4_28 ?_
  refine lv_ldcw hx hb ho (ht _ lc_J6_267) dJ6_bitCount_0f7a4_29 ?_
  refine lv_iand hx hb dJ6_bitCount_0f7a4_32 ?_
  refine cz_nmi h (fun v3 h => ?_)
  refine lv_istore_n (lv' := [(0, .int v3)]) hx hb dJ6_bitCount_0f7a4_33 rfl hl (by decide) rfl (fun ls hl => ?_)
  refine lv_iload_n hx hb dJ6_bitCount_0f7a4_34 rfl (lv_at hl 0 rfl) ?_
  refine lv_iload_n hx hb dJ6_bitCount_0f7a4_35 rfl (lv_at hl 0 rfl) ?_
  refine lv_bipush (v := nI 8) hx hb dJ6_bitCount_0f7a4_36 (by decide) ?_
  refine lv_iushr (v := cz_us v3 (nI 8)) hx hb dJ6_bitCount_0f7a4_38 rfl ?_
  refine lv_iadd hx hb dJ6_bitCount_0f7a4_39 ?_
  refine cz_nmi h (fun v4 h => ?_)
  refine lv_istore_n (lv' := [(0, .int v4)]) hx hb dJ6_bitCount_0f7a4_40 rfl hl (by decide) rfl (fun ls hl => ?_)
  refine lv_iload_n hx hb dJ6_bitCount_0f7a4_41 rfl (lv_at hl 0 rfl) ?_
  refine lv_iload_n hx hb dJ6_bitCount_0f7a4_42 rfl (lv_at hl 0 rfl) ?_
  refine lv_bipush (v := nI 16) hx hb dJ6_bitCount_0f7a4_43 (by decide) ?_
  refine lv_iushr (v := cz_us v4 (nI 16)) hx hb dJ6_bitCount_0f7a4_45 rfl ?_
  refine lv_iadd hx hb dJ6_bitCount_0f7a4_46 ?_
  refine cz_nmi h (fun v5 h => ?_)
  refine lv_istore_n (lv' := [(0, .int v5)]) hx hb dJ6_bitCount_0f7a4_47 rfl hl (by decide) rfl (fun ls hl => ?_)
  refine lv_iload_n hx hb dJ6_bitCount_0f7a4_48 rfl (lv_at hl 0 rfl) ?_
  refine lv_bipush (v := nI 63) hx hb dJ6_bitCount_0f7a4_49 (by decide) ?_
  refine lv_iand hx hb dJ6_bitCount_0f7a4_51 ?_
  exact cz_retp X hM h rfl dJ6_bitCount_0f7a4_52
theorem mv_X1_struckCount : cz_MV yX1_struckCount cX1_struckCount 1 (some .int) RX1 0 := ⟨mi_X1_struckCount, ms_X1_struckCount, mc_X1_struckCount, ini_X1, by decide +kernel⟩
set_option maxHeartbeats 4000000 in
set_option maxRecDepth 100000 in
theorem c_X1_struckCount {l : Launch} {g : cz_G} {b : Nat} {M : cz_M} {r0 : Int32} {a : Nat} (ka : cz_K b a 1) (h : f_X1_struckCount M a = some r0) : cz_C l yX1_struckCount cX1_struckCount 1 (some .int) 1 20 g b [.ref a] M (some (.int r0)) M := by
  refine cz_start (by decide) (Nat.le_of_ble_eq_true rfl) (fun p e s m args below meth c X H ls hM hl => ?_)
  have X : cz_X p s m args meth c cX1_struckCount 1 RX1 g b (some .int) := X
  obtain ⟨hx, hb, -, ho, ht, -⟩ := id X
  have hRf : 1 ≤ ({ frames := 1, cells := 0, slots := 0, locals := 20 } : Room).frames := Nat.le_refl _
  have hRl : 20 ≤ ({ frames := 1, cells := 0, slots := 0, locals := 20 } : Room).locals := Nat.le_refl _
  have hl : lv_has ls 1 [(0, .ref a)] := hl
  rw [f_X1_struckCount] at h
  refine lv_aload_n hx hb dX1_struckCount_0 rfl (lv_at hl 0 rfl) ?_
  refine cz_getI X hM ff_X1_8 ka lk_X1_37 dX1_struckCount_1 ?_
  obtain ⟨v1, hq, h⟩ := cz_bd_t h
  refine cz_runS (rest := []) (As := [.int (M.1 a 8)]) X hM hl.1 (c_J6_bitCount_0f7a4 (l := l) (g := g) (b := b)  hq) mv_J6_bitCount_0f7a4 ml_X1_43 ⟨Nat.le_trans (Nat.le_of_ble_eq_true rfl) hRf, Nat.le_trans (Nat.le_of_ble_eq_true rfl) hRl⟩ rfl rfl (Nat.le_of_ble_eq_true rfl) dX1_struckCount_4 (fun H locs hM => ?_)
  exact cz_retp X hM h rfl dX1_struckCount_7
theorem mv_X1_placesOf : cz_MV yX1_placesOf cX1_placesOf 7 (some .int) RX1 1 := ⟨mi_X1_placesOf, ms_X1_placesOf, mc_X1_placesOf, ini_X1, by decide +kernel⟩
set_option maxHeartbeats 4000000 in
set_option maxRecDepth 100000 in
theorem w_X1_placesOf_L10 {p : Program} {l : Launch} {e : Env} {R : Room} {s : State} {m : MethodId} {args : Array Value} {below : List Frame} {meth : Method} {c : Code} {g : cz_G} {b : Nat} (X : cz_X p s m args meth c cX1_placesOf 7 RX1 g b (some .int)) (hRf : 0 ≤ R.frames) (hRl : 0 ≤ R.locals) {r0 : Int32} {a0 : Nat} {x1 : Int32} {M : cz_M} (ka0 : cz_K b a0 1)
    (K : Int32 → Int64 → Int32 → Option (Int32)) (hX : ∀ (x2 : Int32) (x3 : Int64) (x5 : Int32)  (H : Heap) (locs : List Loc) (ls : Array Slot), K x2 x3 x5 = some r0 → cz_WS g b M s H locs → lv_has ls 7 [(0, .ref a0), (1, .int x1), (2, .int x2), (3, .long x3), (5, .int x5)] → W p l e R s m args below meth c H locs 0 0 (MQ below (cz_Q g b (some (.int r0)) M) args s 0 0 (cz_Ar b)) (F0 m 57 ls [])) :
    ∀ (n : Nat) (x2 : Int32) (x3 : Int64) (x5 : Int32)  (H : Heap) (locs : List Loc) (ls : Array Slot), cz_it3 (f_X1_placesOf_L10 a0 x1 M K) n x2 x3 x5 = some r0 → cz_WS g b M s H locs → lv_has ls 7 [(0, .ref a0), (1, .int x1), (2, .int x2), (3, .long x3), (5, .int x5)] → W p l e R s m args below meth c H locs 0 0 (MQ below (cz_Q g b (some (.int r0)) M) args s 0 0 (cz_Ar b)) (F0 m 10 ls []) := by
  obtain ⟨hx, hb, -, ho, ht, -⟩ := id X
  intro n
  induction n with
  | zero => intro x2 x3 x5 H locs ls h; cases (show none = some _ from h)
  | succ n ih =>
    intro x2 x3 x5 H locs ls h hM hl
    have h : f_X1_placesOf_L10 a0 x1 M K (cz_it3 (f_X1_placesOf_L10 a0 x1 M K) n) x2 x3 x5 = some r0 := h
    rw [f_X1_placesOf_L10] at h
    refine lv_iload hx hb dX1_placesOf_10 (lv_at hl 4 rfl) ?_
    refine lv_aload_n hx hb dX1_placesOf_12 rfl (lv_at hl 0 rfl) ?_
    refine cz_getI X hM ff_X1_3 ka0 lk_X1_22 dX1_placesOf_13 ?_
    refine lv_icmp_ge (tgt := 57) hx hb dX1_placesOf_16 (by decide) (fun c2 => ?_) (fun c2 => ?_)
    · have h := cz_ite_t c2 h
      exact hX _ _ _ _ _ _ h hM (lv_sub hl [0, 1, 2, 3, 4] rfl)
    · have h := cz_ite_f c2 h
      refine lv_lload_n hx hb dX1_placesOf_19 rfl (lv_at hl 3 rfl) ?_
      refine lv_ldc2 hx hb ho (ht _ lc_X1_49) dX1_placesOf_20 ?_
      refine lv_land hx hb dX1_placesOf_23 ?_
      refine lv_l2i (v := Int64.toInt32 (x3 &&& (255 : Int64))) hx hb dX1_placesOf_24 rfl ?_
      refine lv_bipush (v := nI 97) hx hb dX1_placesOf_25 (by decide) ?_
      refine lv_isub hx hb dX1_placesOf_27 ?_
      refine cz_nmi h (fun v3 h => ?_)
      refine lv_istore (lv' := [(6, .int v3), (0, .ref a0), (1, .int x1), (2, .int x2), (3, .long x3), (5, .int x5)]) hx hb dX1_placesOf_28 hl (by decide) rfl (fun ls hl => ?_)
      refine lv_iload_n hx hb dX1_placesOf_30 rfl (lv_at hl 2 rfl) ?_
      refine lv_iload hx hb dX1_placesOf_31 (lv_at hl 0 rfl) ?_
      refine lv_iushr (v := cz_us x1 v3) hx hb dX1_placesOf_33 rfl ?_
      refine lv_iconst (v := nI 1) hx hb dX1_placesOf_34 (by decide) ?_
      refine lv_iand hx hb dX1_placesOf_35 ?_
      refine lv_if_eq (tgt := 46) hx hb dX1_placesOf_36 (by decide) (fun c4 => ?_) (fun c4 => ?_)
      · have h := cz_ite_t c4 h
        refine lv_lload_n hx hb dX1_placesOf_46 rfl (lv_at hl 4 rfl) ?_
        refine lv_bipush (v := nI 8) hx hb dX1_placesOf_47 (by decide) ?_
        refine lv_lushr (v := cz_usl x3 (nI 8)) hx hb dX1_placesOf_49 rfl ?_
        refine cz_nml h (fun v5 h => ?_)
        refine lv_lstore_n (lv' := [(3, .long v5), (6, .int v3), (0, .ref a0), (1, .int x1), (2, .int x2), (5, .int x5)]) hx hb dX1_placesOf_50 rfl hl (by decide) rfl (fun ls hl => ?_)
        refine cz_nmL (v := x5 + nI 1) h (fun v6 e7 h => ?_)
        refine lv_iinc (v := v6) (lv' := [(5, .int v6), (3, .long v5), (6, .int v3), (0, .ref a0), (1, .int x1), (2, .int x2)]) hx hb dX1_placesOf_51 hl (k := 5) rfl (by rw [e7]; rfl) (by decide) rfl (fun ls hl => ?_)
        refine lv_goto (tgt := 10) hx hb dX1_placesOf_54 (by decide) ?_
        exact ih _ _ _ _ _ _ h hM (lv_sub hl [3, 4, 5, 1, 0] rfl)
      · have h := cz_ite_f c4 h
        refine lv_iload_n hx hb dX1_placesOf_39 rfl (lv_at hl 3 rfl) ?_
        refine lv_iconst (v := nI 1) hx hb dX1_placesOf_40 (by decide) ?_
        refine lv_iload hx hb dX1_placesOf_41 (lv_at hl 5 rfl) ?_
        refine lv_ishl hx hb dX1_placesOf_43 ?_
        refine lv_ior hx hb dX1_placesOf_44 ?_
        refine cz_nmi h (fun v8 h => ?_)
        refine lv_istore_n (lv' := [(2, .int v8), (6, .int v3), (0, .ref a0), (1, .int x1), (3, .long x3), (5, .int x5)]) hx hb dX1_placesOf_45 rfl hl (by decide) rfl (fun ls hl => ?_)
        refine lv_lload_n hx hb dX1_placesOf_46 rfl (lv_at hl 4 rfl) ?_
        refine lv_bipush (v := nI 8) hx hb dX1_placesOf_47 (by decide) ?_
        refine lv_lushr (v := cz_usl x3 (nI 8)) hx hb dX1_placesOf_49 rfl ?_
        refine cz_nml h (fun v9 h => ?_)
        refine lv_lstore_n (lv' := [(3, .long v9), (2, .int v8), (6, .int v3), (0, .ref a0), (1, .int x1), (5, .int x5)]) hx hb dX1_placesOf_50 rfl hl (by decide) rfl (fun ls hl => ?_)
        refine cz_nmL (v := x5 + nI 1) h (fun v10 e11 h => ?_)
        refine lv_iinc (v := v10) (lv' := [(5, .int v10), (3, .long v9), (2, .int v8), (6, .int v3), (0, .ref a0), (1, .int x1)]) hx hb dX1_placesOf_51 hl (k := 5) rfl (by rw [e11]; rfl) (by decide) rfl (fun ls hl => ?_)
        refine lv_goto (tgt := 10) hx hb dX1_placesOf_54 (by decide) ?_
        exact ih _ _ _ _ _ _ h hM (lv_sub hl [4, 5, 2, 1, 0] rfl)
set_option maxHeartbeats 4000000 in
set_option maxRecDepth 100000 in
theorem c_X1_placesOf {l : Launch} {g : cz_G} {b : Nat} {M : cz_M} {r0 : Int32} {a : Nat} {x1 : Int32} (ka : cz_K b a 1) (h : f_X1_placesOf M a x1 = some r0) : cz_C l yX1_placesOf cX1_placesOf 7 (some .int) 0 0 g b [.ref a, .int x1] M (some (.int r0)) M := by
  refine cz_start (by decide) (Nat.le_of_ble_eq_true rfl) (fun p e s m args below meth c X H ls hM hl => ?_)
  have X : cz_X p s m args meth c cX1_placesOf 7 RX1 g b (some .int) := X
  obtain ⟨hx, hb, -, ho, ht, -⟩ := id X
  have hRf : 0 ≤ ({ frames := 0, cells := 0, slots := 0, locals := 0 } : Room).frames := Nat.le_refl _
  have hRl : 0 ≤ ({ frames := 0, cells := 0, slots := 0, locals := 0 } : Room).locals := Nat.le_refl _
  have hl : lv_has ls 7 [(0, .ref a), (1, .int x1)] := hl
  rw [f_X1_placesOf] at h
  refine lv_iconst (v := nI 0) hx hb dX1_placesOf_0 (by decide) ?_
  refine lv_istore_n (lv' := [(2, .int (nI 0)), (0, .ref a), (1, .int x1)]) hx hb dX1_placesOf_1 rfl hl (by decide) rfl (fun ls hl => ?_)
  refine lv_aload_n hx hb dX1_placesOf_2 rfl (lv_at hl 1 rfl) ?_
  refine cz_getL X hM ff_X1_2 ka lk_X1_18 dX1_placesOf_3 ?_
  refine cz_nml h (fun v1 h => ?_)
  refine lv_lstore_n (lv' := [(3, .long v1), (2, .int (nI 0)), (0, .ref a), (1, .int x1)]) hx hb dX1_placesOf_6 rfl hl (by decide) rfl (fun ls hl => ?_)
  refine lv_iconst (v := nI 0) hx hb dX1_placesOf_7 (by decide) ?_
  refine lv_istore (lv' := [(5, .int (nI 0)), (3, .long v1), (2, .int (nI 0)), (0, .ref a), (1, .int x1)]) hx hb dX1_placesOf_8 hl (by decide) rfl (fun ls hl => ?_)
  refine w_X1_placesOf_L10 X hRf hRl ka _ (fun y12 y13 y14 H locs ls h hM hl => ?_) _ _ _ _ _ _ _ h hM (lv_sub hl [3, 4, 2, 1, 0] rfl)
  refine lv_iload_n hx hb dX1_placesOf_57 rfl (lv_at hl 2 rfl) ?_
  exact cz_retp X hM h rfl dX1_placesOf_58
theorem mv_X3_copyFrom : cz_MV yX3_copyFrom cX3_copyFrom 2 none RX3 1 := ⟨mi_X3_copyFrom, ms_X3_copyFrom, mc_X3_copyFrom, ini_X3, by decide +kernel⟩
set_option maxHeartbeats 4000000 in
set_option maxRecDepth 100000 in
theorem c_X3_copyFrom {l : Launch} {g : cz_G} {b : Nat} {M : cz_M} {M9 : cz_M} {a : Nat} {a1 : Nat} (ka : cz_K b a 3) (ka1 : cz_K b a1 3) (h : f_X3_copyFrom M a a1 = some M9) : cz_C l yX3_copyFrom cX3_copyFrom 2 none 1 48 g b [.ref a, .ref a1] M none M9 := by
  refine cz_start (by decide) (Nat.le_of_ble_eq_true rfl) (fun p e s m args below meth c X H ls hM hl => ?_)
  have X : cz_X p s m args meth c cX3_copyFrom 2 RX3 g b none := X
  obtain ⟨hx, hb, -, ho, ht, -⟩ := id X
  have hRf : 1 ≤ ({ frames := 1, cells := 0, slots := 0, locals := 48 } : Room).frames := Nat.le_refl _
  have hRl : 48 ≤ ({ frames := 1, cells := 0, slots := 0, locals := 48 } : Room).locals := Nat.le_refl _
  have hl : lv_has ls 2 [(0, .ref a), (1, .ref a1)] := hl
  rw [f_X3_copyFrom] at h
  refine lv_aload_n hx hb dX3_copyFrom_0 rfl (lv_at hl 0 rfl) ?_
  refine lv_aload_n hx hb dX3_copyFrom_1 rfl (lv_at hl 1 rfl) ?_
  refine cz_getI X hM ff_X3_1 ka1 lk_X3_15 dX3_copyFrom_2 ?_
  refine cz_putI X hM h ff_X3_1 ka lk_X3_15 dX3_copyFrom_5 (fun M1 H locs h hM => ?_)
  refine lv_aload_n hx hb dX3_copyFrom_8 rfl (lv_at hl 1 rfl) ?_
  refine cz_getR X hM ff_X3_0 ka1 lk_X3_9 dX3_copyFrom_9 (fun hk2 => ?_)
  refine lv_iconst (v := nI 0) hx hb dX3_copyFrom_12 (by decide) ?_
  refine lv_aload_n hx hb dX3_copyFrom_13 rfl (lv_at hl 0 rfl) ?_
  refine cz_getR X hM ff_X3_0 ka lk_X3_9 dX3_copyFrom_14 (fun hk3 => ?_)
  refine lv_iconst (v := nI 0) hx hb dX3_copyFrom_17 (by decide) ?_
  refine lv_aload_n hx hb dX3_copyFrom_18 rfl (lv_at hl 0 rfl) ?_
  refine cz_getI X hM ff_X3_1 ka lk_X3_15 dX3_copyFrom_19 ?_
  refine cz_copy (n0 := 40) (n1 := 40) X hM hl.1 h hk2 hk3 (by decide) (by decide) ml_X3_19 (Nat.le_trans (Nat.le_of_ble_eq_true rfl) hRf) (Nat.le_trans (Nat.le_of_ble_eq_true rfl) hRl) dX3_copyFrom_22 (fun M4 H locs h hM => ?_)
  exact cz_retv X hM h dX3_copyFrom_25
theorem mv_X2_copyFrom : cz_MV yX2_copyFrom cX2_copyFrom 3 none RX2 1 := ⟨mi_X2_copyFrom, ms_X2_copyFrom, mc_X2_copyFrom, ini_X2, by decide +kernel⟩
set_option maxHeartbeats 4000000 in
set_option maxRecDepth 100000 in
theorem w_X2_copyFrom_L31 {p : Program} {l : Launch} {e : Env} {R : Room} {s : State} {m : MethodId} {args : Array Value} {below : List Frame} {meth : Method} {c : Code} {g : cz_G} {b : Nat} (X : cz_X p s m args meth c cX2_copyFrom 3 RX2 g b none) (hRf : 2 ≤ R.frames) (hRl : 69 ≤ R.locals) {M9 : cz_M} {a0 : Nat} {a1 : Nat} (ka0 : cz_K b a0 2) (ka1 : cz_K b a1 2)
    (K : Int32 → cz_M → Option (cz_M)) (hX : ∀ (x2 : Int32)  (M : cz_M) (H : Heap) (locs : List Loc) (ls : Array Slot), K x2 M = some M9 → cz_WS g b M s H locs → lv_has ls 3 [(0, .ref a0), (1, .ref a1), (2, .int x2)] → W p l e R s m args below meth c H locs 0 0 (MQ below (cz_Q g b none M9) args s 0 0 (cz_Ar b)) (F0 m 57 ls [])) :
    ∀ (n : Nat) (x2 : Int32)  (M : cz_M) (H : Heap) (locs : List Loc) (ls : Array Slot), cz_it2 (f_X2_copyFrom_L31 a0 a1 K) n x2 M = some M9 → cz_WS g b M s H locs → lv_has ls 3 [(0, .ref a0), (1, .ref a1), (2, .int x2)] → W p l e R s m args below meth c H locs 0 0 (MQ below (cz_Q g b none M9) args s 0 0 (cz_Ar b)) (F0 m 31 ls []) := by
  obtain ⟨hx, hb, -, ho, ht, -⟩ := id X
  intro n
  induction n with
  | zero => intro x2 M H locs ls h; cases (show none = some _ from h)
  | succ n ih =>
    intro x2 M H locs ls h hM hl
    have h : f_X2_copyFrom_L31 a0 a1 K (cz_it2 (f_X2_copyFrom_L31 a0 a1 K) n) x2 M = some M9 := h
    rw [f_X2_copyFrom_L31] at h
    refine lv_iload_n hx hb dX2_copyFrom_31 rfl (lv_at hl 2 rfl) ?_
    refine lv_iconst (v := nI 4) hx hb dX2_copyFrom_32 (by decide) ?_
    refine lv_icmp_ge (tgt := 57) hx hb dX2_copyFrom_33 (by decide) (fun c7 => ?_) (fun c7 => ?_)
    · have h := cz_ite_t c7 h
      exact hX _ _ _ _ _ h hM (lv_sub hl [0, 1, 2] rfl)
    · have h := cz_ite_f c7 h
      refine lv_aload_n hx hb dX2_copyFrom_36 rfl (lv_at hl 0 rfl) ?_
      refine cz_getR X hM ff_X2_1 ka0 lk_X2_17 dX2_copyFrom_37 (fun hk8 => ?_)
      refine lv_iload_n hx hb dX2_copyFrom_40 rfl (lv_at hl 2 rfl) ?_
      refine cz_aald0 X hM h hk8 dX2_copyFrom_41 (fun h hk9 => ?_)
      refine lv_aload_n hx hb dX2_copyFrom_42 rfl (lv_at hl 1 rfl) ?_
      refine cz_getR X hM ff_X2_1 ka1 lk_X2_17 dX2_copyFrom_43 (fun hk10 => ?_)
      refine lv_iload_n hx hb dX2_copyFrom_46 rfl (lv_at hl 2 rfl) ?_
      refine cz_aald0 X hM h hk10 dX2_copyFrom_47 (fun h hk11 => ?_)
      obtain ⟨M12, hq, h⟩ := cz_bd_t h
      refine cz_runV (rest := []) (As := [.ref ((a1 + 2) + (7 + Int32.toNatClampNeg x2))]) (T := TX0) (N0 := 4) X hM hl.1 (c_X0_copyFrom (l := l) (g := g) (b := b) hk9 hk11 hq) mv_X0_copyFrom rfl (by decide) hk9 ml_X2_52 ⟨Nat.le_trans (Nat.le_of_ble_eq_true rfl) hRf, Nat.le_trans (Nat.le_of_ble_eq_true rfl) hRl⟩ rfl rfl (Nat.le_of_ble_eq_true rfl) dX2_copyFrom_48 (fun H locs hM => ?_)
      refine cz_nmL (v := x2 + nI 1) h (fun v13 e14 h => ?_)
      refine lv_iinc (v := v13) (lv' := [(2, .int v13), (0, .ref a0), (1, .ref a1)]) hx hb dX2_copyFrom_51 hl (k := 2) rfl (by rw [e14]; rfl) (by decide) rfl (fun ls hl => ?_)
      refine lv_goto (tgt := 31) hx hb dX2_copyFrom_54 (by decide) ?_
      exact ih _ _ _ _ _ h hM (lv_sub hl [1, 2, 0] rfl)
set_option maxHeartbeats 4000000 in
set_option maxRecDepth 100000 in
theorem w_X2_copyFrom_L59 {p : Program} {l : Launch} {e : Env} {R : Room} {s : State} {m : MethodId} {args : Array Value} {below : List Frame} {meth : Method} {c : Code} {g : cz_G} {b : Nat} (X : cz_X p s m args meth c cX2_copyFrom 3 RX2 g b none) (hRf : 2 ≤ R.frames) (hRl : 69 ≤ R.locals) {M9 : cz_M} {a0 : Nat} {a1 : Nat} (ka0 : cz_K b a0 2) (ka1 : cz_K b a1 2)
    (K : Int32 → cz_M → Option (cz_M)) (hX : ∀ (x2 : Int32)  (M : cz_M) (H : Heap) (locs : List Loc) (ls : Array Slot), K x2 M = some M9 → cz_WS g b M s H locs → lv_has ls 3 [(0, .ref a0), (1, .ref a1), (2, .int x2)] → W p l e R s m args below meth c H locs 0 0 (MQ below (cz_Q g b none M9) args s 0 0 (cz_Ar b)) (F0 m 88 ls [])) :
    ∀ (n : Nat) (x2 : Int32)  (M : cz_M) (H : Heap) (locs : List Loc) (ls : Array Slot), cz_it2 (f_X2_copyFrom_L59 a0 a1 K) n x2 M = some M9 → cz_WS g b M s H locs → lv_has ls 3 [(0, .ref a0), (1, .ref a1), (2, .int x2)] → W p l e R s m args below meth c H locs 0 0 (MQ below (cz_Q g b none M9) args s 0 0 (cz_Ar b)) (F0 m 59 ls []) := by
  obtain ⟨hx, hb, -, ho, ht, -⟩ := id X
  intro n
  induction n with
  | zero => intro x2 M H locs ls h; cases (show none = some _ from h)
  | succ n ih =>
    intro x2 M H locs ls h hM hl
    have h : f_X2_copyFrom_L59 a0 a1 K (cz_it2 (f_X2_copyFrom_L59 a0 a1 K) n) x2 M = some M9 := h
    rw [f_X2_copyFrom_L59] at h
    refine lv_iload_n hx hb dX2_copyFrom_59 rfl (lv_at hl 2 rfl) ?_
    refine lv_aload_n hx hb dX2_copyFrom_60 rfl (lv_at hl 1 rfl) ?_
    refine cz_getI X hM ff_X2_7 ka1 lk_X2_56 dX2_copyFrom_61 ?_
    refine lv_icmp_ge (tgt := 88) hx hb dX2_copyFrom_64 (by decide) (fun c17 => ?_) (fun c17 => ?_)
    · have h := cz_ite_t c17 h
      exact hX _ _ _ _ _ h hM (lv_sub hl [0, 1, 2] rfl)
    · have h := cz_ite_f c17 h
      refine lv_aload_n hx hb dX2_copyFrom_67 rfl (lv_at hl 0 rfl) ?_
      refine cz_getR X hM ff_X2_3 ka0 lk_X2_26 dX2_copyFrom_68 (fun hk18 => ?_)
      refine lv_iload_n hx hb dX2_copyFrom_71 rfl (lv_at hl 2 rfl) ?_
      refine cz_aald1 X hM h hk18 dX2_copyFrom_72 (fun h hk19 => ?_)
      refine lv_aload_n hx hb dX2_copyFrom_73 rfl (lv_at hl 1 rfl) ?_
      refine cz_getR X hM ff_X2_3 ka1 lk_X2_26 dX2_copyFrom_74 (fun hk20 => ?_)
      refine lv_iload_n hx hb dX2_copyFrom_77 rfl (lv_at hl 2 rfl) ?_
      refine cz_aald1 X hM h hk20 dX2_copyFrom_78 (fun h hk21 => ?_)
      obtain ⟨M22, hq, h⟩ := cz_bd_t h
      refine cz_runV (rest := []) (As := [.ref ((a1 + 4) + (9 + Int32.toNatClampNeg x2))]) (T := TX1) (N0 := 11) X hM hl.1 (c_X1_copyFrom (l := l) (g := g) (b := b) hk19 hk21 hq) mv_X1_copyFrom rfl (by decide) hk19 ml_X2_60 ⟨Nat.le_trans (Nat.le_of_ble_eq_true rfl) hRf, Nat.le_trans (Nat.le_of_ble_eq_true rfl) hRl⟩ rfl rfl (Nat.le_of_ble_eq_true rfl) dX2_copyFrom_79 (fun H locs hM => ?_)
      refine cz_nmL (v := x2 + nI 1) h (fun v23 e24 h => ?_)
      refine lv_iinc (v := v23) (lv' := [(2, .int v23), (0, .ref a0), (1, .ref a1)]) hx hb dX2_copyFrom_82 hl (k := 2) rfl (by rw [e24]; rfl) (by decide) rfl (fun ls hl => ?_)
      refine lv_goto (tgt := 59) hx hb dX2_copyFrom_85 (by decide) ?_
      exact ih _ _ _ _ _ h hM (lv_sub hl [1, 2, 0] rfl)
set_option maxHeartbeats 4000000 in
set_option maxRecDepth 100000 in
theorem w_X2_copyFrom_L90 {p : Program} {l : Launch} {e : Env} {R : Room} {s : State} {m : MethodId} {args : Array Value} {below : List Frame} {meth : Method} {c : Code} {g : cz_G} {b : Nat} (X : cz_X p s m args meth c cX2_copyFrom 3 RX2 g b none) (hRf : 2 ≤ R.frames) (hRl : 69 ≤ R.locals) {M9 : cz_M} {a0 : Nat} {a1 : Nat} (ka0 : cz_K b a0 2) (ka1 : cz_K b a1 2)
    (K : Int32 → cz_M → Option (cz_M)) (hX : ∀ (x2 : Int32)  (M : cz_M) (H : Heap) (locs : List Loc) (ls : Array Slot), K x2 M = some M9 → cz_WS g b M s H locs → lv_has ls 3 [(0, .ref a0), (1, .ref a1), (2, .int x2)] → W p l e R s m args below meth c H locs 0 0 (MQ below (cz_Q g b none M9) args s 0 0 (cz_Ar b)) (F0 m 116 ls [])) :
    ∀ (n : Nat) (x2 : Int32)  (M : cz_M) (H : Heap) (locs : List Loc) (ls : Array Slot), cz_it2 (f_X2_copyFrom_L90 a0 a1 K) n x2 M = some M9 → cz_WS g b M s H locs → lv_has ls 3 [(0, .ref a0), (1, .ref a1), (2, .int x2)] → W p l e R s m args below meth c H locs 0 0 (MQ below (cz_Q g b none M9) args s 0 0 (cz_Ar b)) (F0 m 90 ls []) := by
  obtain ⟨hx, hb, -, ho, ht, -⟩ := id X
  intro n
  induction n with
  | zero => intro x2 M H locs ls h; cases (show none = some _ from h)
  | succ n ih =>
    intro x2 M H locs ls h hM hl
    have h : f_X2_copyFrom_L90 a0 a1 K (cz_it2 (f_X2_copyFrom_L90 a0 a1 K) n) x2 M = some M9 := h
    rw [f_X2_copyFrom_L90] at h
    refine lv_iload_n hx hb dX2_copyFrom_90 rfl (lv_at hl 2 rfl) ?_
    refine lv_iconst (v := nI 2) hx hb dX2_copyFrom_91 (by decide) ?_
    refine lv_icmp_ge (tgt := 116) hx hb dX2_copyFrom_92 (by decide) (fun c27 => ?_) (fun c27 => ?_)
    · have h := cz_ite_t c27 h
      exact hX _ _ _ _ _ h hM (lv_sub hl [0, 1, 2] rfl)
    · have h := cz_ite_f c27 h
      refine lv_aload_n hx hb dX2_copyFrom_95 rfl (lv_at hl 0 rfl) ?_
      refine cz_getR X hM ff_X2_4 ka0 lk_X2_32 dX2_copyFrom_96 (fun hk28 => ?_)
      refine lv_iload_n hx hb dX2_copyFrom_99 rfl (lv_at hl 2 rfl) ?_
      refine cz_aald2 X hM h hk28 dX2_copyFrom_100 (fun h hk29 => ?_)
      refine lv_aload_n hx hb dX2_copyFrom_101 rfl (lv_at hl 1 rfl) ?_
      refine cz_getR X hM ff_X2_4 ka1 lk_X2_32 dX2_copyFrom_102 (fun hk30 => ?_)
      refine lv_iload_n hx hb dX2_copyFrom_105 rfl (lv_at hl 2 rfl) ?_
      refine cz_aald2 X hM h hk30 dX2_copyFrom_106 (fun h hk31 => ?_)
      obtain ⟨M32, hq, h⟩ := cz_bd_t h
      refine cz_runV (rest := []) (As := [.ref ((a1 + 5) + (48 + 2 * Int32.toNatClampNeg x2))]) (T := TX3) (N0 := 2) X hM hl.1 (c_X3_copyFrom (l := l) (g := g) (b := b) hk29 hk31 hq) mv_X3_copyFrom rfl (by decide) hk29 ml_X2_63 ⟨Nat.le_trans (Nat.le_of_ble_eq_true rfl) hRf, Nat.le_trans (Nat.le_of_ble_eq_true rfl) hRl⟩ rfl rfl (Nat.le_of_ble_eq_true rfl) dX2_copyFrom_107 (fun H locs hM => ?_)
      refine cz_nmL (v := x2 + nI 1) h (fun v33 e34 h => ?_)
      refine lv_iinc (v := v33) (lv' := [(2, .int v33), (0, .ref a0), (1, .ref a1)]) hx hb dX2_copyFrom_110 hl (k := 2) rfl (by rw [e34]; rfl) (by decide) rfl (fun ls hl => ?_)
      refine lv_goto (tgt := 90) hx hb dX2_copyFrom_113 (by decide) ?_
      exact ih _ _ _ _ _ h hM (lv_sub hl [1, 2, 0] rfl)
set_option maxHeartbeats 4000000 in
set_option maxRecDepth 100000 in
theorem c_X2_copyFrom {l : Launch} {g : cz_G} {b : Nat} {M : cz_M} {M9 : cz_M} {a : Nat} {a1 : Nat} (ka : cz_K b a 2) (ka1 : cz_K b a1 2) (h : f_X2_copyFrom M a a1 = some M9) : cz_C l yX2_copyFrom cX2_copyFrom 3 none 2 69 g b [.ref a, .ref a1] M none M9 := by
  refine cz_start (by decide) (Nat.le_of_ble_eq_true rfl) (fun p e s m args below meth c X H ls hM hl => ?_)
  have X : cz_X p s m args meth c cX2_copyFrom 3 RX2 g b none := X
  obtain ⟨hx, hb, -, ho, ht, -⟩ := id X
  have hRf : 2 ≤ ({ frames := 2, cells := 0, slots := 0, locals := 69 } : Room).frames := Nat.le_refl _
  have hRl : 69 ≤ ({ frames := 2, cells := 0, slots := 0, locals := 69 } : Room).locals := Nat.le_refl _
  have hl : lv_has ls 3 [(0, .ref a), (1, .ref a1)] := hl
  rw [f_X2_copyFrom] at h
  refine lv_aload_n hx hb dX2_copyFrom_0 rfl (lv_at hl 1 rfl) ?_
  refine cz_getR X hM ff_X2_0 ka1 lk_X2_9 dX2_copyFrom_1 (fun hk1 => ?_)
  refine lv_iconst (v := nI 0) hx hb dX2_copyFrom_4 (by decide) ?_
  refine lv_aload_n hx hb dX2_copyFrom_5 rfl (lv_at hl 0 rfl) ?_
  refine cz_getR X hM ff_X2_0 ka lk_X2_9 dX2_copyFrom_6 (fun hk2 => ?_)
  refine lv_iconst (v := nI 0) hx hb dX2_copyFrom_9 (by decide) ?_
  refine lv_iconst (v := nI 3) hx hb dX2_copyFrom_10 (by decide) ?_
  refine cz_copy (n0 := 3) (n1 := 3) X hM hl.1 h hk1 hk2 (by decide) (by decide) ml_X2_46 (Nat.le_trans (Nat.le_of_ble_eq_true rfl) hRf) (Nat.le_trans (Nat.le_of_ble_eq_true rfl) hRl) dX2_copyFrom_11 (fun M3 H locs h hM => ?_)
  refine lv_aload_n hx hb dX2_copyFrom_14 rfl (lv_at hl 1 rfl) ?_
  refine cz_getR X hM ff_X2_2 ka1 lk_X2_21 dX2_copyFrom_15 (fun hk4 => ?_)
  refine lv_iconst (v := nI 0) hx hb dX2_copyFrom_18 (by decide) ?_
  refine lv_aload_n hx hb dX2_copyFrom_19 rfl (lv_at hl 0 rfl) ?_
  refine cz_getR X hM ff_X2_2 ka lk_X2_21 dX2_copyFrom_20 (fun hk5 => ?_)
  refine lv_iconst (v := nI 0) hx hb dX2_copyFrom_23 (by decide) ?_
  refine lv_bipush (v := nI 8) hx hb dX2_copyFrom_24 (by decide) ?_
  refine cz_copy (n0 := 8) (n1 := 8) X hM hl.1 h hk4 hk5 (by decide) (by decide) ml_X2_46 (Nat.le_trans (Nat.le_of_ble_eq_true rfl) hRf) (Nat.le_trans (Nat.le_of_ble_eq_true rfl) hRl) dX2_copyFrom_26 (fun M6 H locs h hM => ?_)
  refine lv_iconst (v := nI 0) hx hb dX2_copyFrom_29 (by decide) ?_
  refine lv_istore_n (lv' := [(2, .int (nI 0)), (0, .ref a), (1, .ref a1)]) hx hb dX2_copyFrom_30 rfl hl (by decide) rfl (fun ls hl => ?_)
  refine w_X2_copyFrom_L31 X hRf hRl ka ka1 _ (fun y15 M16 H locs ls h hM hl => ?_) _ _ _ _ _ _ h hM (lv_sub hl [1, 2, 0] rfl)
  refine lv_iconst (v := nI 0) hx hb dX2_copyFrom_57 (by decide) ?_
  refine lv_istore_n (lv' := [(2, .int (nI 0)), (0, .ref a), (1, .ref a1)]) hx hb dX2_copyFrom_58 rfl hl (by decide) rfl (fun ls hl => ?_)
  refine w_X2_copyFrom_L59 X hRf hRl ka ka1 _ (fun y25 M26 H locs ls h hM hl => ?_) _ _ _ _ _ _ h hM (lv_sub hl [1, 2, 0] rfl)
  refine lv_iconst (v := nI 0) hx hb dX2_copyFrom_88 (by decide) ?_
  refine lv_istore_n (lv' := [(2, .int (nI 0)), (0, .ref a), (1, .ref a1)]) hx hb dX2_copyFrom_89 rfl hl (by decide) rfl (fun ls hl => ?_)
  refine w_X2_copyFrom_L90 X hRf hRl ka ka1 _ (fun y35 M36 H locs ls h hM hl => ?_) _ _ _ _ _ _ h hM (lv_sub hl [1, 2, 0] rfl)
  refine lv_aload_n hx hb dX2_copyFrom_116 rfl (lv_at hl 0 rfl) ?_
  refine lv_aload_n hx hb dX2_copyFrom_117 rfl (lv_at hl 1 rfl) ?_
  refine cz_getI X hM ff_X2_7 ka1 lk_X2_56 dX2_copyFrom_118 ?_
  refine cz_putI X hM h ff_X2_7 ka lk_X2_56 dX2_copyFrom_121 (fun M37 H locs h hM => ?_)
  refine lv_aload_n hx hb dX2_copyFrom_124 rfl (lv_at hl 0 rfl) ?_
  refine lv_aload_n hx hb dX2_copyFrom_125 rfl (lv_at hl 1 rfl) ?_
  refine cz_getI X hM ff_X2_8 ka1 lk_X2_66 dX2_copyFrom_126 ?_
  refine cz_putI X hM h ff_X2_8 ka lk_X2_66 dX2_copyFrom_129 (fun M38 H locs h hM => ?_)
  exact cz_retv X hM h dX2_copyFrom_132
theorem mv_X2_hasLetter : cz_MV yX2_hasLetter cX2_hasLetter 2 (some .boolean) RX2 1 := ⟨mi_X2_hasLetter, ms_X2_hasLetter, mc_X2_hasLetter, ini_X2, by decide +kernel⟩
set_option maxHeartbeats 4000000 in
set_option maxRecDepth 100000 in
theorem c_X2_hasLetter {l : Launch} {g : cz_G} {b : Nat} {M : cz_M} {r0 : Int32} {a : Nat} {x1 : Int32} (ka : cz_K b a 2) (h : f_X2_hasLetter M a x1 = some r0) : cz_C l yX2_hasLetter cX2_hasLetter 2 (some .boolean) 0 0 g b [.ref a, .int x1] M (some (.int r0)) M := by
  refine cz_start (by decide) (Nat.le_of_ble_eq_true rfl) (fun p e s m args below meth c X H ls hM hl => ?_)
  have X : cz_X p s m args meth c cX2_hasLetter 2 RX2 g b (some .boolean) := X
  obtain ⟨hx, hb, -, ho, ht, -⟩ := id X
  have hRf : 0 ≤ ({ frames := 0, cells := 0, slots := 0, locals := 0 } : Room).frames := Nat.le_refl _
  have hRl : 0 ≤ ({ frames := 0, cells := 0, slots := 0, locals := 0 } : Room).locals := Nat.le_refl _
  have hl : lv_has ls 2 [(0, .ref a), (1, .int x1)] := hl
  rw [f_X2_hasLetter] at h
  refine lv_iload_n hx hb dX2_hasLetter_0 rfl (lv_at hl 1 rfl) ?_
  refine lv_if_lt (tgt := 16) hx hb dX2_hasLetter_1 (by decide) (fun c1 => ?_) (fun c1 => ?_)
  · have h := cz_ite_t c1 h
    refine lv_iconst (v := nI 0) hx hb dX2_hasLetter_16 (by decide) ?_
    exact cz_retp X hM h rfl dX2_hasLetter_17
  · have h := cz_ite_f c1 h
    refine lv_iload_n hx hb dX2_hasLetter_4 rfl (lv_at hl 1 rfl) ?_
    refine lv_aload_n hx hb dX2_hasLetter_5 rfl (lv_at hl 0 rfl) ?_
    refine cz_getI X hM ff_X2_7 ka lk_X2_56 dX2_hasLetter_6 ?_
    refine lv_icmp_ge (tgt := 16) hx hb dX2_hasLetter_9 (by decide) (fun c2 => ?_) (fun c2 => ?_)
    · have h := cz_ite_t c2 h
      refine lv_iconst (v := nI 0) hx hb dX2_hasLetter_16 (by decide) ?_
      exact cz_retp X hM h rfl dX2_hasLetter_17
    · have h := cz_ite_f c2 h
      refine lv_iconst (v := nI 1) hx hb dX2_hasLetter_12 (by decide) ?_
      refine lv_goto (tgt := 17) hx hb dX2_hasLetter_13 (by decide) ?_
      exact cz_retp X hM h rfl dX2_hasLetter_17
theorem mv_X2_beginLetter : cz_MV yX2_beginLetter cX2_beginLetter 3 (some (FieldType.object "CensoredThreads$Letter")) RX2 1 := ⟨mi_X2_beginLetter, ms_X2_beginLetter, mc_X2_beginLetter, ini_X2, by decide +kernel⟩
set_option maxHeartbeats 4000000 in
set_option maxRecDepth 100000 in
theorem c_X2_beginLetter {l : Launch} {g : cz_G} {b : Nat} {M : cz_M} {r0 : Option Nat} {M9 : cz_M} {a : Nat} {x1 : Int32} (ka : cz_K b a 2) (h : f_X2_beginLetter M a x1 = some (r0, M9)) : cz_C l yX2_beginLetter cX2_beginLetter 3 (some (FieldType.object "CensoredThreads$Letter")) 1 22 g b [.ref a, .int x1] M (some (va_rf r0)) M9 := by
  refine cz_start (by decide) (Nat.le_of_ble_eq_true rfl) (fun p e s m args below meth c X H ls hM hl => ?_)
  have X : cz_X p s m args meth c cX2_beginLetter 3 RX2 g b (some (FieldType.object "CensoredThreads$Letter")) := X
  obtain ⟨hx, hb, -, ho, ht, -⟩ := id X
  have hRf : 1 ≤ ({ frames := 1, cells := 0, slots := 0, locals := 22 } : Room).frames := Nat.le_refl _
  have hRl : 22 ≤ ({ frames := 1, cells := 0, slots := 0, locals := 22 } : Room).locals := Nat.le_refl _
  have hl : lv_has ls 3 [(0, .ref a), (1, .int x1)] := hl
  rw [f_X2_beginLetter] at h
  refine lv_aload_n hx hb dX2_beginLetter_0 rfl (lv_at hl 0 rfl) ?_
  refine cz_getI X hM ff_X2_7 ka lk_X2_56 dX2_beginLetter_1 ?_
  refine lv_bipush (v := nI 40) hx hb dX2_beginLetter_4 (by decide) ?_
  refine lv_icmp_lt (tgt := 11) hx hb dX2_beginLetter_6 (by decide) (fun c1 => ?_) (fun c1 => ?_)
  · have h := cz_ite_t c1 h
    refine lv_aload_n hx hb dX2_beginLetter_11 rfl (lv_at hl 0 rfl) ?_
    refine cz_getR X hM ff_X2_3 ka lk_X2_26 dX2_beginLetter_12 (fun hk2 => ?_)
    refine lv_aload_n hx hb dX2_beginLetter_15 rfl (lv_at hl 0 rfl) ?_
    refine cz_getI X hM ff_X2_7 ka lk_X2_56 dX2_beginLetter_16 ?_
    refine cz_aald1 X hM h hk2 dX2_beginLetter_19 (fun h hk3 => ?_)
    refine cz_nmr h hk3 (fun r4 h hk5 => ?_)
    refine lv_astore_n (lv' := [(2, .ref r4), (0, .ref a), (1, .int x1)]) hx hb dX2_beginLetter_20 rfl hl (by decide) rfl (fun ls hl => ?_)
    refine lv_aload_n hx hb dX2_beginLetter_21 rfl (lv_at hl 0 rfl) ?_
    refine lv_iload_n hx hb dX2_beginLetter_22 rfl (lv_at hl 2 rfl) ?_
    refine lv_aload_n hx hb dX2_beginLetter_23 rfl (lv_at hl 1 rfl) ?_
    refine cz_getI X hM ff_X2_8 ka lk_X2_66 dX2_beginLetter_24 ?_
    obtain ⟨M6, hq, h⟩ := cz_bd_t h
    refine cz_runV (rest := []) (As := [.int x1, .int (M.1 a 8)]) (T := TX1) (N0 := 11) X hM hl.1 (c_X1_begin (l := l) (g := g) (b := b) hk5 hq) mv_X1_begin rfl (by decide) hk5 ml_X2_69 ⟨Nat.le_trans (Nat.le_of_ble_eq_true rfl) hRf, Nat.le_trans (Nat.le_of_ble_eq_true rfl) hRl⟩ rfl rfl (Nat.le_of_ble_eq_true rfl) dX2_beginLetter_27 (fun H locs hM => ?_)
    refine lv_aload_n hx hb dX2_beginLetter_30 rfl (lv_at hl 1 rfl) ?_
    refine lv_dup hx hb dX2_beginLetter_31 rfl ?_
    refine cz_getI X hM ff_X2_7 ka lk_X2_56 dX2_beginLetter_32 ?_
    refine lv_iconst (v := nI 1) hx hb dX2_beginLetter_35 (by decide) ?_
    refine lv_iadd hx hb dX2_beginLetter_36 ?_
    refine cz_putI X hM h ff_X2_7 ka lk_X2_56 dX2_beginLetter_37 (fun M7 H locs h hM => ?_)
    refine lv_aload_n hx hb dX2_beginLetter_40 rfl (lv_at hl 0 rfl) ?_
    exact cz_retq (v := (some r4)) X hM h dX2_beginLetter_41
  · have h := cz_ite_f c1 h
    refine lv_null hx hb dX2_beginLetter_9 ?_
    exact cz_retq (v := none) X hM h dX2_beginLetter_10
theorem mv_X3_append : cz_MV yX3_append cX3_append 2 none RX3 1 := ⟨mi_X3_append, ms_X3_append, mc_X3_append, ini_X3, by decide +kernel⟩
set_option maxHeartbeats 4000000 in
set_option maxRecDepth 100000 in
theorem c_X3_append {l : Launch} {g : cz_G} {b : Nat} {M : cz_M} {M9 : cz_M} {a : Nat} {x1 : Int32} (ka : cz_K b a 3) (h : f_X3_append M a x1 = some M9) : cz_C l yX3_append cX3_append 2 none 0 0 g b [.ref a, .int x1] M none M9 := by
  refine cz_start (by decide) (Nat.le_of_ble_eq_true rfl) (fun p e s m args below meth c X H ls hM hl => ?_)
  have X : cz_X p s m args meth c cX3_append 2 RX3 g b none := X
  obtain ⟨hx, hb, -, ho, ht, -⟩ := id X
  have hRf : 0 ≤ ({ frames := 0, cells := 0, slots := 0, locals := 0 } : Room).frames := Nat.le_refl _
  have hRl : 0 ≤ ({ frames := 0, cells := 0, slots := 0, locals := 0 } : Room).locals := Nat.le_refl _
  have hl : lv_has ls 2 [(0, .ref a), (1, .int x1)] := hl
  rw [f_X3_append] at h
  refine lv_aload_n hx hb dX3_append_0 rfl (lv_at hl 0 rfl) ?_
  refine cz_getI X hM ff_X3_1 ka lk_X3_15 dX3_append_1 ?_
  refine lv_aload_n hx hb dX3_append_4 rfl (lv_at hl 0 rfl) ?_
  refine cz_getR X hM ff_X3_0 ka lk_X3_9 dX3_append_5 (fun hk1 => ?_)
  refine cz_alen (n := 40) (v := 40) X hM hk1 (by decide) (by decide) dX3_append_8 ?_
  refine lv_icmp_ge (tgt := 32) hx hb dX3_append_9 (by decide) (fun c2 => ?_) (fun c2 => ?_)
  · have h := cz_ite_t c2 h
    exact cz_retv X hM h dX3_append_32
  · have h := cz_ite_f c2 h
    refine lv_aload_n hx hb dX3_append_12 rfl (lv_at hl 0 rfl) ?_
    refine cz_getR X hM ff_X3_0 ka lk_X3_9 dX3_append_13 (fun hk3 => ?_)
    refine lv_aload_n hx hb dX3_append_16 rfl (lv_at hl 0 rfl) ?_
    refine cz_getI X hM ff_X3_1 ka lk_X3_15 dX3_append_17 ?_
    refine lv_iload_n hx hb dX3_append_20 rfl (lv_at hl 1 rfl) ?_
    refine cz_iast (n := 40) X hM h hk3 (by decide) dX3_append_21 (fun M4 H locs h hM => ?_)
    refine lv_aload_n hx hb dX3_append_22 rfl (lv_at hl 0 rfl) ?_
    refine lv_dup hx hb dX3_append_23 rfl ?_
    refine cz_getI X hM ff_X3_1 ka lk_X3_15 dX3_append_24 ?_
    refine lv_iconst (v := nI 1) hx hb dX3_append_27 (by decide) ?_
    refine lv_iadd hx hb dX3_append_28 ?_
    refine cz_putI X hM h ff_X3_1 ka lk_X3_15 dX3_append_29 (fun M5 H locs h hM => ?_)
    exact cz_retv X hM h dX3_append_32
theorem mv_X2_sendNewest : cz_MV yX2_sendNewest cX2_sendNewest 2 none RX2 1 := ⟨mi_X2_sendNewest, ms_X2_sendNewest, mc_X2_sendNewest, ini_X2, by decide +kernel⟩
set_option maxHeartbeats 4000000 in
set_option maxRecDepth 100000 in
theorem c_X2_sendNewest {l : Launch} {g : cz_G} {b : Nat} {M : cz_M} {M9 : cz_M} {a : Nat} {x1 : Int32} (ka : cz_K b a 2) (h : f_X2_sendNewest M a x1 = some M9) : cz_C l yX2_sendNewest cX2_sendNewest 2 none 1 21 g b [.ref a, .int x1] M none M9 := by
  refine cz_start (by decide) (Nat.le_of_ble_eq_true rfl) (fun p e s m args below meth c X H ls hM hl => ?_)
  have X : cz_X p s m args meth c cX2_sendNewest 2 RX2 g b none := X
  obtain ⟨hx, hb, -, ho, ht, -⟩ := id X
  have hRf : 1 ≤ ({ frames := 1, cells := 0, slots := 0, locals := 21 } : Room).frames := Nat.le_refl _
  have hRl : 21 ≤ ({ frames := 1, cells := 0, slots := 0, locals := 21 } : Room).locals := Nat.le_refl _
  have hl : lv_has ls 2 [(0, .ref a), (1, .int x1)] := hl
  rw [f_X2_sendNewest] at h
  refine lv_aload_n hx hb dX2_sendNewest_0 rfl (lv_at hl 0 rfl) ?_
  refine cz_getI X hM ff_X2_7 ka lk_X2_56 dX2_sendNewest_1 ?_
  refine lv_if_le (tgt := 37) hx hb dX2_sendNewest_4 (by decide) (fun c1 => ?_) (fun c1 => ?_)
  · have h := cz_ite_t c1 h
    exact cz_retv X hM h dX2_sendNewest_37
  · have h := cz_ite_f c1 h
    refine lv_aload_n hx hb dX2_sendNewest_7 rfl (lv_at hl 0 rfl) ?_
    refine cz_getR X hM ff_X2_3 ka lk_X2_26 dX2_sendNewest_8 (fun hk2 => ?_)
    refine lv_aload_n hx hb dX2_sendNewest_11 rfl (lv_at hl 0 rfl) ?_
    refine cz_getI X hM ff_X2_7 ka lk_X2_56 dX2_sendNewest_12 ?_
    refine lv_iconst (v := nI 1) hx hb dX2_sendNewest_15 (by decide) ?_
    refine lv_isub hx hb dX2_sendNewest_16 ?_
    refine cz_aald1 X hM h hk2 dX2_sendNewest_17 (fun h hk3 => ?_)
    refine lv_iload_n hx hb dX2_sendNewest_18 rfl (lv_at hl 1 rfl) ?_
    refine cz_putI X hM h ff_X1_1 hk3 lk_X2_73 dX2_sendNewest_19 (fun M4 H locs h hM => ?_)
    refine lv_aload_n hx hb dX2_sendNewest_22 rfl (lv_at hl 0 rfl) ?_
    refine cz_getR X hM ff_X2_4 ka lk_X2_32 dX2_sendNewest_23 (fun hk5 => ?_)
    refine lv_iload_n hx hb dX2_sendNewest_26 rfl (lv_at hl 1 rfl) ?_
    refine cz_aald2 X hM h hk5 dX2_sendNewest_27 (fun h hk6 => ?_)
    refine lv_aload_n hx hb dX2_sendNewest_28 rfl (lv_at hl 0 rfl) ?_
    refine cz_getI X hM ff_X2_7 ka lk_X2_56 dX2_sendNewest_29 ?_
    refine lv_iconst (v := nI 1) hx hb dX2_sendNewest_32 (by decide) ?_
    refine lv_isub hx hb dX2_sendNewest_33 ?_
    obtain ⟨M7, hq, h⟩ := cz_bd_t h
    refine cz_runV (rest := []) (As := [.int ((M4.1 a 7) - (nI 1))]) (T := TX3) (N0 := 2) X hM hl.1 (c_X3_append (l := l) (g := g) (b := b) hk6 hq) mv_X3_append rfl (by decide) hk6 ml_X2_76 ⟨Nat.le_trans (Nat.le_of_ble_eq_true rfl) hRf, Nat.le_trans (Nat.le_of_ble_eq_true rfl) hRl⟩ rfl rfl (Nat.le_of_ble_eq_true rfl) dX2_sendNewest_34 (fun H locs hM => ?_)
    exact cz_retv X hM h dX2_sendNewest_37
theorem mv_X3_takeOut : cz_MV yX3_takeOut cX3_takeOut 4 none RX3 1 := ⟨mi_X3_takeOut, ms_X3_takeOut, mc_X3_takeOut, ini_X3, by decide +kernel⟩
set_option maxHeartbeats 4000000 in
set_option maxRecDepth 100000 in
theorem w_X3_takeOut_L4 {p : Program} {l : Launch} {e : Env} {R : Room} {s : State} {m : MethodId} {args : Array Value} {below : List Frame} {meth : Method} {c : Code} {g : cz_G} {b : Nat} (X : cz_X p s m args meth c cX3_takeOut 4 RX3 g b none) (hRf : 0 ≤ R.frames) (hRl : 0 ≤ R.locals) {M9 : cz_M} {a0 : Nat} {x1 : Int32} (ka0 : cz_K b a0 3)
    (K : Int32 → Int32 → cz_M → Option (cz_M)) (hX : ∀ (x2 : Int32) (x3 : Int32)  (M : cz_M) (H : Heap) (locs : List Loc) (ls : Array Slot), K x2 x3 M = some M9 → cz_WS g b M s H locs → lv_has ls 4 [(0, .ref a0), (1, .int x1), (2, .int x2), (3, .int x3)] → W p l e R s m args below meth c H locs 0 0 (MQ below (cz_Q g b none M9) args s 0 0 (cz_Ar b)) (F0 m 43 ls [])) :
    ∀ (n : Nat) (x2 : Int32) (x3 : Int32)  (M : cz_M) (H : Heap) (locs : List Loc) (ls : Array Slot), cz_it3 (f_X3_takeOut_L4 a0 x1 K) n x2 x3 M = some M9 → cz_WS g b M s H locs → lv_has ls 4 [(0, .ref a0), (1, .int x1), (2, .int x2), (3, .int x3)] → W p l e R s m args below meth c H locs 0 0 (MQ below (cz_Q g b none M9) args s 0 0 (cz_Ar b)) (F0 m 4 ls []) := by
  obtain ⟨hx, hb, -, ho, ht, -⟩ := id X
  intro n
  induction n with
  | zero => intro x2 x3 M H locs ls h; cases (show none = some _ from h)
  | succ n ih =>
    intro x2 x3 M H locs ls h hM hl
    have h : f_X3_takeOut_L4 a0 x1 K (cz_it3 (f_X3_takeOut_L4 a0 x1 K) n) x2 x3 M = some M9 := h
    rw [f_X3_takeOut_L4] at h
    refine lv_iload_n hx hb dX3_takeOut_4 rfl (lv_at hl 3 rfl) ?_
    refine lv_aload_n hx hb dX3_takeOut_5 rfl (lv_at hl 0 rfl) ?_
    refine cz_getI X hM ff_X3_1 ka0 lk_X3_15 dX3_takeOut_6 ?_
    refine lv_icmp_ge (tgt := 43) hx hb dX3_takeOut_9 (by decide) (fun c1 => ?_) (fun c1 => ?_)
    · have h := cz_ite_t c1 h
      exact hX _ _ _ _ _ _ h hM (lv_sub hl [0, 1, 2, 3] rfl)
    · have h := cz_ite_f c1 h
      refine lv_aload_n hx hb dX3_takeOut_12 rfl (lv_at hl 0 rfl) ?_
      refine cz_getR X hM ff_X3_0 ka0 lk_X3_9 dX3_takeOut_13 (fun hk2 => ?_)
      refine lv_iload_n hx hb dX3_takeOut_16 rfl (lv_at hl 3 rfl) ?_
      refine cz_iald (n := 40) X hM h hk2 (by decide) dX3_takeOut_17 (fun h => ?_)
      refine lv_iload_n hx hb dX3_takeOut_18 rfl (lv_at hl 1 rfl) ?_
      refine lv_icmp_eq (tgt := 37) hx hb dX3_takeOut_19 (by decide) (fun c3 => ?_) (fun c3 => ?_)
      · have h := cz_ite_t c3 h
        refine cz_nmL (v := x3 + nI 1) h (fun v4 e5 h => ?_)
        refine lv_iinc (v := v4) (lv' := [(3, .int v4), (0, .ref a0), (1, .int x1), (2, .int x2)]) hx hb dX3_takeOut_37 hl (k := 3) rfl (by rw [e5]; rfl) (by decide) rfl (fun ls hl => ?_)
        refine lv_goto (tgt := 4) hx hb dX3_takeOut_40 (by decide) ?_
        exact ih _ _ _ _ _ _ h hM (lv_sub hl [1, 2, 3, 0] rfl)
      · have h := cz_ite_f c3 h
        refine lv_aload_n hx hb dX3_takeOut_22 rfl (lv_at hl 0 rfl) ?_
        refine cz_getR X hM ff_X3_0 ka0 lk_X3_9 dX3_takeOut_23 (fun hk6 => ?_)
        refine lv_iload_n hx hb dX3_takeOut_26 rfl (lv_at hl 2 rfl) ?_
        refine lv_aload_n hx hb dX3_takeOut_27 rfl (lv_at hl 0 rfl) ?_
        refine cz_getR X hM ff_X3_0 ka0 lk_X3_9 dX3_takeOut_28 (fun hk7 => ?_)
        refine lv_iload_n hx hb dX3_takeOut_31 rfl (lv_at hl 3 rfl) ?_
        refine cz_iald (n := 40) X hM h hk7 (by decide) dX3_takeOut_32 (fun h => ?_)
        refine cz_iast (n := 40) X hM h hk6 (by decide) dX3_takeOut_33 (fun M8 H locs h hM => ?_)
        refine cz_nmL (v := x2 + nI 1) h (fun v9 e10 h => ?_)
        refine lv_iinc (v := v9) (lv' := [(2, .int v9), (0, .ref a0), (1, .int x1), (3, .int x3)]) hx hb dX3_takeOut_34 hl (k := 2) rfl (by rw [e10]; rfl) (by decide) rfl (fun ls hl => ?_)
        refine cz_nmL (v := x3 + nI 1) h (fun v11 e12 h => ?_)
        refine lv_iinc (v := v11) (lv' := [(3, .int v11), (2, .int v9), (0, .ref a0), (1, .int x1)]) hx hb dX3_takeOut_37 hl (k := 3) rfl (by rw [e12]; rfl) (by decide) rfl (fun ls hl => ?_)
        refine lv_goto (tgt := 4) hx hb dX3_takeOut_40 (by decide) ?_
        exact ih _ _ _ _ _ _ h hM (lv_sub hl [2, 3, 1, 0] rfl)
set_option maxHeartbeats 4000000 in
set_option maxRecDepth 100000 in
theorem c_X3_takeOut {l : Launch} {g : cz_G} {b : Nat} {M : cz_M} {M9 : cz_M} {a : Nat} {x1 : Int32} (ka : cz_K b a 3) (h : f_X3_takeOut M a x1 = some M9) : cz_C l yX3_takeOut cX3_takeOut 4 none 0 0 g b [.ref a, .int x1] M none M9 := by
  refine cz_start (by decide) (Nat.le_of_ble_eq_true rfl) (fun p e s m args below meth c X H ls hM hl => ?_)
  have X : cz_X p s m args meth c cX3_takeOut 4 RX3 g b none := X
  obtain ⟨hx, hb, -, ho, ht, -⟩ := id X
  have hRf : 0 ≤ ({ frames := 0, cells := 0, slots := 0, locals := 0 } : Room).frames := Nat.le_refl _
  have hRl : 0 ≤ ({ frames := 0, cells := 0, slots := 0, locals := 0 } : Room).locals := Nat.le_refl _
  have hl : lv_has ls 4 [(0, .ref a), (1, .int x1)] := hl
  rw [f_X3_takeOut] at h
  refine lv_iconst (v := nI 0) hx hb dX3_takeOut_0 (by decide) ?_
  refine lv_istore_n (lv' := [(2, .int (nI 0)), (0, .ref a), (1, .int x1)]) hx hb dX3_takeOut_1 rfl hl (by decide) rfl (fun ls hl => ?_)
  refine lv_iconst (v := nI 0) hx hb dX3_takeOut_2 (by decide) ?_
  refine lv_istore_n (lv' := [(3, .int (nI 0)), (2, .int (nI 0)), (0, .ref a), (1, .int x1)]) hx hb dX3_takeOut_3 rfl hl (by decide) rfl (fun ls hl => ?_)
  refine w_X3_takeOut_L4 X hRf hRl ka _ (fun y13 y14 M15 H locs ls h hM hl => ?_) _ _ _ _ _ _ _ h hM (lv_sub hl [2, 3, 1, 0] rfl)
  refine lv_aload_n hx hb dX3_takeOut_43 rfl (lv_at hl 0 rfl) ?_
  refine lv_iload_n hx hb dX3_takeOut_44 rfl (lv_at hl 2 rfl) ?_
  refine cz_putI X hM h ff_X3_1 ka lk_X3_15 dX3_takeOut_45 (fun M16 H locs h hM => ?_)
  exact cz_retv X hM h dX3_takeOut_48
theorem mv_X2_burnWaiting : cz_MV yX2_burnWaiting cX2_burnWaiting 2 none RX2 1 := ⟨mi_X2_burnWaiting, ms_X2_burnWaiting, mc_X2_burnWaiting, ini_X2, by decide +kernel⟩
set_option maxHeartbeats 4000000 in
set_option maxRecDepth 100000 in
theorem c_X2_burnWaiting {l : Launch} {g : cz_G} {b : Nat} {M : cz_M} {M9 : cz_M} {a : Nat} {x1 : Int32} (ka : cz_K b a 2) (h : f_X2_burnWaiting M a x1 = some M9) : cz_C l yX2_burnWaiting cX2_burnWaiting 2 none 1 23 g b [.ref a, .int x1] M none M9 := by
  refine cz_start (by decide) (Nat.le_of_ble_eq_true rfl) (fun p e s m args below meth c X H ls hM hl => ?_)
  have X : cz_X p s m args meth c cX2_burnWaiting 2 RX2 g b none := X
  obtain ⟨hx, hb, -, ho, ht, -⟩ := id X
  have hRf : 1 ≤ ({ frames := 1, cells := 0, slots := 0, locals := 23 } : Room).frames := Nat.le_refl _
  have hRl : 23 ≤ ({ frames := 1, cells := 0, slots := 0, locals := 23 } : Room).locals := Nat.le_refl _
  have hl : lv_has ls 2 [(0, .ref a), (1, .int x1)] := hl
  rw [f_X2_burnWaiting] at h
  refine lv_aload_n hx hb dX2_burnWaiting_0 rfl (lv_at hl 0 rfl) ?_
  refine cz_getR X hM ff_X2_3 ka lk_X2_26 dX2_burnWaiting_1 (fun hk1 => ?_)
  refine lv_iload_n hx hb dX2_burnWaiting_4 rfl (lv_at hl 1 rfl) ?_
  refine cz_aald1 X hM h hk1 dX2_burnWaiting_5 (fun h hk2 => ?_)
  refine lv_iconst (v := nI 2) hx hb dX2_burnWaiting_6 (by decide) ?_
  refine cz_putI X hM h ff_X1_5 hk2 lk_X2_80 dX2_burnWaiting_7 (fun M3 H locs h hM => ?_)
  refine lv_aload_n hx hb dX2_burnWaiting_10 rfl (lv_at hl 0 rfl) ?_
  refine cz_getR X hM ff_X2_4 ka lk_X2_32 dX2_burnWaiting_11 (fun hk4 => ?_)
  refine lv_aload_n hx hb dX2_burnWaiting_14 rfl (lv_at hl 0 rfl) ?_
  refine cz_getR X hM ff_X2_3 ka lk_X2_26 dX2_burnWaiting_15 (fun hk5 => ?_)
  refine lv_iload_n hx hb dX2_burnWaiting_18 rfl (lv_at hl 1 rfl) ?_
  refine cz_aald1 X hM h hk5 dX2_burnWaiting_19 (fun h hk6 => ?_)
  refine cz_getI X hM ff_X1_1 hk6 lk_X2_73 dX2_burnWaiting_20 ?_
  refine cz_aald2 X hM h hk4 dX2_burnWaiting_23 (fun h hk7 => ?_)
  refine lv_iload_n hx hb dX2_burnWaiting_24 rfl (lv_at hl 1 rfl) ?_
  obtain ⟨M8, hq, h⟩ := cz_bd_t h
  refine cz_runV (rest := []) (As := [.int x1]) (T := TX3) (N0 := 2) X hM hl.1 (c_X3_takeOut (l := l) (g := g) (b := b) hk7 hq) mv_X3_takeOut rfl (by decide) hk7 ml_X2_83 ⟨Nat.le_trans (Nat.le_of_ble_eq_true rfl) hRf, Nat.le_trans (Nat.le_of_ble_eq_true rfl) hRl⟩ rfl rfl (Nat.le_of_ble_eq_true rfl) dX2_burnWaiting_25 (fun H locs hM => ?_)
  exact cz_retv X hM h dX2_burnWaiting_28
theorem mv_X2_tradeShifts : cz_MV yX2_tradeShifts cX2_tradeShifts 4 none RX2 2 := ⟨mi_X2_tradeShifts, ms_X2_tradeShifts, mc_X2_tradeShifts, ini_X2, by decide +kernel⟩
set_option maxHeartbeats 4000000 in
set_option maxRecDepth 100000 in
theorem c_X2_tradeShifts {l : Launch} {g : cz_G} {b : Nat} {M : cz_M} {M9 : cz_M} {a : Nat} {x1 : Int32} {x2 : Int32} (ka : cz_K b a 2) (h : f_X2_tradeShifts M a x1 x2 = some M9) : cz_C l yX2_tradeShifts cX2_tradeShifts 4 none 0 0 g b [.ref a, .int x1, .int x2] M none M9 := by
  refine cz_start (by decide) (Nat.le_of_ble_eq_true rfl) (fun p e s m args below meth c X H ls hM hl => ?_)
  have X : cz_X p s m args meth c cX2_tradeShifts 4 RX2 g b none := X
  obtain ⟨hx, hb, -, ho, ht, -⟩ := id X
  have hRf : 0 ≤ ({ frames := 0, cells := 0, slots := 0, locals := 0 } : Room).frames := Nat.le_refl _
  have hRl : 0 ≤ ({ frames := 0, cells := 0, slots := 0, locals := 0 } : Room).locals := Nat.le_refl _
  have hl : lv_has ls 4 [(0, .ref a), (1, .int x1), (2, .int x2)] := hl
  rw [f_X2_tradeShifts] at h
  refine lv_aload_n hx hb dX2_tradeShifts_0 rfl (lv_at hl 0 rfl) ?_
  refine cz_getR X hM ff_X2_2 ka lk_X2_21 dX2_tradeShifts_1 (fun hk1 => ?_)
  refine lv_iload_n hx hb dX2_tradeShifts_4 rfl (lv_at hl 1 rfl) ?_
  refine cz_iald (n := 8) X hM h hk1 (by decide) dX2_tradeShifts_5 (fun h => ?_)
  refine cz_nmi h (fun v2 h => ?_)
  refine lv_istore_n (lv' := [(3, .int v2), (0, .ref a), (1, .int x1), (2, .int x2)]) hx hb dX2_tradeShifts_6 rfl hl (by decide) rfl (fun ls hl => ?_)
  refine lv_aload_n hx hb dX2_tradeShifts_7 rfl (lv_at hl 1 rfl) ?_
  refine cz_getR X hM ff_X2_2 ka lk_X2_21 dX2_tradeShifts_8 (fun hk3 => ?_)
  refine lv_iload_n hx hb dX2_tradeShifts_11 rfl (lv_at hl 2 rfl) ?_
  refine lv_aload_n hx hb dX2_tradeShifts_12 rfl (lv_at hl 1 rfl) ?_
  refine cz_getR X hM ff_X2_2 ka lk_X2_21 dX2_tradeShifts_13 (fun hk4 => ?_)
  refine lv_iload_n hx hb dX2_tradeShifts_16 rfl (lv_at hl 3 rfl) ?_
  refine cz_iald (n := 8) X hM h hk4 (by decide) dX2_tradeShifts_17 (fun h => ?_)
  refine cz_iast (n := 8) X hM h hk3 (by decide) dX2_tradeShifts_18 (fun M5 H locs h hM => ?_)
  refine lv_aload_n hx hb dX2_tradeShifts_19 rfl (lv_at hl 1 rfl) ?_
  refine cz_getR X hM ff_X2_2 ka lk_X2_21 dX2_tradeShifts_20 (fun hk6 => ?_)
  refine lv_iload_n hx hb dX2_tradeShifts_23 rfl (lv_at hl 3 rfl) ?_
  refine lv_iload_n hx hb dX2_tradeShifts_24 rfl (lv_at hl 0 rfl) ?_
  refine cz_iast (n := 8) X hM h hk6 (by decide) dX2_tradeShifts_25 (fun M7 H locs h hM => ?_)
  exact cz_retv X hM h dX2_tradeShifts_26
theorem mv_X2_censorNumber : cz_MV yX2_censorNumber cX2_censorNumber 3 (some .int) RX2 2 := ⟨mi_X2_censorNumber, ms_X2_censorNumber, mc_X2_censorNumber, ini_X2, by decide +kernel⟩
set_option maxHeartbeats 4000000 in
set_option maxRecDepth 100000 in
theorem c_X2_censorNumber {l : Launch} {g : cz_G} {b : Nat} {M : cz_M} {r0 : Int32} {a : Nat} {x1 : Int32} {x2 : Int32} (ka : cz_K b a 2) (h : f_X2_censorNumber M a x1 x2 = some r0) : cz_C l yX2_censorNumber cX2_censorNumber 3 (some .int) 0 0 g b [.ref a, .int x1, .int x2] M (some (.int r0)) M := by
  refine cz_start (by decide) (Nat.le_of_ble_eq_true rfl) (fun p e s m args below meth c X H ls hM hl => ?_)
  have X : cz_X p s m args meth c cX2_censorNumber 3 RX2 g b (some .int) := X
  obtain ⟨hx, hb, -, ho, ht, -⟩ := id X
  have hRf : 0 ≤ ({ frames := 0, cells := 0, slots := 0, locals := 0 } : Room).frames := Nat.le_refl _
  have hRl : 0 ≤ ({ frames := 0, cells := 0, slots := 0, locals := 0 } : Room).locals := Nat.le_refl _
  have hl : lv_has ls 3 [(0, .ref a), (1, .int x1), (2, .int x2)] := hl
  rw [f_X2_censorNumber] at h
  refine lv_aload_n hx hb dX2_censorNumber_0 rfl (lv_at hl 0 rfl) ?_
  refine cz_getR X hM ff_X2_2 ka lk_X2_21 dX2_censorNumber_1 (fun hk1 => ?_)
  refine lv_iconst (v := nI 2) hx hb dX2_censorNumber_4 (by decide) ?_
  refine lv_iload_n hx hb dX2_censorNumber_5 rfl (lv_at hl 1 rfl) ?_
  refine lv_iconst (v := nI 4) hx hb dX2_censorNumber_6 (by decide) ?_
  refine lv_irem hx hb dX2_censorNumber_7 (by decide) ?_
  refine lv_imul hx hb dX2_censorNumber_8 ?_
  refine lv_iload_n hx hb dX2_censorNumber_9 rfl (lv_at hl 2 rfl) ?_
  refine lv_iadd hx hb dX2_censorNumber_10 ?_
  refine cz_iald (n := 8) X hM h hk1 (by decide) dX2_censorNumber_11 (fun h => ?_)
  exact cz_retp X hM h rfl dX2_censorNumber_12
theorem mv_X2_shiftsOf : cz_MV yX2_shiftsOf cX2_shiftsOf 4 (some .int) RX2 1 := ⟨mi_X2_shiftsOf, ms_X2_shiftsOf, mc_X2_shiftsOf, ini_X2, by decide +kernel⟩
set_option maxHeartbeats 4000000 in
set_option maxRecDepth 100000 in
theorem w_X2_shiftsOf_L4 {p : Program} {l : Launch} {e : Env} {R : Room} {s : State} {m : MethodId} {args : Array Value} {below : List Frame} {meth : Method} {c : Code} {g : cz_G} {b : Nat} (X : cz_X p s m args meth c cX2_shiftsOf 4 RX2 g b (some .int)) (hRf : 0 ≤ R.frames) (hRl : 0 ≤ R.locals) {r0 : Int32} {a0 : Nat} {x1 : Int32} {M : cz_M} (ka0 : cz_K b a0 2)
    (K : Int32 → Int32 → Option (Int32)) (hX : ∀ (x2 : Int32) (x3 : Int32)  (H : Heap) (locs : List Loc) (ls : Array Slot), K x2 x3 = some r0 → cz_WS g b M s H locs → lv_has ls 4 [(0, .ref a0), (1, .int x1), (2, .int x2), (3, .int x3)] → W p l e R s m args below meth c H locs 0 0 (MQ below (cz_Q g b (some (.int r0)) M) args s 0 0 (cz_Ar b)) (F0 m 29 ls [])) :
    ∀ (n : Nat) (x2 : Int32) (x3 : Int32)  (H : Heap) (locs : List Loc) (ls : Array Slot), cz_it2 (f_X2_shiftsOf_L4 a0 x1 M K) n x2 x3 = some r0 → cz_WS g b M s H locs → lv_has ls 4 [(0, .ref a0), (1, .int x1), (2, .int x2), (3, .int x3)] → W p l e R s m args below meth c H locs 0 0 (MQ below (cz_Q g b (some (.int r0)) M) args s 0 0 (cz_Ar b)) (F0 m 4 ls []) := by
  obtain ⟨hx, hb, -, ho, ht, -⟩ := id X
  intro n
  induction n with
  | zero => intro x2 x3 H locs ls h; cases (show none = some _ from h)
  | succ n ih =>
    intro x2 x3 H locs ls h hM hl
    have h : f_X2_shiftsOf_L4 a0 x1 M K (cz_it2 (f_X2_shiftsOf_L4 a0 x1 M K) n) x2 x3 = some r0 := h
    rw [f_X2_shiftsOf_L4] at h
    refine lv_iload_n hx hb dX2_shiftsOf_4 rfl (lv_at hl 3 rfl) ?_
    refine lv_bipush (v := nI 8) hx hb dX2_shiftsOf_5 (by decide) ?_
    refine lv_icmp_ge (tgt := 29) hx hb dX2_shiftsOf_7 (by decide) (fun c1 => ?_) (fun c1 => ?_)
    · have h := cz_ite_t c1 h
      exact hX _ _ _ _ _ h hM (lv_sub hl [0, 1, 2, 3] rfl)
    · have h := cz_ite_f c1 h
      refine lv_aload_n hx hb dX2_shiftsOf_10 rfl (lv_at hl 0 rfl) ?_
      refine cz_getR X hM ff_X2_2 ka0 lk_X2_21 dX2_shiftsOf_11 (fun hk2 => ?_)
      refine lv_iload_n hx hb dX2_shiftsOf_14 rfl (lv_at hl 3 rfl) ?_
      refine cz_iald (n := 8) X hM h hk2 (by decide) dX2_shiftsOf_15 (fun h => ?_)
      refine lv_iload_n hx hb dX2_shiftsOf_16 rfl (lv_at hl 1 rfl) ?_
      refine lv_icmp_ne (tgt := 23) hx hb dX2_shiftsOf_17 (by decide) (fun c3 => ?_) (fun c3 => ?_)
      · have h := cz_ite_f c3 h
        refine cz_nmL (v := x3 + nI 1) h (fun v4 e5 h => ?_)
        refine lv_iinc (v := v4) (lv' := [(3, .int v4), (0, .ref a0), (1, .int x1), (2, .int x2)]) hx hb dX2_shiftsOf_23 hl (k := 3) rfl (by rw [e5]; rfl) (by decide) rfl (fun ls hl => ?_)
        refine lv_goto (tgt := 4) hx hb dX2_shiftsOf_26 (by decide) ?_
        exact ih _ _ _ _ _ h hM (lv_sub hl [1, 2, 3, 0] rfl)
      · have h := cz_ite_t c3 h
        refine cz_nmL (v := x2 + nI 1) h (fun v6 e7 h => ?_)
        refine lv_iinc (v := v6) (lv' := [(2, .int v6), (0, .ref a0), (1, .int x1), (3, .int x3)]) hx hb dX2_shiftsOf_20 hl (k := 2) rfl (by rw [e7]; rfl) (by decide) rfl (fun ls hl => ?_)
        refine cz_nmL (v := x3 + nI 1) h (fun v8 e9 h => ?_)
        refine lv_iinc (v := v8) (lv' := [(3, .int v8), (2, .int v6), (0, .ref a0), (1, .int x1)]) hx hb dX2_shiftsOf_23 hl (k := 3) rfl (by rw [e9]; rfl) (by decide) rfl (fun ls hl => ?_)
        refine lv_goto (tgt := 4) hx hb dX2_shiftsOf_26 (by decide) ?_
        exact ih _ _ _ _ _ h hM (lv_sub hl [2, 3, 1, 0] rfl)
set_option maxHeartbeats 4000000 in
set_option maxRecDepth 100000 in
theorem c_X2_shiftsOf {l : Launch} {g : cz_G} {b : Nat} {M : cz_M} {r0 : Int32} {a : Nat} {x1 : Int32} (ka : cz_K b a 2) (h : f_X2_shiftsOf M a x1 = some r0) : cz_C l yX2_shiftsOf cX2_shiftsOf 4 (some .int) 0 0 g b [.ref a, .int x1] M (some (.int r0)) M := by
  refine cz_start (by decide) (Nat.le_of_ble_eq_true rfl) (fun p e s m args below meth c X H ls hM hl => ?_)
  have X : cz_X p s m args meth c cX2_shiftsOf 4 RX2 g b (some .int) := X
  obtain ⟨hx, hb, -, ho, ht, -⟩ := id X
  have hRf : 0 ≤ ({ frames := 0, cells := 0, slots := 0, locals := 0 } : Room).frames := Nat.le_refl _
  have hRl : 0 ≤ ({ frames := 0, cells := 0, slots := 0, locals := 0 } : Room).locals := Nat.le_refl _
  have hl : lv_has ls 4 [(0, .ref a), (1, .int x1)] := hl
  rw [f_X2_shiftsOf] at h
  refine lv_iconst (v := nI 0) hx hb dX2_shiftsOf_0 (by decide) ?_
  refine lv_istore_n (lv' := [(2, .int (nI 0)), (0, .ref a), (1, .int x1)]) hx hb dX2_shiftsOf_1 rfl hl (by decide) rfl (fun ls hl => ?_)
  refine lv_iconst (v := nI 0) hx hb dX2_shiftsOf_2 (by decide) ?_
  refine lv_istore_n (lv' := [(3, .int (nI 0)), (2, .int (nI 0)), (0, .ref a), (1, .int x1)]) hx hb dX2_shiftsOf_3 rfl hl (by decide) rfl (fun ls hl => ?_)
  refine w_X2_shiftsOf_L4 X hRf hRl ka _ (fun y10 y11 H locs ls h hM hl => ?_) _ _ _ _ _ _ h hM (lv_sub hl [2, 3, 1, 0] rfl)
  refine lv_iload_n hx hb dX2_shiftsOf_29 rfl (lv_at hl 2 rfl) ?_
  exact cz_retp X hM h rfl dX2_shiftsOf_30
theorem mv_X2_aheadOf : cz_MV yX2_aheadOf cX2_aheadOf 3 (some .int) RX2 1 := ⟨mi_X2_aheadOf, ms_X2_aheadOf, mc_X2_aheadOf, ini_X2, by decide +kernel⟩
set_option maxHeartbeats 4000000 in
set_option maxRecDepth 100000 in
theorem w_X2_aheadOf_L4 {p : Program} {l : Launch} {e : Env} {R : Room} {s : State} {m : MethodId} {args : Array Value} {below : List Frame} {meth : Method} {c : Code} {g : cz_G} {b : Nat} (X : cz_X p s m args meth c cX2_aheadOf 3 RX2 g b (some .int)) (hRf : 0 ≤ R.frames) (hRl : 0 ≤ R.locals) {r0 : Int32} {a0 : Nat} {x1 : Int32} {M : cz_M} (ka0 : cz_K b a0 2)
    (K : Int32 → Option (Int32)) (hX : ∀ (x2 : Int32)  (H : Heap) (locs : List Loc) (ls : Array Slot), K x2 = some r0 → cz_WS g b M s H locs → lv_has ls 3 [(0, .ref a0), (1, .int x1), (2, .int x2)] → W p l e R s m args below meth c H locs 0 0 (MQ below (cz_Q g b (some (.int r0)) M) args s 0 0 (cz_Ar b)) (F0 m 37 ls [])) :
    ∀ (n : Nat) (x2 : Int32)  (H : Heap) (locs : List Loc) (ls : Array Slot), cz_it1 (f_X2_aheadOf_L4 a0 x1 M K) n x2 = some r0 → cz_WS g b M s H locs → lv_has ls 3 [(0, .ref a0), (1, .int x1), (2, .int x2)] → W p l e R s m args below meth c H locs 0 0 (MQ below (cz_Q g b (some (.int r0)) M) args s 0 0 (cz_Ar b)) (F0 m 4 ls []) := by
  obtain ⟨hx, hb, -, ho, ht, -⟩ := id X
  intro n
  induction n with
  | zero => intro x2 H locs ls h; cases (show none = some _ from h)
  | succ n ih =>
    intro x2 H locs ls h hM hl
    have h : f_X2_aheadOf_L4 a0 x1 M K (cz_it1 (f_X2_aheadOf_L4 a0 x1 M K) n) x2 = some r0 := h
    rw [f_X2_aheadOf_L4] at h
    refine lv_iload_n hx hb dX2_aheadOf_4 rfl (lv_at hl 2 rfl) ?_
    refine lv_if_lt (tgt := 37) hx hb dX2_aheadOf_5 (by decide) (fun c2 => ?_) (fun c2 => ?_)
    · have h := cz_ite_t c2 h
      exact hX _ _ _ _ h hM (lv_sub hl [0, 1, 2] rfl)
    · have h := cz_ite_f c2 h
      refine lv_aload_n hx hb dX2_aheadOf_8 rfl (lv_at hl 0 rfl) ?_
      refine cz_getR X hM ff_X2_3 ka0 lk_X2_26 dX2_aheadOf_9 (fun hk3 => ?_)
      refine lv_iload_n hx hb dX2_aheadOf_12 rfl (lv_at hl 2 rfl) ?_
      refine cz_aald1 X hM h hk3 dX2_aheadOf_13 (fun h hk4 => ?_)
      refine cz_getI X hM ff_X1_0 hk4 lk_X2_86 dX2_aheadOf_14 ?_
      refine lv_aload_n hx hb dX2_aheadOf_17 rfl (lv_at hl 0 rfl) ?_
      refine cz_getR X hM ff_X2_3 ka0 lk_X2_26 dX2_aheadOf_18 (fun hk5 => ?_)
      refine lv_iload_n hx hb dX2_aheadOf_21 rfl (lv_at hl 1 rfl) ?_
      refine cz_aald1 X hM h hk5 dX2_aheadOf_22 (fun h hk6 => ?_)
      refine cz_getI X hM ff_X1_0 hk6 lk_X2_86 dX2_aheadOf_23 ?_
      refine lv_icmp_ne (tgt := 31) hx hb dX2_aheadOf_26 (by decide) (fun c7 => ?_) (fun c7 => ?_)
      · have h := cz_ite_f c7 h
        refine cz_nmL (v := x2 + (-1)) h (fun v8 e9 h => ?_)
        refine lv_iinc (v := v8) (lv' := [(2, .int v8), (0, .ref a0), (1, .int x1)]) hx hb dX2_aheadOf_31 hl (k := 2) rfl (by rw [e9]; rfl) (by decide) rfl (fun ls hl => ?_)
        refine lv_goto (tgt := 4) hx hb dX2_aheadOf_34 (by decide) ?_
        exact ih _ _ _ _ h hM (lv_sub hl [1, 2, 0] rfl)
      · have h := cz_ite_t c7 h
        refine lv_iload_n hx hb dX2_aheadOf_29 rfl (lv_at hl 2 rfl) ?_
        exact cz_retp X hM h rfl dX2_aheadOf_30
set_option maxHeartbeats 4000000 in
set_option maxRecDepth 100000 in
theorem c_X2_aheadOf {l : Launch} {g : cz_G} {b : Nat} {M : cz_M} {r0 : Int32} {a : Nat} {x1 : Int32} (ka : cz_K b a 2) (h : f_X2_aheadOf M a x1 = some r0) : cz_C l yX2_aheadOf cX2_aheadOf 3 (some .int) 0 0 g b [.ref a, .int x1] M (some (.int r0)) M := by
  refine cz_start (by decide) (Nat.le_of_ble_eq_true rfl) (fun p e s m args below meth c X H ls hM hl => ?_)
  have X : cz_X p s m args meth c cX2_aheadOf 3 RX2 g b (some .int) := X
  obtain ⟨hx, hb, -, ho, ht, -⟩ := id X
  have hRf : 0 ≤ ({ frames := 0, cells := 0, slots := 0, locals := 0 } : Room).frames := Nat.le_refl _
  have hRl : 0 ≤ ({ frames := 0, cells := 0, slots := 0, locals := 0 } : Room).locals := Nat.le_refl _
  have hl : lv_has ls 3 [(0, .ref a), (1, .int x1)] := hl
  rw [f_X2_aheadOf] at h
  refine lv_iload_n hx hb dX2_aheadOf_0 rfl (lv_at hl 1 rfl) ?_
  refine lv_iconst (v := nI 1) hx hb dX2_aheadOf_1 (by decide) ?_
  refine lv_isub hx hb dX2_aheadOf_2 ?_
  refine cz_nmi h (fun v1 h => ?_)
  refine lv_istore_n (lv' := [(2, .int v1), (0, .ref a), (1, .int x1)]) hx hb dX2_aheadOf_3 rfl hl (by decide) rfl (fun ls hl => ?_)
  refine w_X2_aheadOf_L4 X hRf hRl ka _ (fun y10 H locs ls h hM hl => ?_) _ _ _ _ _ h hM (lv_sub hl [1, 2, 0] rfl)
  refine lv_bipush (v := -6) hx hb dX2_aheadOf_37 (by decide) ?_
  exact cz_retp X hM h rfl dX2_aheadOf_39
theorem mv_X2_lettersThatAre : cz_MV yX2_lettersThatAre cX2_lettersThatAre 4 (some .int) RX2 1 := ⟨mi_X2_lettersThatAre, ms_X2_lettersThatAre, mc_X2_lettersThatAre, ini_X2, by decide +kernel⟩
set_option maxHeartbeats 4000000 in
set_option maxRecDepth 100000 in
theorem w_X2_lettersThatAre_L4 {p : Program} {l : Launch} {e : Env} {R : Room} {s : State} {m : MethodId} {args : Array Value} {below : List Frame} {meth : Method} {c : Code} {g : cz_G} {b : Nat} (X : cz_X p s m args meth c cX2_lettersThatAre 4 RX2 g b (some .int)) (hRf : 0 ≤ R.frames) (hRl : 0 ≤ R.locals) {r0 : Int32} {a0 : Nat} {x1 : Int32} {M : cz_M} (ka0 : cz_K b a0 2)
    (K : Int32 → Int32 → Option (Int32)) (hX : ∀ (x2 : Int32) (x3 : Int32)  (H : Heap) (locs : List Loc) (ls : Array Slot), K x2 x3 = some r0 → cz_WS g b M s H locs → lv_has ls 4 [(0, .ref a0), (1, .int x1), (2, .int x2), (3, .int x3)] → W p l e R s m args below meth c H locs 0 0 (MQ below (cz_Q g b (some (.int r0)) M) args s 0 0 (cz_Ar b)) (F0 m 34 ls [])) :
    ∀ (n : Nat) (x2 : Int32) (x3 : Int32)  (H : Heap) (locs : List Loc) (ls : Array Slot), cz_it2 (f_X2_lettersThatAre_L4 a0 x1 M K) n x2 x3 = some r0 → cz_WS g b M s H locs → lv_has ls 4 [(0, .ref a0), (1, .int x1), (2, .int x2), (3, .int x3)] → W p l e R s m args below meth c H locs 0 0 (MQ below (cz_Q g b (some (.int r0)) M) args s 0 0 (cz_Ar b)) (F0 m 4 ls []) := by
  obtain ⟨hx, hb, -, ho, ht, -⟩ := id X
  intro n
  induction n with
  | zero => intro x2 x3 H locs ls h; cases (show none = some _ from h)
  | succ n ih =>
    intro x2 x3 H locs ls h hM hl
    have h : f_X2_lettersThatAre_L4 a0 x1 M K (cz_it2 (f_X2_lettersThatAre_L4 a0 x1 M K) n) x2 x3 = some r0 := h
    rw [f_X2_lettersThatAre_L4] at h
    refine lv_iload_n hx hb dX2_lettersThatAre_4 rfl (lv_at hl 3 rfl) ?_
    refine lv_aload_n hx hb dX2_lettersThatAre_5 rfl (lv_at hl 0 rfl) ?_
    refine cz_getI X hM ff_X2_7 ka0 lk_X2_56 dX2_lettersThatAre_6 ?_
    refine lv_icmp_ge (tgt := 34) hx hb dX2_lettersThatAre_9 (by decide) (fun c1 => ?_) (fun c1 => ?_)
    · have h := cz_ite_t c1 h
      exact hX _ _ _ _ _ h hM (lv_sub hl [0, 1, 2, 3] rfl)
    · have h := cz_ite_f c1 h
      refine lv_aload_n hx hb dX2_lettersThatAre_12 rfl (lv_at hl 0 rfl) ?_
      refine cz_getR X hM ff_X2_3 ka0 lk_X2_26 dX2_lettersThatAre_13 (fun hk2 => ?_)
      refine lv_iload_n hx hb dX2_lettersThatAre_16 rfl (lv_at hl 3 rfl) ?_
      refine cz_aald1 X hM h hk2 dX2_lettersThatAre_17 (fun h hk3 => ?_)
      refine cz_getI X hM ff_X1_5 hk3 lk_X2_80 dX2_lettersThatAre_18 ?_
      refine lv_iload_n hx hb dX2_lettersThatAre_21 rfl (lv_at hl 1 rfl) ?_
      refine lv_icmp_ne (tgt := 28) hx hb dX2_lettersThatAre_22 (by decide) (fun c4 => ?_) (fun c4 => ?_)
      · have h := cz_ite_f c4 h
        refine cz_nmL (v := x3 + nI 1) h (fun v5 e6 h => ?_)
        refine lv_iinc (v := v5) (lv' := [(3, .int v5), (0, .ref a0), (1, .int x1), (2, .int x2)]) hx hb dX2_lettersThatAre_28 hl (k := 3) rfl (by rw [e6]; rfl) (by decide) rfl (fun ls hl => ?_)
        refine lv_goto (tgt := 4) hx hb dX2_lettersThatAre_31 (by decide) ?_
        exact ih _ _ _ _ _ h hM (lv_sub hl [1, 2, 3, 0] rfl)
      · have h := cz_ite_t c4 h
        refine cz_nmL (v := x2 + nI 1) h (fun v7 e8 h => ?_)
        refine lv_iinc (v := v7) (lv' := [(2, .int v7), (0, .ref a0), (1, .int x1), (3, .int x3)]) hx hb dX2_lettersThatAre_25 hl (k := 2) rfl (by rw [e8]; rfl) (by decide) rfl (fun ls hl => ?_)
        refine cz_nmL (v := x3 + nI 1) h (fun v9 e10 h => ?_)
        refine lv_iinc (v := v9) (lv' := [(3, .int v9), (2, .int v7), (0, .ref a0), (1, .int x1)]) hx hb dX2_lettersThatAre_28 hl (k := 3) rfl (by rw [e10]; rfl) (by decide) rfl (fun ls hl => ?_)
        refine lv_goto (tgt := 4) hx hb dX2_lettersThatAre_31 (by decide) ?_
        exact ih _ _ _ _ _ h hM (lv_sub hl [2, 3, 1, 0] rfl)
set_option maxHeartbeats 4000000 in
set_option maxRecDepth 100000 in
theorem c_X2_lettersThatAre {l : Launch} {g : cz_G} {b : Nat} {M : cz_M} {r0 : Int32} {a : Nat} {x1 : Int32} (ka : cz_K b a 2) (h : f_X2_lettersThatAre M a x1 = some r0) : cz_C l yX2_lettersThatAre cX2_lettersThatAre 4 (some .int) 0 0 g b [.ref a, .int x1] M (some (.int r0)) M := by
  refine cz_start (by decide) (Nat.le_of_ble_eq_true rfl) (fun p e s m args below meth c X H ls hM hl => ?_)
  have X : cz_X p s m args meth c cX2_lettersThatAre 4 RX2 g b (some .int) := X
  obtain ⟨hx, hb, -, ho, ht, -⟩ := id X
  have hRf : 0 ≤ ({ frames := 0, cells := 0, slots := 0, locals := 0 } : Room).frames := Nat.le_refl _
  have hRl : 0 ≤ ({ frames := 0, cells := 0, slots := 0, locals := 0 } : Room).locals := Nat.le_refl _
  have hl : lv_has ls 4 [(0, .ref a), (1, .int x1)] := hl
  rw [f_X2_lettersThatAre] at h
  refine lv_iconst (v := nI 0) hx hb dX2_lettersThatAre_0 (by decide) ?_
  refine lv_istore_n (lv' := [(2, .int (nI 0)), (0, .ref a), (1, .int x1)]) hx hb dX2_lettersThatAre_1 rfl hl (by decide) rfl (fun ls hl => ?_)
  refine lv_iconst (v := nI 0) hx hb dX2_lettersThatAre_2 (by decide) ?_
  refine lv_istore_n (lv' := [(3, .int (nI 0)), (2, .int (nI 0)), (0, .ref a), (1, .int x1)]) hx hb dX2_lettersThatAre_3 rfl hl (by decide) rfl (fun ls hl => ?_)
  refine w_X2_lettersThatAre_L4 X hRf hRl ka _ (fun y11 y12 H locs ls h hM hl => ?_) _ _ _ _ _ _ h hM (lv_sub hl [2, 3, 1, 0] rfl)
  refine lv_iload_n hx hb dX2_lettersThatAre_34 rfl (lv_at hl 2 rfl) ?_
  exact cz_retp X hM h rfl dX2_lettersThatAre_35
theorem mv_X2_allDelays : cz_MV yX2_allDelays cX2_allDelays 3 (some .int) RX2 0 := ⟨mi_X2_allDelays, ms_X2_allDelays, mc_X2_allDelays, ini_X2, by decide +kernel⟩
set_option maxHeartbeats 4000000 in
set_option maxRecDepth 100000 in
theorem w_X2_allDelays_L4 {p : Program} {l : Launch} {e : Env} {R : Room} {s : State} {m : MethodId} {args : Array Value} {below : List Frame} {meth : Method} {c : Code} {g : cz_G} {b : Nat} (X : cz_X p s m args meth c cX2_allDelays 3 RX2 g b (some .int)) (hRf : 0 ≤ R.frames) (hRl : 0 ≤ R.locals) {r0 : Int32} {a0 : Nat} {M : cz_M} (ka0 : cz_K b a0 2)
    (K : Int32 → Int32 → Option (Int32)) (hX : ∀ (x1 : Int32) (x2 : Int32)  (H : Heap) (locs : List Loc) (ls : Array Slot), K x1 x2 = some r0 → cz_WS g b M s H locs → lv_has ls 3 [(0, .ref a0), (1, .int x1), (2, .int x2)] → W p l e R s m args below meth c H locs 0 0 (MQ below (cz_Q g b (some (.int r0)) M) args s 0 0 (cz_Ar b)) (F0 m 43 ls [])) :
    ∀ (n : Nat) (x1 : Int32) (x2 : Int32)  (H : Heap) (locs : List Loc) (ls : Array Slot), cz_it2 (f_X2_allDelays_L4 a0 M K) n x1 x2 = some r0 → cz_WS g b M s H locs → lv_has ls 3 [(0, .ref a0), (1, .int x1), (2, .int x2)] → W p l e R s m args below meth c H locs 0 0 (MQ below (cz_Q g b (some (.int r0)) M) args s 0 0 (cz_Ar b)) (F0 m 4 ls []) := by
  obtain ⟨hx, hb, -, ho, ht, -⟩ := id X
  intro n
  induction n with
  | zero => intro x1 x2 H locs ls h; cases (show none = some _ from h)
  | succ n ih =>
    intro x1 x2 H locs ls h hM hl
    have h : f_X2_allDelays_L4 a0 M K (cz_it2 (f_X2_allDelays_L4 a0 M K) n) x1 x2 = some r0 := h
    rw [f_X2_allDelays_L4] at h
    refine lv_iload_n hx hb dX2_allDelays_4 rfl (lv_at hl 2 rfl) ?_
    refine lv_aload_n hx hb dX2_allDelays_5 rfl (lv_at hl 0 rfl) ?_
    refine cz_getI X hM ff_X2_7 ka0 lk_X2_56 dX2_allDelays_6 ?_
    refine lv_icmp_ge (tgt := 43) hx hb dX2_allDelays_9 (by decide) (fun c1 => ?_) (fun c1 => ?_)
    · have h := cz_ite_t c1 h
      exact hX _ _ _ _ _ h hM (lv_sub hl [0, 1, 2] rfl)
    · have h := cz_ite_f c1 h
      refine lv_aload_n hx hb dX2_allDelays_12 rfl (lv_at hl 0 rfl) ?_
      refine cz_getR X hM ff_X2_3 ka0 lk_X2_26 dX2_allDelays_13 (fun hk2 => ?_)
      refine lv_iload_n hx hb dX2_allDelays_16 rfl (lv_at hl 2 rfl) ?_
      refine cz_aald1 X hM h hk2 dX2_allDelays_17 (fun h hk3 => ?_)
      refine cz_getI X hM ff_X1_5 hk3 lk_X2_80 dX2_allDelays_18 ?_
      refine lv_iconst (v := nI 1) hx hb dX2_allDelays_21 (by decide) ?_
      refine lv_icmp_ne (tgt := 37) hx hb dX2_allDelays_22 (by decide) (fun c4 => ?_) (fun c4 => ?_)
      · have h := cz_ite_f c4 h
        refine cz_nmL (v := x2 + nI 1) h (fun v5 e6 h => ?_)
        refine lv_iinc (v := v5) (lv' := [(2, .int v5), (0, .ref a0), (1, .int x1)]) hx hb dX2_allDelays_37 hl (k := 2) rfl (by rw [e6]; rfl) (by decide) rfl (fun ls hl => ?_)
        refine lv_goto (tgt := 4) hx hb dX2_allDelays_40 (by decide) ?_
        exact ih _ _ _ _ _ h hM (lv_sub hl [1, 2, 0] rfl)
      · have h := cz_ite_t c4 h
        refine lv_iload_n hx hb dX2_allDelays_25 rfl (lv_at hl 1 rfl) ?_
        refine lv_aload_n hx hb dX2_allDelays_26 rfl (lv_at hl 0 rfl) ?_
        refine cz_getR X hM ff_X2_3 ka0 lk_X2_26 dX2_allDelays_27 (fun hk7 => ?_)
        refine lv_iload_n hx hb dX2_allDelays_30 rfl (lv_at hl 2 rfl) ?_
        refine cz_aald1 X hM h hk7 dX2_allDelays_31 (fun h hk8 => ?_)
        refine cz_getI X hM ff_X1_6 hk8 lk_X2_89 dX2_allDelays_32 ?_
        refine lv_iadd hx hb dX2_allDelays_35 ?_
        refine cz_nmi h (fun v9 h => ?_)
        refine lv_istore_n (lv' := [(1, .int v9), (0, .ref a0), (2, .int x2)]) hx hb dX2_allDelays_36 rfl hl (by decide) rfl (fun ls hl => ?_)
        refine cz_nmL (v := x2 + nI 1) h (fun v10 e11 h => ?_)
        refine lv_iinc (v := v10) (lv' := [(2, .int v10), (1, .int v9), (0, .ref a0)]) hx hb dX2_allDelays_37 hl (k := 2) rfl (by rw [e11]; rfl) (by decide) rfl (fun ls hl => ?_)
        refine lv_goto (tgt := 4) hx hb dX2_allDelays_40 (by decide) ?_
        exact ih _ _ _ _ _ h hM (lv_sub hl [2, 1, 0] rfl)
set_option maxHeartbeats 4000000 in
set_option maxRecDepth 100000 in
theorem c_X2_allDelays {l : Launch} {g : cz_G} {b : Nat} {M : cz_M} {r0 : Int32} {a : Nat} (ka : cz_K b a 2) (h : f_X2_allDelays M a = some r0) : cz_C l yX2_allDelays cX2_allDelays 3 (some .int) 0 0 g b [.ref a] M (some (.int r0)) M := by
  refine cz_start (by decide) (Nat.le_of_ble_eq_true rfl) (fun p e s m args below meth c X H ls hM hl => ?_)
  have X : cz_X p s m args meth c cX2_allDelays 3 RX2 g b (some .int) := X
  obtain ⟨hx, hb, -, ho, ht, -⟩ := id X
  have hRf : 0 ≤ ({ frames := 0, cells := 0, slots := 0, locals := 0 } : Room).frames := Nat.le_refl _
  have hRl : 0 ≤ ({ frames := 0, cells := 0, slots := 0, locals := 0 } : Room).locals := Nat.le_refl _
  have hl : lv_has ls 3 [(0, .ref a)] := hl
  rw [f_X2_allDelays] at h
  refine lv_iconst (v := nI 0) hx hb dX2_allDelays_0 (by decide) ?_
  refine lv_istore_n (lv' := [(1, .int (nI 0)), (0, .ref a)]) hx hb dX2_allDelays_1 rfl hl (by decide) rfl (fun ls hl => ?_)
  refine lv_iconst (v := nI 0) hx hb dX2_allDelays_2 (by decide) ?_
  refine lv_istore_n (lv' := [(2, .int (nI 0)), (1, .int (nI 0)), (0, .ref a)]) hx hb dX2_allDelays_3 rfl hl (by decide) rfl (fun ls hl => ?_)
  refine w_X2_allDelays_L4 X hRf hRl ka _ (fun y12 y13 H locs ls h hM hl => ?_) _ _ _ _ _ _ h hM (lv_sub hl [2, 1, 0] rfl)
  refine lv_iload_n hx hb dX2_allDelays_43 rfl (lv_at hl 1 rfl) ?_
  exact cz_retp X hM h rfl dX2_allDelays_44
theorem mv_X2_longestDelay : cz_MV yX2_longestDelay cX2_longestDelay 3 (some .int) RX2 0 := ⟨mi_X2_longestDelay, ms_X2_longestDelay, mc_X2_longestDelay, ini_X2, by decide +kernel⟩
set_option maxHeartbeats 4000000 in
set_option maxRecDepth 100000 in
theorem w_X2_longestDelay_L4 {p : Program} {l : Launch} {e : Env} {R : Room} {s : State} {m : MethodId} {args : Array Value} {below : List Frame} {meth : Method} {c : Code} {g : cz_G} {b : Nat} (X : cz_X p s m args meth c cX2_longestDelay 3 RX2 g b (some .int)) (hRf : 1 ≤ R.frames) (hRl : 48 ≤ R.locals) {r0 : Int32} {a0 : Nat} {M : cz_M} (ka0 : cz_K b a0 2)
    (K : Int32 → Int32 → Option (Int32)) (hX : ∀ (x1 : Int32) (x2 : Int32)  (H : Heap) (locs : List Loc) (ls : Array Slot), K x1 x2 = some r0 → cz_WS g b M s H locs → lv_has ls 3 [(0, .ref a0), (1, .int x1), (2, .int x2)] → W p l e R s m args below meth c H locs 0 0 (MQ below (cz_Q g b (some (.int r0)) M) args s 0 0 (cz_Ar b)) (F0 m 45 ls [])) :
    ∀ (n : Nat) (x1 : Int32) (x2 : Int32)  (H : Heap) (locs : List Loc) (ls : Array Slot), cz_it2 (f_X2_longestDelay_L4 a0 M K) n x1 x2 = some r0 → cz_WS g b M s H locs → lv_has ls 3 [(0, .ref a0), (1, .int x1), (2, .int x2)] → W p l e R s m args below meth c H locs 0 0 (MQ below (cz_Q g b (some (.int r0)) M) args s 0 0 (cz_Ar b)) (F0 m 4 ls []) := by
  obtain ⟨hx, hb, -, ho, ht, -⟩ := id X
  intro n
  induction n with
  | zero => intro x1 x2 H locs ls h; cases (show none = some _ from h)
  | succ n ih =>
    intro x1 x2 H locs ls h hM hl
    have h : f_X2_longestDelay_L4 a0 M K (cz_it2 (f_X2_longestDelay_L4 a0 M K) n) x1 x2 = some r0 := h
    rw [f_X2_longestDelay_L4] at h
    refine lv_iload_n hx hb dX2_longestDelay_4 rfl (lv_at hl 2 rfl) ?_
    refine lv_aload_n hx hb dX2_longestDelay_5 rfl (lv_at hl 0 rfl) ?_
    refine cz_getI X hM ff_X2_7 ka0 lk_X2_56 dX2_longestDelay_6 ?_
    refine lv_icmp_ge (tgt := 45) hx hb dX2_longestDelay_9 (by decide) (fun c1 => ?_) (fun c1 => ?_)
    · have h := cz_ite_t c1 h
      exact hX _ _ _ _ _ h hM (lv_sub hl [0, 1, 2] rfl)
    · have h := cz_ite_f c1 h
      refine lv_aload_n hx hb dX2_longestDelay_12 rfl (lv_at hl 0 rfl) ?_
      refine cz_getR X hM ff_X2_3 ka0 lk_X2_26 dX2_longestDelay_13 (fun hk2 => ?_)
      refine lv_iload_n hx hb dX2_longestDelay_16 rfl (lv_at hl 2 rfl) ?_
      refine cz_aald1 X hM h hk2 dX2_longestDelay_17 (fun h hk3 => ?_)
      refine cz_getI X hM ff_X1_5 hk3 lk_X2_80 dX2_longestDelay_18 ?_
      refine lv_iconst (v := nI 1) hx hb dX2_longestDelay_21 (by decide) ?_
      refine lv_icmp_ne (tgt := 39) hx hb dX2_longestDelay_22 (by decide) (fun c4 => ?_) (fun c4 => ?_)
      · have h := cz_ite_f c4 h
        refine cz_nmL (v := x2 + nI 1) h (fun v5 e6 h => ?_)
        refine lv_iinc (v := v5) (lv' := [(2, .int v5), (0, .ref a0), (1, .int x1)]) hx hb dX2_longestDelay_39 hl (k := 2) rfl (by rw [e6]; rfl) (by decide) rfl (fun ls hl => ?_)
        refine lv_goto (tgt := 4) hx hb dX2_longestDelay_42 (by decide) ?_
        exact ih _ _ _ _ _ h hM (lv_sub hl [1, 2, 0] rfl)
      · have h := cz_ite_t c4 h
        refine lv_iload_n hx hb dX2_longestDelay_25 rfl (lv_at hl 1 rfl) ?_
        refine lv_aload_n hx hb dX2_longestDelay_26 rfl (lv_at hl 0 rfl) ?_
        refine cz_getR X hM ff_X2_3 ka0 lk_X2_26 dX2_longestDelay_27 (fun hk7 => ?_)
        refine lv_iload_n hx hb dX2_longestDelay_30 rfl (lv_at hl 2 rfl) ?_
        refine cz_aald1 X hM h hk7 dX2_longestDelay_31 (fun h hk8 => ?_)
        refine cz_getI X hM ff_X1_6 hk8 lk_X2_89 dX2_longestDelay_32 ?_
        refine cz_max X hl.1 ml_X2_92 (Nat.le_trans (Nat.le_of_ble_eq_true rfl) hRf) (Nat.le_trans (Nat.le_of_ble_eq_true rfl) hRl) dX2_longestDelay_35 ?_
        refine cz_nmi h (fun v9 h => ?_)
        refine lv_istore_n (lv' := [(1, .int v9), (0, .ref a0), (2, .int x2)]) hx hb dX2_longestDelay_38 rfl hl (by decide) rfl (fun ls hl => ?_)
        refine cz_nmL (v := x2 + nI 1) h (fun v10 e11 h => ?_)
        refine lv_iinc (v := v10) (lv' := [(2, .int v10), (1, .int v9), (0, .ref a0)]) hx hb dX2_longestDelay_39 hl (k := 2) rfl (by rw [e11]; rfl) (by decide) rfl (fun ls hl => ?_)
        refine lv_goto (tgt := 4) hx hb dX2_longestDelay_42 (by decide) ?_
        exact ih _ _ _ _ _ h hM (lv_sub hl [2, 1, 0] rfl)
set_option maxHeartbeats 4000000 in
set_option maxRecDepth 100000 in
theorem c_X2_longestDelay {l : Launch} {g : cz_G} {b : Nat} {M : cz_M} {r0 : Int32} {a : Nat} (ka : cz_K b a 2) (h : f_X2_longestDelay M a = some r0) : cz_C l yX2_longestDelay cX2_longestDelay 3 (some .int) 1 48 g b [.ref a] M (some (.int r0)) M := by
  refine cz_start (by decide) (Nat.le_of_ble_eq_true rfl) (fun p e s m args below meth c X H ls hM hl => ?_)
  have X : cz_X p s m args meth c cX2_longestDelay 3 RX2 g b (some .int) := X
  obtain ⟨hx, hb, -, ho, ht, -⟩ := id X
  have hRf : 1 ≤ ({ frames := 1, cells := 0, slots := 0, locals := 48 } : Room).frames := Nat.le_refl _
  have hRl : 48 ≤ ({ frames := 1, cells := 0, slots := 0, locals := 48 } : Room).locals := Nat.le_refl _
  have hl : lv_has ls 3 [(0, .ref a)] := hl
  rw [f_X2_longestDelay] at h
  refine lv_iconst (v := nI 0) hx hb dX2_longestDelay_0 (by decide) ?_
  refine lv_istore_n (lv' := [(1, .int (nI 0)), (0, .ref a)]) hx hb dX2_longestDelay_1 rfl hl (by decide) rfl (fun ls hl => ?_)
  refine lv_iconst (v := nI 0) hx hb dX2_longestDelay_2 (by decide) ?_
  refine lv_istore_n (lv' := [(2, .int (nI 0)), (1, .int (nI 0)), (0, .ref a)]) hx hb dX2_longestDelay_3 rfl hl (by decide) rfl (fun ls hl => ?_)
  refine w_X2_longestDelay_L4 X hRf hRl ka _ (fun y12 y13 H locs ls h hM hl => ?_) _ _ _ _ _ _ h hM (lv_sub hl [2, 1, 0] rfl)
  refine lv_iload_n hx hb dX2_longestDelay_45 rfl (lv_at hl 1 rfl) ?_
  exact cz_retp X hM h rfl dX2_longestDelay_46
theorem mv_X2_wordsStruckInLetters : cz_MV yX2_wordsStruckInLetters cX2_wordsStruckInLetters 3 (some .int) RX2 0 := ⟨mi_X2_wordsStruckInLetters, ms_X2_wordsStruckInLetters, mc_X2_wordsStruckInLetters, ini_X2, by decide +kernel⟩
set_option maxHeartbeats 4000000 in
set_option maxRecDepth 100000 in
theorem w_X2_wordsStruckInLetters_L4 {p : Program} {l : Launch} {e : Env} {R : Room} {s : State} {m : MethodId} {args : Array Value} {below : List Frame} {meth : Method} {c : Code} {g : cz_G} {b : Nat} (X : cz_X p s m args meth c cX2_wordsStruckInLetters 3 RX2 g b (some .int)) (hRf : 2 ≤ R.frames) (hRl : 40 ≤ R.locals) {r0 : Int32} {a0 : Nat} {M : cz_M} (ka0 : cz_K b a0 2)
    (K : Int32 → Int32 → Option (Int32)) (hX : ∀ (x1 : Int32) (x2 : Int32)  (H : Heap) (locs : List Loc) (ls : Array Slot), K x1 x2 = some r0 → cz_WS g b M s H locs → lv_has ls 3 [(0, .ref a0), (1, .int x1), (2, .int x2)] → W p l e R s m args below meth c H locs 0 0 (MQ below (cz_Q g b (some (.int r0)) M) args s 0 0 (cz_Ar b)) (F0 m 43 ls [])) :
    ∀ (n : Nat) (x1 : Int32) (x2 : Int32)  (H : Heap) (locs : List Loc) (ls : Array Slot), cz_it2 (f_X2_wordsStruckInLetters_L4 a0 M K) n x1 x2 = some r0 → cz_WS g b M s H locs → lv_has ls 3 [(0, .ref a0), (1, .int x1), (2, .int x2)] → W p l e R s m args below meth c H locs 0 0 (MQ below (cz_Q g b (some (.int r0)) M) args s 0 0 (cz_Ar b)) (F0 m 4 ls []) := by
  obtain ⟨hx, hb, -, ho, ht, -⟩ := id X
  intro n
  induction n with
  | zero => intro x1 x2 H locs ls h; cases (show none = some _ from h)
  | succ n ih =>
    intro x1 x2 H locs ls h hM hl
    have h : f_X2_wordsStruckInLetters_L4 a0 M K (cz_it2 (f_X2_wordsStruckInLetters_L4 a0 M K) n) x1 x2 = some r0 := h
    rw [f_X2_wordsStruckInLetters_L4] at h
    refine lv_iload_n hx hb dX2_wordsStruckInLetters_4 rfl (lv_at hl 2 rfl) ?_
    refine lv_aload_n hx hb dX2_wordsStruckInLetters_5 rfl (lv_at hl 0 rfl) ?_
    refine cz_getI X hM ff_X2_7 ka0 lk_X2_56 dX2_wordsStruckInLetters_6 ?_
    refine lv_icmp_ge (tgt := 43) hx hb dX2_wordsStruckInLetters_9 (by decide) (fun c1 => ?_) (fun c1 => ?_)
    · have h := cz_ite_t c1 h
      exact hX _ _ _ _ _ h hM (lv_sub hl [0, 1, 2] rfl)
    · have h := cz_ite_f c1 h
      refine lv_aload_n hx hb dX2_wordsStruckInLetters_12 rfl (lv_at hl 0 rfl) ?_
      refine cz_getR X hM ff_X2_3 ka0 lk_X2_26 dX2_wordsStruckInLetters_13 (fun hk2 => ?_)
      refine lv_iload_n hx hb dX2_wordsStruckInLetters_16 rfl (lv_at hl 2 rfl) ?_
      refine cz_aald1 X hM h hk2 dX2_wordsStruckInLetters_17 (fun h hk3 => ?_)
      refine cz_getI X hM ff_X1_5 hk3 lk_X2_80 dX2_wordsStruckInLetters_18 ?_
      refine lv_iconst (v := nI 1) hx hb dX2_wordsStruckInLetters_21 (by decide) ?_
      refine lv_icmp_ne (tgt := 37) hx hb dX2_wordsStruckInLetters_22 (by decide) (fun c4 => ?_) (fun c4 => ?_)
      · have h := cz_ite_f c4 h
        refine cz_nmL (v := x2 + nI 1) h (fun v5 e6 h => ?_)
        refine lv_iinc (v := v5) (lv' := [(2, .int v5), (0, .ref a0), (1, .int x1)]) hx hb dX2_wordsStruckInLetters_37 hl (k := 2) rfl (by rw [e6]; rfl) (by decide) rfl (fun ls hl => ?_)
        refine lv_goto (tgt := 4) hx hb dX2_wordsStruckInLetters_40 (by decide) ?_
        exact ih _ _ _ _ _ h hM (lv_sub hl [1, 2, 0] rfl)
      · have h := cz_ite_t c4 h
        refine lv_iload_n hx hb dX2_wordsStruckInLetters_25 rfl (lv_at hl 1 rfl) ?_
        refine lv_aload_n hx hb dX2_wordsStruckInLetters_26 rfl (lv_at hl 0 rfl) ?_
        refine cz_getR X hM ff_X2_3 ka0 lk_X2_26 dX2_wordsStruckInLetters_27 (fun hk7 => ?_)
        refine lv_iload_n hx hb dX2_wordsStruckInLetters_30 rfl (lv_at hl 2 rfl) ?_
        refine cz_aald1 X hM h hk7 dX2_wordsStruckInLetters_31 (fun h hk8 => ?_)
        obtain ⟨v9, hq, h⟩ := cz_bd_t h
        refine cz_runV (rest := [.int x1]) (As := []) (T := TX1) (N0 := 11) X hM hl.1 (c_X1_struckCount (l := l) (g := g) (b := b) hk8 hq) mv_X1_struckCount rfl (by decide) hk8 ml_X2_98 ⟨Nat.le_trans (Nat.le_of_ble_eq_true rfl) hRf, Nat.le_trans (Nat.le_of_ble_eq_true rfl) hRl⟩ rfl rfl (Nat.le_of_ble_eq_true rfl) dX2_wordsStruckInLetters_32 (fun H locs hM => ?_)
        refine lv_iadd hx hb dX2_wordsStruckInLetters_35 ?_
        refine cz_nmi h (fun v10 h => ?_)
        refine lv_istore_n (lv' := [(1, .int v10), (0, .ref a0), (2, .int x2)]) hx hb dX2_wordsStruckInLetters_36 rfl hl (by decide) rfl (fun ls hl => ?_)
        refine cz_nmL (v := x2 + nI 1) h (fun v11 e12 h => ?_)
        refine lv_iinc (v := v11) (lv' := [(2, .int v11), (1, .int v10), (0, .ref a0)]) hx hb dX2_wordsStruckInLetters_37 hl (k := 2) rfl (by rw [e12]; rfl) (by decide) rfl (fun ls hl => ?_)
        refine lv_goto (tgt := 4) hx hb dX2_wordsStruckInLetters_40 (by decide) ?_
        exact ih _ _ _ _ _ h hM (lv_sub hl [2, 1, 0] rfl)
set_option maxHeartbeats 4000000 in
set_option maxRecDepth 100000 in
theorem c_X2_wordsStruckInLetters {l : Launch} {g : cz_G} {b : Nat} {M : cz_M} {r0 : Int32} {a : Nat} (ka : cz_K b a 2) (h : f_X2_wordsStruckInLetters M a = some r0) : cz_C l yX2_wordsStruckInLetters cX2_wordsStruckInLetters 3 (some .int) 2 40 g b [.ref a] M (some (.int r0)) M := by
  refine cz_start (by decide) (Nat.le_of_ble_eq_true rfl) (fun p e s m args below meth c X H ls hM hl => ?_)
  have X : cz_X p s m args meth c cX2_wordsStruckInLetters 3 RX2 g b (some .int) := X
  obtain ⟨hx, hb, -, ho, ht, -⟩ := id X
  have hRf : 2 ≤ ({ frames := 2, cells := 0, slots := 0, locals := 40 } : Room).frames := Nat.le_refl _
  have hRl : 40 ≤ ({ frames := 2, cells := 0, slots := 0, locals := 40 } : Room).locals := Nat.le_refl _
  have hl : lv_has ls 3 [(0, .ref a)] := hl
  rw [f_X2_wordsStruckInLetters] at h
  refine lv_iconst (v := nI 0) hx hb dX2_wordsStruckInLetters_0 (by decide) ?_
  refine lv_istore_n (lv' := [(1, .int (nI 0)), (0, .ref a)]) hx hb dX2_wordsStruckInLetters_1 rfl hl (by decide) rfl (fun ls hl => ?_)
  refine lv_iconst (v := nI 0) hx hb dX2_wordsStruckInLetters_2 (by decide) ?_
  refine lv_istore_n (lv' := [(2, .int (nI 0)), (1, .int (nI 0)), (0, .ref a)]) hx hb dX2_wordsStruckInLetters_3 rfl hl (by decide) rfl (fun ls hl => ?_)
  refine w_X2_wordsStruckInLetters_L4 X hRf hRl ka _ (fun y13 y14 H locs ls h hM hl => ?_) _ _ _ _ _ _ h hM (lv_sub hl [2, 1, 0] rfl)
  refine lv_iload_n hx hb dX2_wordsStruckInLetters_43 rfl (lv_at hl 1 rfl) ?_
  exact cz_retp X hM h rfl dX2_wordsStruckInLetters_44
theorem mv_X2_findHeadsIn : cz_MV yX2_findHeadsIn cX2_findHeadsIn 5 none RX2 1 := ⟨mi_X2_findHeadsIn, ms_X2_findHeadsIn, mc_X2_findHeadsIn, ini_X2, by decide +kernel⟩
set_option maxHeartbeats 4000000 in
set_option maxRecDepth 100000 in
theorem w_X2_findHeadsIn_L2 {p : Program} {l : Launch} {e : Env} {R : Room} {s : State} {m : MethodId} {args : Array Value} {below : List Frame} {meth : Method} {c : Code} {g : cz_G} {b : Nat} (X : cz_X p s m args meth c cX2_findHeadsIn 5 RX2 g b none) (hRf : 0 ≤ R.frames) (hRl : 0 ≤ R.locals) {M9 : cz_M} {a0 : Nat} {a1 : Nat} (ka0 : cz_K b a0 2) (ka1 : cz_K b a1 3)
    (K : Int32 → cz_M → Option (cz_M)) (hX : ∀ (x2 : Int32)  (M : cz_M) (H : Heap) (locs : List Loc) (ls : Array Slot), K x2 M = some M9 → cz_WS g b M s H locs → lv_has ls 5 [(0, .ref a0), (1, .ref a1), (2, .int x2)] → W p l e R s m args below meth c H locs 0 0 (MQ below (cz_Q g b none M9) args s 0 0 (cz_Ar b)) (F0 m 65 ls [])) :
    ∀ (n : Nat) (x2 : Int32)  (M : cz_M) (H : Heap) (locs : List Loc) (ls : Array Slot), cz_it2 (f_X2_findHeadsIn_L2 a0 a1 K) n x2 M = some M9 → cz_WS g b M s H locs → lv_has ls 5 [(0, .ref a0), (1, .ref a1), (2, .int x2)] → W p l e R s m args below meth c H locs 0 0 (MQ below (cz_Q g b none M9) args s 0 0 (cz_Ar b)) (F0 m 2 ls []) := by
  obtain ⟨hx, hb, -, ho, ht, -⟩ := id X
  intro n
  induction n with
  | zero => intro x2 M H locs ls h; cases (show none = some _ from h)
  | succ n ih =>
    intro x2 M H locs ls h hM hl
    have h : f_X2_findHeadsIn_L2 a0 a1 K (cz_it2 (f_X2_findHeadsIn_L2 a0 a1 K) n) x2 M = some M9 := h
    rw [f_X2_findHeadsIn_L2] at h
    refine lv_iload_n hx hb dX2_findHeadsIn_2 rfl (lv_at hl 2 rfl) ?_
    refine lv_aload_n hx hb dX2_findHeadsIn_3 rfl (lv_at hl 1 rfl) ?_
    refine cz_getI X hM ff_X3_1 ka1 lk_X2_111 dX2_findHeadsIn_4 ?_
    refine lv_icmp_ge (tgt := 65) hx hb dX2_findHeadsIn_7 (by decide) (fun c1 => ?_) (fun c1 => ?_)
    · have h := cz_ite_t c1 h
      exact hX _ _ _ _ _ h hM (lv_sub hl [0, 1, 2] rfl)
    · have h := cz_ite_f c1 h
      refine lv_aload_n hx hb dX2_findHeadsIn_10 rfl (lv_at hl 1 rfl) ?_
      refine cz_getR X hM ff_X3_0 ka1 lk_X2_114 dX2_findHeadsIn_11 (fun hk2 => ?_)
      refine lv_iload_n hx hb dX2_findHeadsIn_14 rfl (lv_at hl 2 rfl) ?_
      refine cz_iald (n := 40) X hM h hk2 (by decide) dX2_findHeadsIn_15 (fun h => ?_)
      refine cz_nmi h (fun v3 h => ?_)
      refine lv_istore_n (lv' := [(3, .int v3), (0, .ref a0), (1, .ref a1), (2, .int x2)]) hx hb dX2_findHeadsIn_16 rfl hl (by decide) rfl (fun ls hl => ?_)
      refine lv_aload_n hx hb dX2_findHeadsIn_17 rfl (lv_at hl 1 rfl) ?_
      refine cz_getR X hM ff_X2_3 ka0 lk_X2_26 dX2_findHeadsIn_18 (fun hk4 => ?_)
      refine lv_iload_n hx hb dX2_findHeadsIn_21 rfl (lv_at hl 0 rfl) ?_
      refine cz_aald1 X hM h hk4 dX2_findHeadsIn_22 (fun h hk5 => ?_)
      refine cz_getI X hM ff_X1_0 hk5 lk_X2_86 dX2_findHeadsIn_23 ?_
      refine cz_nmi h (fun v6 h => ?_)
      refine lv_istore (lv' := [(4, .int v6), (3, .int v3), (0, .ref a0), (1, .ref a1), (2, .int x2)]) hx hb dX2_findHeadsIn_26 hl (by decide) rfl (fun ls hl => ?_)
      refine lv_aload_n hx hb dX2_findHeadsIn_28 rfl (lv_at hl 2 rfl) ?_
      refine cz_getR X hM ff_X2_6 ka0 lk_X2_41 dX2_findHeadsIn_29 (fun hk7 => ?_)
      refine lv_iload hx hb dX2_findHeadsIn_32 (lv_at hl 0 rfl) ?_
      refine cz_iald (n := 5) X hM h hk7 (by decide) dX2_findHeadsIn_34 (fun h => ?_)
      refine lv_bipush (v := -6) hx hb dX2_findHeadsIn_35 (by decide) ?_
      refine lv_icmp_eq (tgt := 51) hx hb dX2_findHeadsIn_37 (by decide) (fun c8 => ?_) (fun c8 => ?_)
      · have h := cz_ite_t c8 h
        refine lv_aload_n hx hb dX2_findHeadsIn_51 rfl (lv_at hl 2 rfl) ?_
        refine cz_getR X hM ff_X2_6 ka0 lk_X2_41 dX2_findHeadsIn_52 (fun hk9 => ?_)
        refine lv_iload hx hb dX2_findHeadsIn_55 (lv_at hl 0 rfl) ?_
        refine lv_iload_n hx hb dX2_findHeadsIn_57 rfl (lv_at hl 1 rfl) ?_
        refine cz_iast (n := 5) X hM h hk9 (by decide) dX2_findHeadsIn_58 (fun M10 H locs h hM => ?_)
        refine cz_nmL (v := x2 + nI 1) h (fun v11 e12 h => ?_)
        refine lv_iinc (v := v11) (lv' := [(2, .int v11), (4, .int v6), (3, .int v3), (0, .ref a0), (1, .ref a1)]) hx hb dX2_findHeadsIn_59 hl (k := 4) rfl (by rw [e12]; rfl) (by decide) rfl (fun ls hl => ?_)
        refine lv_goto (tgt := 2) hx hb dX2_findHeadsIn_62 (by decide) ?_
        exact ih _ _ _ _ _ h hM (lv_sub hl [3, 4, 0] rfl)
      · have h := cz_ite_f c8 h
        refine lv_aload_n hx hb dX2_findHeadsIn_40 rfl (lv_at hl 2 rfl) ?_
        refine cz_getR X hM ff_X2_6 ka0 lk_X2_41 dX2_findHeadsIn_41 (fun hk13 => ?_)
        refine lv_iload hx hb dX2_findHeadsIn_44 (lv_at hl 0 rfl) ?_
        refine cz_iald (n := 5) X hM h hk13 (by decide) dX2_findHeadsIn_46 (fun h => ?_)
        refine lv_iload_n hx hb dX2_findHeadsIn_47 rfl (lv_at hl 1 rfl) ?_
        refine lv_icmp_le (tgt := 59) hx hb dX2_findHeadsIn_48 (by decide) (fun c14 => ?_) (fun c14 => ?_)
        · have h := cz_ite_t c14 h
          refine cz_nmL (v := x2 + nI 1) h (fun v15 e16 h => ?_)
          refine lv_iinc (v := v15) (lv' := [(2, .int v15), (4, .int v6), (3, .int v3), (0, .ref a0), (1, .ref a1)]) hx hb dX2_findHeadsIn_59 hl (k := 4) rfl (by rw [e16]; rfl) (by decide) rfl (fun ls hl => ?_)
          refine lv_goto (tgt := 2) hx hb dX2_findHeadsIn_62 (by decide) ?_
          exact ih _ _ _ _ _ h hM (lv_sub hl [3, 4, 0] rfl)
        · have h := cz_ite_f c14 h
          refine lv_aload_n hx hb dX2_findHeadsIn_51 rfl (lv_at hl 2 rfl) ?_
          refine cz_getR X hM ff_X2_6 ka0 lk_X2_41 dX2_findHeadsIn_52 (fun hk17 => ?_)
          refine lv_iload hx hb dX2_findHeadsIn_55 (lv_at hl 0 rfl) ?_
          refine lv_iload_n hx hb dX2_findHeadsIn_57 rfl (lv_at hl 1 rfl) ?_
          refine cz_iast (n := 5) X hM h hk17 (by decide) dX2_findHeadsIn_58 (fun M18 H locs h hM => ?_)
          refine cz_nmL (v := x2 + nI 1) h (fun v19 e20 h => ?_)
          refine lv_iinc (v := v19) (lv' := [(2, .int v19), (4, .int v6), (3, .int v3), (0, .ref a0), (1, .ref a1)]) hx hb dX2_findHeadsIn_59 hl (k := 4) rfl (by rw [e20]; rfl) (by decide) rfl (fun ls hl => ?_)
          refine lv_goto (tgt := 2) hx hb dX2_findHeadsIn_62 (by decide) ?_
          exact ih _ _ _ _ _ h hM (lv_sub hl [3, 4, 0] rfl)
set_option maxHeartbeats 4000000 in
set_option maxRecDepth 100000 in
theorem c_X2_findHeadsIn {l : Launch} {g : cz_G} {b : Nat} {M : cz_M} {M9 : cz_M} {a : Nat} {a1 : Nat} (ka : cz_K b a 2) (ka1 : cz_K b a1 3) (h : f_X2_findHeadsIn M a a1 = some M9) : cz_C l yX2_findHeadsIn cX2_findHeadsIn 5 none 0 0 g b [.ref a, .ref a1] M none M9 := by
  refine cz_start (by decide) (Nat.le_of_ble_eq_true rfl) (fun p e s m args below meth c X H ls hM hl => ?_)
  have X : cz_X p s m args meth c cX2_findHeadsIn 5 RX2 g b none := X
  obtain ⟨hx, hb, -, ho, ht, -⟩ := id X
  have hRf : 0 ≤ ({ frames := 0, cells := 0, slots := 0, locals := 0 } : Room).frames := Nat.le_refl _
  have hRl : 0 ≤ ({ frames := 0, cells := 0, slots := 0, locals := 0 } : Room).locals := Nat.le_refl _
  have hl : lv_has ls 5 [(0, .ref a), (1, .ref a1)] := hl
  rw [f_X2_findHeadsIn] at h
  refine lv_iconst (v := nI 0) hx hb dX2_findHeadsIn_0 (by decide) ?_
  refine lv_istore_n (lv' := [(2, .int (nI 0)), (0, .ref a), (1, .ref a1)]) hx hb dX2_findHeadsIn_1 rfl hl (by decide) rfl (fun ls hl => ?_)
  refine w_X2_findHeadsIn_L2 X hRf hRl ka ka1 _ (fun y21 M22 H locs ls h hM hl => ?_) _ _ _ _ _ _ h hM (lv_sub hl [1, 2, 0] rfl)
  exact cz_retv X hM h dX2_findHeadsIn_65
theorem mv_X2_findHeads : cz_MV yX2_findHeads cX2_findHeads 2 none RX2 0 := ⟨mi_X2_findHeads, ms_X2_findHeads, mc_X2_findHeads, ini_X2, by decide +kernel⟩
set_option maxHeartbeats 4000000 in
set_option maxRecDepth 100000 in
theorem w_X2_findHeads_L2 {p : Program} {l : Launch} {e : Env} {R : Room} {s : State} {m : MethodId} {args : Array Value} {below : List Frame} {meth : Method} {c : Code} {g : cz_G} {b : Nat} (X : cz_X p s m args meth c cX2_findHeads 2 RX2 g b none) (hRf : 1 ≤ R.frames) (hRl : 24 ≤ R.locals) {M9 : cz_M} {a0 : Nat} (ka0 : cz_K b a0 2)
    (K : Int32 → cz_M → Option (cz_M)) (hX : ∀ (x1 : Int32)  (M : cz_M) (H : Heap) (locs : List Loc) (ls : Array Slot), K x1 M = some M9 → cz_WS g b M s H locs → lv_has ls 2 [(0, .ref a0), (1, .int x1)] → W p l e R s m args below meth c H locs 0 0 (MQ below (cz_Q g b none M9) args s 0 0 (cz_Ar b)) (F0 m 21 ls [])) :
    ∀ (n : Nat) (x1 : Int32)  (M : cz_M) (H : Heap) (locs : List Loc) (ls : Array Slot), cz_it2 (f_X2_findHeads_L2 a0 K) n x1 M = some M9 → cz_WS g b M s H locs → lv_has ls 2 [(0, .ref a0), (1, .int x1)] → W p l e R s m args below meth c H locs 0 0 (MQ below (cz_Q g b none M9) args s 0 0 (cz_Ar b)) (F0 m 2 ls []) := by
  obtain ⟨hx, hb, -, ho, ht, -⟩ := id X
  intro n
  induction n with
  | zero => intro x1 M H locs ls h; cases (show none = some _ from h)
  | succ n ih =>
    intro x1 M H locs ls h hM hl
    have h : f_X2_findHeads_L2 a0 K (cz_it2 (f_X2_findHeads_L2 a0 K) n) x1 M = some M9 := h
    rw [f_X2_findHeads_L2] at h
    refine lv_iload_n hx hb dX2_findHeads_2 rfl (lv_at hl 1 rfl) ?_
    refine lv_iconst (v := nI 5) hx hb dX2_findHeads_3 (by decide) ?_
    refine lv_icmp_ge (tgt := 21) hx hb dX2_findHeads_4 (by decide) (fun c1 => ?_) (fun c1 => ?_)
    · have h := cz_ite_t c1 h
      exact hX _ _ _ _ _ h hM (lv_sub hl [0, 1] rfl)
    · have h := cz_ite_f c1 h
      refine lv_aload_n hx hb dX2_findHeads_7 rfl (lv_at hl 0 rfl) ?_
      refine cz_getR X hM ff_X2_6 ka0 lk_X2_41 dX2_findHeads_8 (fun hk2 => ?_)
      refine lv_iload_n hx hb dX2_findHeads_11 rfl (lv_at hl 1 rfl) ?_
      refine lv_bipush (v := -6) hx hb dX2_findHeads_12 (by decide) ?_
      refine cz_iast (n := 5) X hM h hk2 (by decide) dX2_findHeads_14 (fun M3 H locs h hM => ?_)
      refine cz_nmL (v := x1 + nI 1) h (fun v4 e5 h => ?_)
      refine lv_iinc (v := v4) (lv' := [(1, .int v4), (0, .ref a0)]) hx hb dX2_findHeads_15 hl (k := 1) rfl (by rw [e5]; rfl) (by decide) rfl (fun ls hl => ?_)
      refine lv_goto (tgt := 2) hx hb dX2_findHeads_18 (by decide) ?_
      exact ih _ _ _ _ _ h hM (lv_sub hl [1, 0] rfl)
set_option maxHeartbeats 4000000 in
set_option maxRecDepth 100000 in
theorem w_X2_findHeads_L23 {p : Program} {l : Launch} {e : Env} {R : Room} {s : State} {m : MethodId} {args : Array Value} {below : List Frame} {meth : Method} {c : Code} {g : cz_G} {b : Nat} (X : cz_X p s m args meth c cX2_findHeads 2 RX2 g b none) (hRf : 1 ≤ R.frames) (hRl : 24 ≤ R.locals) {M9 : cz_M} {a0 : Nat} (ka0 : cz_K b a0 2)
    (K : Int32 → cz_M → Option (cz_M)) (hX : ∀ (x1 : Int32)  (M : cz_M) (H : Heap) (locs : List Loc) (ls : Array Slot), K x1 M = some M9 → cz_WS g b M s H locs → lv_has ls 2 [(0, .ref a0), (1, .int x1)] → W p l e R s m args below meth c H locs 0 0 (MQ below (cz_Q g b none M9) args s 0 0 (cz_Ar b)) (F0 m 44 ls [])) :
    ∀ (n : Nat) (x1 : Int32)  (M : cz_M) (H : Heap) (locs : List Loc) (ls : Array Slot), cz_it2 (f_X2_findHeads_L23 a0 K) n x1 M = some M9 → cz_WS g b M s H locs → lv_has ls 2 [(0, .ref a0), (1, .int x1)] → W p l e R s m args below meth c H locs 0 0 (MQ below (cz_Q g b none M9) args s 0 0 (cz_Ar b)) (F0 m 23 ls []) := by
  obtain ⟨hx, hb, -, ho, ht, -⟩ := id X
  intro n
  induction n with
  | zero => intro x1 M H locs ls h; cases (show none = some _ from h)
  | succ n ih =>
    intro x1 M H locs ls h hM hl
    have h : f_X2_findHeads_L23 a0 K (cz_it2 (f_X2_findHeads_L23 a0 K) n) x1 M = some M9 := h
    rw [f_X2_findHeads_L23] at h
    refine lv_iload_n hx hb dX2_findHeads_23 rfl (lv_at hl 1 rfl) ?_
    refine lv_iconst (v := nI 2) hx hb dX2_findHeads_24 (by decide) ?_
    refine lv_icmp_ge (tgt := 44) hx hb dX2_findHeads_25 (by decide) (fun c8 => ?_) (fun c8 => ?_)
    · have h := cz_ite_t c8 h
      exact hX _ _ _ _ _ h hM (lv_sub hl [0, 1] rfl)
    · have h := cz_ite_f c8 h
      refine lv_aload_n hx hb dX2_findHeads_28 rfl (lv_at hl 0 rfl) ?_
      refine lv_aload_n hx hb dX2_findHeads_29 rfl (lv_at hl 0 rfl) ?_
      refine cz_getR X hM ff_X2_4 ka0 lk_X2_32 dX2_findHeads_30 (fun hk9 => ?_)
      refine lv_iload_n hx hb dX2_findHeads_33 rfl (lv_at hl 1 rfl) ?_
      refine cz_aald2 X hM h hk9 dX2_findHeads_34 (fun h hk10 => ?_)
      obtain ⟨M11, hq, h⟩ := cz_bd_t h
      refine cz_runV (rest := []) (As := [.ref ((a0 + 5) + (48 + 2 * Int32.toNatClampNeg x1))]) (T := TX2) (N0 := 9) X hM hl.1 (c_X2_findHeadsIn (l := l) (g := g) (b := b) ka0 hk10 hq) mv_X2_findHeadsIn rfl (by decide) ka0 ml_X2_108 ⟨Nat.le_trans (Nat.le_of_ble_eq_true rfl) hRf, Nat.le_trans (Nat.le_of_ble_eq_true rfl) hRl⟩ rfl rfl (Nat.le_of_ble_eq_true rfl) dX2_findHeads_35 (fun H locs hM => ?_)
      refine cz_nmL (v := x1 + nI 1) h (fun v12 e13 h => ?_)
      refine lv_iinc (v := v12) (lv' := [(1, .int v12), (0, .ref a0)]) hx hb dX2_findHeads_38 hl (k := 1) rfl (by rw [e13]; rfl) (by decide) rfl (fun ls hl => ?_)
      refine lv_goto (tgt := 23) hx hb dX2_findHeads_41 (by decide) ?_
      exact ih _ _ _ _ _ h hM (lv_sub hl [1, 0] rfl)
set_option maxHeartbeats 4000000 in
set_option maxRecDepth 100000 in
theorem c_X2_findHeads {l : Launch} {g : cz_G} {b : Nat} {M : cz_M} {M9 : cz_M} {a : Nat} (ka : cz_K b a 2) (h : f_X2_findHeads M a = some M9) : cz_C l yX2_findHeads cX2_findHeads 2 none 1 24 g b [.ref a] M none M9 := by
  refine cz_start (by decide) (Nat.le_of_ble_eq_true rfl) (fun p e s m args below meth c X H ls hM hl => ?_)
  have X : cz_X p s m args meth c cX2_findHeads 2 RX2 g b none := X
  obtain ⟨hx, hb, -, ho, ht, -⟩ := id X
  have hRf : 1 ≤ ({ frames := 1, cells := 0, slots := 0, locals := 24 } : Room).frames := Nat.le_refl _
  have hRl : 24 ≤ ({ frames := 1, cells := 0, slots := 0, locals := 24 } : Room).locals := Nat.le_refl _
  have hl : lv_has ls 2 [(0, .ref a)] := hl
  rw [f_X2_findHeads] at h
  refine lv_iconst (v := nI 0) hx hb dX2_findHeads_0 (by decide) ?_
  refine lv_istore_n (lv' := [(1, .int (nI 0)), (0, .ref a)]) hx hb dX2_findHeads_1 rfl hl (by decide) rfl (fun ls hl => ?_)
  refine w_X2_findHeads_L2 X hRf hRl ka _ (fun y6 M7 H locs ls h hM hl => ?_) _ _ _ _ _ _ h hM (lv_sub hl [1, 0] rfl)
  refine lv_iconst (v := nI 0) hx hb dX2_findHeads_21 (by decide) ?_
  refine lv_istore_n (lv' := [(1, .int (nI 0)), (0, .ref a)]) hx hb dX2_findHeads_22 rfl hl (by decide) rfl (fun ls hl => ?_)
  refine w_X2_findHeads_L23 X hRf hRl ka _ (fun y14 M15 H locs ls h hM hl => ?_) _ _ _ _ _ _ h hM (lv_sub hl [1, 0] rfl)
  exact cz_retv X hM h dX2_findHeads_44
theorem mv_X2_threadsThatWait : cz_MV yX2_threadsThatWait cX2_threadsThatWait 3 (some .int) RX2 0 := ⟨mi_X2_threadsThatWait, ms_X2_threadsThatWait, mc_X2_threadsThatWait, ini_X2, by decide +kernel⟩
set_option maxHeartbeats 4000000 in
set_option maxRecDepth 100000 in
theorem w_X2_threadsThatWait_L8 {p : Program} {l : Launch} {e : Env} {R : Room} {s : State} {m : MethodId} {args : Array Value} {below : List Frame} {meth : Method} {c : Code} {g : cz_G} {b : Nat} (X : cz_X p s m args meth c cX2_threadsThatWait 3 RX2 g b (some .int)) (hRf : 2 ≤ R.frames) (hRl : 45 ≤ R.locals) {r0 : Int32} {M9 : cz_M} {a0 : Nat} {M : cz_M} (ka0 : cz_K b a0 2)
    (K : Int32 → Int32 → Option (Int32 × cz_M)) (hX : ∀ (x1 : Int32) (x2 : Int32)  (H : Heap) (locs : List Loc) (ls : Array Slot), K x1 x2 = some (r0, M9) → cz_WS g b M s H locs → lv_has ls 3 [(0, .ref a0), (1, .int x1), (2, .int x2)] → W p l e R s m args below meth c H locs 0 0 (MQ below (cz_Q g b (some (.int r0)) M9) args s 0 0 (cz_Ar b)) (F0 m 33 ls [])) :
    ∀ (n : Nat) (x1 : Int32) (x2 : Int32)  (H : Heap) (locs : List Loc) (ls : Array Slot), cz_it2 (f_X2_threadsThatWait_L8 a0 M K) n x1 x2 = some (r0, M9) → cz_WS g b M s H locs → lv_has ls 3 [(0, .ref a0), (1, .int x1), (2, .int x2)] → W p l e R s m args below meth c H locs 0 0 (MQ below (cz_Q g b (some (.int r0)) M9) args s 0 0 (cz_Ar b)) (F0 m 8 ls []) := by
  obtain ⟨hx, hb, -, ho, ht, -⟩ := id X
  intro n
  induction n with
  | zero => intro x1 x2 H locs ls h; cases (show none = some _ from h)
  | succ n ih =>
    intro x1 x2 H locs ls h hM hl
    have h : f_X2_threadsThatWait_L8 a0 M K (cz_it2 (f_X2_threadsThatWait_L8 a0 M K) n) x1 x2 = some (r0, M9) := h
    rw [f_X2_threadsThatWait_L8] at h
    refine lv_iload_n hx hb dX2_threadsThatWait_8 rfl (lv_at hl 2 rfl) ?_
    refine lv_iconst (v := nI 5) hx hb dX2_threadsThatWait_9 (by decide) ?_
    refine lv_icmp_ge (tgt := 33) hx hb dX2_threadsThatWait_10 (by decide) (fun c2 => ?_) (fun c2 => ?_)
    · have h := cz_ite_t c2 h
      exact hX _ _ _ _ _ h hM (lv_sub hl [0, 1, 2] rfl)
    · have h := cz_ite_f c2 h
      refine lv_aload_n hx hb dX2_threadsThatWait_13 rfl (lv_at hl 0 rfl) ?_
      refine cz_getR X hM ff_X2_6 ka0 lk_X2_41 dX2_threadsThatWait_14 (fun hk3 => ?_)
      refine lv_iload_n hx hb dX2_threadsThatWait_17 rfl (lv_at hl 2 rfl) ?_
      refine cz_iald (n := 5) X hM h hk3 (by decide) dX2_threadsThatWait_18 (fun h => ?_)
      refine lv_bipush (v := -6) hx hb dX2_threadsThatWait_19 (by decide) ?_
      refine lv_icmp_eq (tgt := 27) hx hb dX2_threadsThatWait_21 (by decide) (fun c4 => ?_) (fun c4 => ?_)
      · have h := cz_ite_t c4 h
        refine cz_nmL (v := x2 + nI 1) h (fun v5 e6 h => ?_)
        refine lv_iinc (v := v5) (lv' := [(2, .int v5), (0, .ref a0), (1, .int x1)]) hx hb dX2_threadsThatWait_27 hl (k := 2) rfl (by rw [e6]; rfl) (by decide) rfl (fun ls hl => ?_)
        refine lv_goto (tgt := 8) hx hb dX2_threadsThatWait_30 (by decide) ?_
        exact ih _ _ _ _ _ h hM (lv_sub hl [1, 2, 0] rfl)
      · have h := cz_ite_f c4 h
        refine cz_nmL (v := x1 + nI 1) h (fun v7 e8 h => ?_)
        refine lv_iinc (v := v7) (lv' := [(1, .int v7), (0, .ref a0), (2, .int x2)]) hx hb dX2_threadsThatWait_24 hl (k := 1) rfl (by rw [e8]; rfl) (by decide) rfl (fun ls hl => ?_)
        refine cz_nmL (v := x2 + nI 1) h (fun v9 e10 h => ?_)
        refine lv_iinc (v := v9) (lv' := [(2, .int v9), (1, .int v7), (0, .ref a0)]) hx hb dX2_threadsThatWait_27 hl (k := 2) rfl (by rw [e10]; rfl) (by decide) rfl (fun ls hl => ?_)
        refine lv_goto (tgt := 8) hx hb dX2_threadsThatWait_30 (by decide) ?_
        exact ih _ _ _ _ _ h hM (lv_sub hl [2, 1, 0] rfl)
