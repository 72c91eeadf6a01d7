set_option maxHeartbeats 4000000 in
set_option maxRecDepth 100000 in
theorem c_X4_writeLettersOfPad {l : Launch} {g : cz_G} {b : Nat} {M : cz_M} {M9 : cz_M} {a : Nat} (ka : cz_K b a 4) (h : f_X4_writeLettersOfPad M a = some M9) : cz_C l yX4_writeLettersOfPad cX4_writeLettersOfPad 4 none 2 44 g b [.ref a] M none M9 := by
  refine cz_start (by decide) (Nat.le_of_ble_eq_true rfl) (fun p e s m args below meth c X H ls hM hl => ?_)
  have X : cz_X p s m args meth c cX4_writeLettersOfPad 4 RX4 g b none := X
  obtain ⟨hx, hb, -, ho, ht, -⟩ := id X
  have hRf : 2 ≤ ({ frames := 2, cells := 0, slots := 0, locals := 44 } : Room).frames := Nat.le_refl _
  have hRl : 44 ≤ ({ frames := 2, cells := 0, slots := 0, locals := 44 } : Room).locals := Nat.le_refl _
  have hbase : b = a := cz_base ka
  have hl : lv_has ls 4 [(0, .ref a)] := hl
  rw [f_X4_writeLettersOfPad] at h
  refine lv_null hx hb dX4_writeLettersOfPad_0 ?_
  refine lv_astore_nN (lv' := [(1, .null), (0, .ref a)]) hx hb dX4_writeLettersOfPad_1 rfl hl (by decide) rfl (fun ls hl => ?_)
  refine lv_iconst (v := nI 0) hx hb dX4_writeLettersOfPad_2 (by decide) ?_
  refine lv_istore_n (lv' := [(2, .int (nI 0)), (1, .null), (0, .ref a)]) hx hb dX4_writeLettersOfPad_3 rfl hl (by decide) rfl (fun ls hl => ?_)
  refine w_X4_writeLettersOfPad_L4 X hRf hRl ka hbase _ (fun y31 y32 M33 H locs ls h hM hl => ?_) _ _ _ _ _ _ _ h hM (lv_sub hl [2, 1, 0] rfl)
  exact cz_retv X hM h dX4_writeLettersOfPad_96
theorem mv_X4_read : cz_MV yX4_read cX4_read 1 (some .int) RX4 0 := ⟨mi_X4_read, ms_X4_read, mc_X4_read, ini_X4, by decide +kernel⟩
set_option maxHeartbeats 4000000 in
set_option maxRecDepth 100000 in
theorem c_X4_read {l : Launch} {g : cz_G} {b : Nat} {M : cz_M} {r0 : Int32} {M9 : cz_M} {a : Nat} (ka : cz_K b a 4) (h : f_X4_read M a = some (r0, M9)) : cz_C l yX4_read cX4_read 1 (some .int) 4 113 g b [.ref a] M (some (.int r0)) M9 := by
  refine cz_start (by decide) (Nat.le_of_ble_eq_true rfl) (fun p e s m args below meth c X H ls hM hl => ?_)
  have X : cz_X p s m args meth c cX4_read 1 RX4 g b (some .int) := X
  obtain ⟨hx, hb, -, ho, ht, -⟩ := id X
  have hRf : 4 ≤ ({ frames := 4, cells := 0, slots := 0, locals := 113 } : Room).frames := Nat.le_refl _
  have hRl : 113 ≤ ({ frames := 4, cells := 0, slots := 0, locals := 113 } : Room).locals := Nat.le_refl _
  have hl : lv_has ls 1 [(0, .ref a)] := hl
  rw [f_X4_read] at h
  refine lv_aload_n hx hb dX4_read_0 rfl (lv_at hl 0 rfl) ?_
  obtain ⟨v1, hq, h⟩ := cz_bd_t h
  refine cz_runV (rest := []) (As := []) (T := TX4) (N0 := 8) X hM hl.1 (c_X4_faultOfPad (l := l) (g := g) (b := b) ka hq) mv_X4_faultOfPad rfl (by decide) ka ml_X4_70 ⟨Nat.le_trans (Nat.le_of_ble_eq_true rfl) hRf, Nat.le_trans (Nat.le_of_ble_eq_true rfl) hRl⟩ rfl rfl (Nat.le_of_ble_eq_true rfl) dX4_read_1 (fun H locs hM => ?_)
  refine lv_bipush (v := -6) hx hb dX4_read_4 (by decide) ?_
  refine lv_icmp_eq (tgt := 12) hx hb dX4_read_6 (by decide) (fun c2 => ?_) (fun c2 => ?_)
  · have h := cz_ite_t c2 h
    refine lv_aload_n hx hb dX4_read_12 rfl (lv_at hl 0 rfl) ?_
    refine cz_getR X hM ff_X4_0 ka lk_X4_12 dX4_read_13 (fun hk3 => ?_)
    refine cz_getI X hM ff_X2_7 hk3 lk_X4_74 dX4_read_16 ?_
    refine lv_aload_n hx hb dX4_read_19 rfl (lv_at hl 0 rfl) ?_
    obtain ⟨v4, hq, h⟩ := cz_bd_t h
    refine cz_runV (rest := [.int (M.1 (a + 1) 7)]) (As := []) (T := TX4) (N0 := 8) X hM hl.1 (c_X4_lettersOfPad (l := l) (g := g) (b := b) ka hq) mv_X4_lettersOfPad rfl (by decide) ka ml_X4_77 ⟨Nat.le_trans (Nat.le_of_ble_eq_true rfl) hRf, Nat.le_trans (Nat.le_of_ble_eq_true rfl) hRl⟩ rfl rfl (Nat.le_of_ble_eq_true rfl) dX4_read_20 (fun H locs hM => ?_)
    refine lv_iadd hx hb dX4_read_23 ?_
    refine lv_bipush (v := nI 40) hx hb dX4_read_24 (by decide) ?_
    refine lv_icmp_le (tgt := 32) hx hb dX4_read_26 (by decide) (fun c5 => ?_) (fun c5 => ?_)
    · have h := cz_ite_t c5 h
      refine lv_aload_n hx hb dX4_read_32 rfl (lv_at hl 0 rfl) ?_
      obtain ⟨M6, hq, h⟩ := cz_bd_t h
      refine cz_runV (rest := []) (As := []) (T := TX4) (N0 := 8) X hM hl.1 (c_X4_remember (l := l) (g := g) (b := b) ka hq) mv_X4_remember rfl (by decide) ka ml_X4_41 ⟨Nat.le_trans (Nat.le_of_ble_eq_true rfl) hRf, Nat.le_trans (Nat.le_of_ble_eq_true rfl) hRl⟩ rfl rfl (Nat.le_of_ble_eq_true rfl) dX4_read_33 (fun H locs hM => ?_)
      refine lv_aload_n hx hb dX4_read_36 rfl (lv_at hl 0 rfl) ?_
      obtain ⟨M7, hq, h⟩ := cz_bd_t h
      refine cz_runV (rest := []) (As := []) (T := TX4) (N0 := 8) X hM hl.1 (c_X4_writeLettersOfPad (l := l) (g := g) (b := b) ka hq) mv_X4_writeLettersOfPad rfl (by decide) ka ml_X4_80 ⟨Nat.le_trans (Nat.le_of_ble_eq_true rfl) hRf, Nat.le_trans (Nat.le_of_ble_eq_true rfl) hRl⟩ rfl rfl (Nat.le_of_ble_eq_true rfl) dX4_read_37 (fun H locs hM => ?_)
      refine lv_aload_n hx hb dX4_read_40 rfl (lv_at hl 0 rfl) ?_
      refine lv_iconst (v := nI 0) hx hb dX4_read_41 (by decide) ?_
      refine cz_putI X hM h ff_X4_7 ka lk_X4_83 dX4_read_42 (fun M8 H locs h hM => ?_)
      refine lv_aload_n hx hb dX4_read_45 rfl (lv_at hl 0 rfl) ?_
      refine cz_getR X hM ff_X4_0 ka lk_X4_12 dX4_read_46 (fun hk9 => ?_)
      refine cz_getI X hM ff_X2_7 hk9 lk_X4_74 dX4_read_49 ?_
      exact cz_reti X hM h rfl dX4_read_52
    · have h := cz_ite_f c5 h
      refine lv_bipush (v := -4) hx hb dX4_read_29 (by decide) ?_
      exact cz_reti X hM h rfl dX4_read_31
  · have h := cz_ite_f c2 h
    refine lv_bipush (v := -3) hx hb dX4_read_9 (by decide) ?_
    exact cz_reti X hM h rfl dX4_read_11
theorem mv_X4_burn : cz_MV yX4_burn cX4_burn 2 (some .int) RX4 1 := ⟨mi_X4_burn, ms_X4_burn, mc_X4_burn, ini_X4, by decide +kernel⟩
set_option maxHeartbeats 4000000 in
set_option maxRecDepth 100000 in
theorem c_X4_burn {l : Launch} {g : cz_G} {b : Nat} {M : cz_M} {r0 : Int32} {M9 : cz_M} {a : Nat} {x1 : Int32} (ka : cz_K b a 4) (h : f_X4_burn M a x1 = some (r0, M9)) : cz_C l yX4_burn cX4_burn 2 (some .int) 4 113 g b [.ref a, .int x1] M (some (.int r0)) M9 := by
  refine cz_start (by decide) (Nat.le_of_ble_eq_true rfl) (fun p e s m args below meth c X H ls hM hl => ?_)
  have X : cz_X p s m args meth c cX4_burn 2 RX4 g b (some .int) := X
  obtain ⟨hx, hb, -, ho, ht, -⟩ := id X
  have hRf : 4 ≤ ({ frames := 4, cells := 0, slots := 0, locals := 113 } : Room).frames := Nat.le_refl _
  have hRl : 113 ≤ ({ frames := 4, cells := 0, slots := 0, locals := 113 } : Room).locals := Nat.le_refl _
  have hl : lv_has ls 2 [(0, .ref a), (1, .int x1)] := hl
  rw [f_X4_burn] at h
  refine lv_aload_n hx hb dX4_burn_0 rfl (lv_at hl 0 rfl) ?_
  refine cz_getR X hM ff_X4_0 ka lk_X4_12 dX4_burn_1 (fun hk1 => ?_)
  refine lv_iload_n hx hb dX4_burn_4 rfl (lv_at hl 1 rfl) ?_
  obtain ⟨v2, hq, h⟩ := cz_bd_t h
  refine cz_runV (rest := []) (As := [.int x1]) (T := TX2) (N0 := 9) X hM hl.1 (c_X2_hasLetter (l := l) (g := g) (b := b) hk1 hq) mv_X2_hasLetter rfl (by decide) hk1 ml_X4_86 ⟨Nat.le_trans (Nat.le_of_ble_eq_true rfl) hRf, Nat.le_trans (Nat.le_of_ble_eq_true rfl) hRl⟩ rfl rfl (Nat.le_of_ble_eq_true rfl) dX4_burn_5 (fun H locs hM => ?_)
  refine lv_if_ne (tgt := 13) hx hb dX4_burn_8 (by decide) (fun c3 => ?_) (fun c3 => ?_)
  · have h := cz_ite_f c3 h
    refine lv_aload_n hx hb dX4_burn_13 rfl (lv_at hl 0 rfl) ?_
    refine cz_getR X hM ff_X4_0 ka lk_X4_12 dX4_burn_14 (fun hk4 => ?_)
    refine cz_getR X hM ff_X2_3 hk4 lk_X4_90 dX4_burn_17 (fun hk5 => ?_)
    refine lv_iload_n hx hb dX4_burn_20 rfl (lv_at hl 1 rfl) ?_
    refine cz_aald1 X hM h hk5 dX4_burn_21 (fun h hk6 => ?_)
    refine cz_getI X hM ff_X1_5 hk6 lk_X4_94 dX4_burn_22 ?_
    refine lv_if_eq (tgt := 31) hx hb dX4_burn_25 (by decide) (fun c7 => ?_) (fun c7 => ?_)
    · have h := cz_ite_t c7 h
      refine lv_aload_n hx hb dX4_burn_31 rfl (lv_at hl 0 rfl) ?_
      obtain ⟨M8, hq, h⟩ := cz_bd_t h
      refine cz_runV (rest := []) (As := []) (T := TX4) (N0 := 8) X hM hl.1 (c_X4_remember (l := l) (g := g) (b := b) ka hq) mv_X4_remember rfl (by decide) ka ml_X4_41 ⟨Nat.le_trans (Nat.le_of_ble_eq_true rfl) hRf, Nat.le_trans (Nat.le_of_ble_eq_true rfl) hRl⟩ rfl rfl (Nat.le_of_ble_eq_true rfl) dX4_burn_32 (fun H locs hM => ?_)
      refine lv_aload_n hx hb dX4_burn_35 rfl (lv_at hl 0 rfl) ?_
      refine cz_getR X hM ff_X4_0 ka lk_X4_12 dX4_burn_36 (fun hk9 => ?_)
      refine lv_iload_n hx hb dX4_burn_39 rfl (lv_at hl 1 rfl) ?_
      obtain ⟨M10, hq, h⟩ := cz_bd_t h
      refine cz_runV (rest := []) (As := [.int x1]) (T := TX2) (N0 := 9) X hM hl.1 (c_X2_burnWaiting (l := l) (g := g) (b := b) hk9 hq) mv_X2_burnWaiting rfl (by decide) hk9 ml_X4_99 ⟨Nat.le_trans (Nat.le_of_ble_eq_true rfl) hRf, Nat.le_trans (Nat.le_of_ble_eq_true rfl) hRl⟩ rfl rfl (Nat.le_of_ble_eq_true rfl) dX4_burn_40 (fun H locs hM => ?_)
      refine lv_aload_n hx hb dX4_burn_43 rfl (lv_at hl 0 rfl) ?_
      refine cz_getR X hM ff_X4_0 ka lk_X4_12 dX4_burn_44 (fun hk11 => ?_)
      refine cz_getI X hM ff_X2_8 hk11 lk_X4_103 dX4_burn_47 ?_
      refine lv_aload_n hx hb dX4_burn_50 rfl (lv_at hl 0 rfl) ?_
      refine cz_getR X hM ff_X4_0 ka lk_X4_12 dX4_burn_51 (fun hk12 => ?_)
      refine cz_getR X hM ff_X2_3 hk12 lk_X4_90 dX4_burn_54 (fun hk13 => ?_)
      refine lv_iload_n hx hb dX4_burn_57 rfl (lv_at hl 1 rfl) ?_
      refine cz_aald1 X hM h hk13 dX4_burn_58 (fun h hk14 => ?_)
      refine cz_getI X hM ff_X1_4 hk14 lk_X4_106 dX4_burn_59 ?_
      refine lv_isub hx hb dX4_burn_62 ?_
      exact cz_reti X hM h rfl dX4_burn_63
    · have h := cz_ite_f c7 h
      refine lv_bipush (v := -5) hx hb dX4_burn_28 (by decide) ?_
      exact cz_reti X hM h rfl dX4_burn_30
  · have h := cz_ite_t c3 h
    refine lv_iconst (v := -1) hx hb dX4_burn_11 (by decide) ?_
    exact cz_reti X hM h rfl dX4_burn_12
theorem mv_X4_pass : cz_MV yX4_pass cX4_pass 2 (some .int) RX4 1 := ⟨mi_X4_pass, ms_X4_pass, mc_X4_pass, ini_X4, by decide +kernel⟩
set_option maxHeartbeats 4000000 in
set_option maxRecDepth 100000 in
theorem c_X4_pass {l : Launch} {g : cz_G} {b : Nat} {M : cz_M} {r0 : Int32} {M9 : cz_M} {a : Nat} {x1 : Int32} (ka : cz_K b a 4) (h : f_X4_pass M a x1 = some (r0, M9)) : cz_C l yX4_pass cX4_pass 2 (some .int) 6 141 g b [.ref a, .int x1] M (some (.int r0)) M9 := by
  refine cz_start (by decide) (Nat.le_of_ble_eq_true rfl) (fun p e s m args below meth c X H ls hM hl => ?_)
  have X : cz_X p s m args meth c cX4_pass 2 RX4 g b (some .int) := X
  obtain ⟨hx, hb, -, ho, ht, -⟩ := id X
  have hRf : 6 ≤ ({ frames := 6, cells := 0, slots := 0, locals := 141 } : Room).frames := Nat.le_refl _
  have hRl : 141 ≤ ({ frames := 6, cells := 0, slots := 0, locals := 141 } : Room).locals := Nat.le_refl _
  have hl : lv_has ls 2 [(0, .ref a), (1, .int x1)] := hl
  rw [f_X4_pass] at h
  refine lv_iload_n hx hb dX4_pass_0 rfl (lv_at hl 1 rfl) ?_
  refine lv_iconst (v := nI 1) hx hb dX4_pass_1 (by decide) ?_
  refine lv_icmp_lt (tgt := 11) hx hb dX4_pass_2 (by decide) (fun c1 => ?_) (fun c1 => ?_)
  · have h := cz_ite_t c1 h
    refine lv_bipush (v := -2) hx hb dX4_pass_11 (by decide) ?_
    exact cz_reti X hM h rfl dX4_pass_13
  · have h := cz_ite_f c1 h
    refine lv_iload_n hx hb dX4_pass_5 rfl (lv_at hl 1 rfl) ?_
    refine lv_bipush (v := nI 52) hx hb dX4_pass_6 (by decide) ?_
    refine lv_icmp_le (tgt := 14) hx hb dX4_pass_8 (by decide) (fun c2 => ?_) (fun c2 => ?_)
    · have h := cz_ite_t c2 h
      refine lv_aload_n hx hb dX4_pass_14 rfl (lv_at hl 0 rfl) ?_
      refine cz_getR X hM ff_X4_0 ka lk_X4_12 dX4_pass_15 (fun hk3 => ?_)
      refine cz_getI X hM ff_X2_8 hk3 lk_X4_103 dX4_pass_18 ?_
      refine lv_iload_n hx hb dX4_pass_21 rfl (lv_at hl 1 rfl) ?_
      refine lv_iadd hx hb dX4_pass_22 ?_
      refine lv_sipush (v := nI 9999) hx hb dX4_pass_23 (by decide) ?_
      refine lv_icmp_le (tgt := 32) hx hb dX4_pass_26 (by decide) (fun c4 => ?_) (fun c4 => ?_)
      · have h := cz_ite_t c4 h
        refine lv_aload_n hx hb dX4_pass_32 rfl (lv_at hl 0 rfl) ?_
        obtain ⟨M5, hq, h⟩ := cz_bd_t h
        refine cz_runV (rest := []) (As := []) (T := TX4) (N0 := 8) X hM hl.1 (c_X4_remember (l := l) (g := g) (b := b) ka hq) mv_X4_remember rfl (by decide) ka ml_X4_41 ⟨Nat.le_trans (Nat.le_of_ble_eq_true rfl) hRf, Nat.le_trans (Nat.le_of_ble_eq_true rfl) hRl⟩ rfl rfl (Nat.le_of_ble_eq_true rfl) dX4_pass_33 (fun H locs hM => ?_)
        refine lv_aload_n hx hb dX4_pass_36 rfl (lv_at hl 0 rfl) ?_
        refine cz_getR X hM ff_X4_0 ka lk_X4_12 dX4_pass_37 (fun hk6 => ?_)
        refine lv_iload_n hx hb dX4_pass_40 rfl (lv_at hl 1 rfl) ?_
        obtain ⟨v8, M7, hq, h⟩ := cz_b2_t h
        refine cz_runV (rest := []) (As := [.int x1]) (T := TX2) (N0 := 9) X hM hl.1 (c_X2_passWeeks (l := l) (g := g) (b := b) hk6 hq) mv_X2_passWeeks rfl (by decide) hk6 ml_X4_109 ⟨Nat.le_trans (Nat.le_of_ble_eq_true rfl) hRf, Nat.le_trans (Nat.le_of_ble_eq_true rfl) hRl⟩ rfl rfl (Nat.le_of_ble_eq_true rfl) dX4_pass_41 (fun H locs hM => ?_)
        exact cz_reti X hM h rfl dX4_pass_44
      · have h := cz_ite_f c4 h
        refine lv_bipush (v := -4) hx hb dX4_pass_29 (by decide) ?_
        exact cz_reti X hM h rfl dX4_pass_31
    · have h := cz_ite_f c2 h
      refine lv_bipush (v := -2) hx hb dX4_pass_11 (by decide) ?_
      exact cz_reti X hM h rfl dX4_pass_13
theorem mv_X4_letter : cz_MV yX4_letter cX4_letter 4 (some .int) RX4 2 := ⟨mi_X4_letter, ms_X4_letter, mc_X4_letter, ini_X4, by decide +kernel⟩
set_option maxHeartbeats 4000000 in
set_option maxRecDepth 100000 in
theorem c_X4_letter {l : Launch} {g : cz_G} {b : Nat} {M : cz_M} {r0 : Int32} {a : Nat} {x1 : Int32} {x2 : Int32} (ka : cz_K b a 4) (h : f_X4_letter M a x1 x2 = some r0) : cz_C l yX4_letter cX4_letter 4 (some .int) 2 40 g b [.ref a, .int x1, .int x2] M (some (.int r0)) M := by
  refine cz_start (by decide) (Nat.le_of_ble_eq_true rfl) (fun p e s m args below meth c X H ls hM hl => ?_)
  have X : cz_X p s m args meth c cX4_letter 4 RX4 g b (some .int) := X
  obtain ⟨hx, hb, -, ho, ht, -⟩ := id X
  have hRf : 2 ≤ ({ frames := 2, cells := 0, slots := 0, locals := 40 } : Room).frames := Nat.le_refl _
  have hRl : 40 ≤ ({ frames := 2, cells := 0, slots := 0, locals := 40 } : Room).locals := Nat.le_refl _
  have hl : lv_has ls 4 [(0, .ref a), (1, .int x1), (2, .int x2)] := hl
  rw [f_X4_letter] at h
  refine lv_aload_n hx hb dX4_letter_0 rfl (lv_at hl 0 rfl) ?_
  refine cz_getR X hM ff_X4_0 ka lk_X4_12 dX4_letter_1 (fun hk1 => ?_)
  refine lv_iload_n hx hb dX4_letter_4 rfl (lv_at hl 1 rfl) ?_
  obtain ⟨v2, hq, h⟩ := cz_bd_t h
  refine cz_runV (rest := []) (As := [.int x1]) (T := TX2) (N0 := 9) X hM hl.1 (c_X2_hasLetter (l := l) (g := g) (b := b) hk1 hq) mv_X2_hasLetter rfl (by decide) hk1 ml_X4_86 ⟨Nat.le_trans (Nat.le_of_ble_eq_true rfl) hRf, Nat.le_trans (Nat.le_of_ble_eq_true rfl) hRl⟩ rfl rfl (Nat.le_of_ble_eq_true rfl) dX4_letter_5 (fun H locs hM => ?_)
  refine lv_if_ne (tgt := 13) hx hb dX4_letter_8 (by decide) (fun c3 => ?_) (fun c3 => ?_)
  · have h := cz_ite_f c3 h
    refine lv_aload_n hx hb dX4_letter_13 rfl (lv_at hl 0 rfl) ?_
    refine cz_getR X hM ff_X4_0 ka lk_X4_12 dX4_letter_14 (fun hk4 => ?_)
    refine cz_getR X hM ff_X2_3 hk4 lk_X4_90 dX4_letter_17 (fun hk5 => ?_)
    refine lv_iload_n hx hb dX4_letter_20 rfl (lv_at hl 1 rfl) ?_
    refine cz_aald1 X hM h hk5 dX4_letter_21 (fun h hk6 => ?_)
    refine cz_nmr h hk6 (fun r7 h hk8 => ?_)
    refine lv_astore_n (lv' := [(3, .ref r7), (0, .ref a), (1, .int x1), (2, .int x2)]) hx hb dX4_letter_22 rfl hl (by decide) rfl (fun ls hl => ?_)
    refine lv_iload_n hx hb dX4_letter_23 rfl (lv_at hl 3 rfl) ?_
    by_cases c9 : x2 = (nI 0)
    · have h := cz_ite_t c9 h
      refine lv_tableIn (off := 60) (tgt := 84) hx hb dX4_letter_24 (by rw [c9]; decide) (by rw [c9]; decide) (by rw [c9]; rfl) (by decide) ?_
      refine lv_aload_n hx hb dX4_letter_84 rfl (lv_at hl 0 rfl) ?_
      refine cz_getI X hM ff_X1_0 hk8 lk_X4_112 dX4_letter_85 ?_
      exact cz_retp X hM h rfl dX4_letter_88
    have h := cz_ite_f c9 h
    by_cases c10 : x2 = (nI 1)
    · have h := cz_ite_t c10 h
      refine lv_tableIn (off := 65) (tgt := 89) hx hb dX4_letter_24 (by rw [c10]; decide) (by rw [c10]; decide) (by rw [c10]; rfl) (by decide) ?_
      refine lv_aload_n hx hb dX4_letter_89 rfl (lv_at hl 0 rfl) ?_
      refine cz_getI X hM ff_X1_1 hk8 lk_X4_115 dX4_letter_90 ?_
      exact cz_retp X hM h rfl dX4_letter_93
    have h := cz_ite_f c10 h
    by_cases c11 : x2 = (nI 2)
    · have h := cz_ite_t c11 h
      refine lv_tableIn (off := 70) (tgt := 94) hx hb dX4_letter_24 (by rw [c11]; decide) (by rw [c11]; decide) (by rw [c11]; rfl) (by decide) ?_
      refine lv_aload_n hx hb dX4_letter_94 rfl (lv_at hl 0 rfl) ?_
      refine cz_getI X hM ff_X1_5 hk8 lk_X4_94 dX4_letter_95 ?_
      exact cz_retp X hM h rfl dX4_letter_98
    have h := cz_ite_f c11 h
    by_cases c12 : x2 = (nI 3)
    · have h := cz_ite_t c12 h
      refine lv_tableIn (off := 75) (tgt := 99) hx hb dX4_letter_24 (by rw [c12]; decide) (by rw [c12]; decide) (by rw [c12]; rfl) (by decide) ?_
      refine lv_aload_n hx hb dX4_letter_99 rfl (lv_at hl 1 rfl) ?_
      refine cz_getR X hM ff_X4_0 ka lk_X4_12 dX4_letter_100 (fun hk13 => ?_)
      refine cz_getR X hM ff_X2_4 hk13 lk_X4_118 dX4_letter_103 (fun hk14 => ?_)
      refine lv_aload_n hx hb dX4_letter_106 rfl (lv_at hl 0 rfl) ?_
      refine cz_getI X hM ff_X1_1 hk8 lk_X4_115 dX4_letter_107 ?_
      refine cz_aald2 X hM h hk14 dX4_letter_110 (fun h hk15 => ?_)
      refine lv_iload_n hx hb dX4_letter_111 rfl (lv_at hl 2 rfl) ?_
      obtain ⟨v16, hq, h⟩ := cz_bd_t h
      refine cz_runV (rest := []) (As := [.int x1]) (T := TX3) (N0 := 2) X hM hl.1 (c_X3_placeOf (l := l) (g := g) (b := b) hk15 hq) mv_X3_placeOf rfl (by decide) hk15 ml_X4_122 ⟨Nat.le_trans (Nat.le_of_ble_eq_true rfl) hRf, Nat.le_trans (Nat.le_of_ble_eq_true rfl) hRl⟩ rfl rfl (Nat.le_of_ble_eq_true rfl) dX4_letter_112 (fun H locs hM => ?_)
      exact cz_retp X hM h rfl dX4_letter_115
    have h := cz_ite_f c12 h
    by_cases c17 : x2 = (nI 4)
    · have h := cz_ite_t c17 h
      refine lv_tableIn (off := 92) (tgt := 116) hx hb dX4_letter_24 (by rw [c17]; decide) (by rw [c17]; decide) (by rw [c17]; rfl) (by decide) ?_
      refine lv_aload_n hx hb dX4_letter_116 rfl (lv_at hl 0 rfl) ?_
      refine cz_getI X hM ff_X1_4 hk8 lk_X4_106 dX4_letter_117 ?_
      exact cz_retp X hM h rfl dX4_letter_120
    have h := cz_ite_f c17 h
    by_cases c18 : x2 = (nI 5)
    · have h := cz_ite_t c18 h
      refine lv_tableIn (off := 97) (tgt := 121) hx hb dX4_letter_24 (by rw [c18]; decide) (by rw [c18]; decide) (by rw [c18]; rfl) (by decide) ?_
      refine lv_aload_n hx hb dX4_letter_121 rfl (lv_at hl 0 rfl) ?_
      refine cz_getI X hM ff_X1_5 hk8 lk_X4_94 dX4_letter_122 ?_
      refine lv_iconst (v := nI 1) hx hb dX4_letter_125 (by decide) ?_
      refine lv_icmp_ne (tgt := 136) hx hb dX4_letter_126 (by decide) (fun c19 => ?_) (fun c19 => ?_)
      · have h := cz_ite_f c19 h
        refine lv_bipush (v := -6) hx hb dX4_letter_136 (by decide) ?_
        exact cz_retp X hM h rfl dX4_letter_138
      · have h := cz_ite_t c19 h
        refine lv_aload_n hx hb dX4_letter_129 rfl (lv_at hl 0 rfl) ?_
        refine cz_getI X hM ff_X1_6 hk8 lk_X4_127 dX4_letter_130 ?_
        refine lv_goto (tgt := 138) hx hb dX4_letter_133 (by decide) ?_
        exact cz_retp X hM h rfl dX4_letter_138
    have h := cz_ite_f c18 h
    by_cases c20 : x2 = (nI 6)
    · have h := cz_ite_t c20 h
      refine lv_tableIn (off := 115) (tgt := 139) hx hb dX4_letter_24 (by rw [c20]; decide) (by rw [c20]; decide) (by rw [c20]; rfl) (by decide) ?_
      refine lv_aload_n hx hb dX4_letter_139 rfl (lv_at hl 0 rfl) ?_
      obtain ⟨v21, hq, h⟩ := cz_bd_t h
      refine cz_runV (rest := []) (As := []) (T := TX1) (N0 := 11) X hM hl.1 (c_X1_struckCount (l := l) (g := g) (b := b) hk8 hq) mv_X1_struckCount rfl (by decide) hk8 ml_X4_130 ⟨Nat.le_trans (Nat.le_of_ble_eq_true rfl) hRf, Nat.le_trans (Nat.le_of_ble_eq_true rfl) hRl⟩ rfl rfl (Nat.le_of_ble_eq_true rfl) dX4_letter_140 (fun H locs hM => ?_)
      exact cz_retp X hM h rfl dX4_letter_143
    have h := cz_ite_f c20 h
    by_cases c22 : x2 = (nI 7)
    · have h := cz_ite_t c22 h
      refine lv_tableIn (off := 120) (tgt := 144) hx hb dX4_letter_24 (by rw [c22]; decide) (by rw [c22]; decide) (by rw [c22]; rfl) (by decide) ?_
      refine lv_aload_n hx hb dX4_letter_144 rfl (lv_at hl 0 rfl) ?_
      refine cz_getI X hM ff_X1_7 hk8 lk_X4_133 dX4_letter_145 ?_
      exact cz_retp X hM h rfl dX4_letter_148
    have h := cz_ite_f c22 h
    by_cases c23 : x2 = (nI 8)
    · have h := cz_ite_t c23 h
      refine lv_tableIn (off := 125) (tgt := 149) hx hb dX4_letter_24 (by rw [c23]; decide) (by rw [c23]; decide) (by rw [c23]; rfl) (by decide) ?_
      refine lv_aload_n hx hb dX4_letter_149 rfl (lv_at hl 0 rfl) ?_
      refine cz_getI X hM ff_X1_9 hk8 lk_X4_136 dX4_letter_150 ?_
      exact cz_retp X hM h rfl dX4_letter_153
    have h := cz_ite_f c23 h
    by_cases c24 : x2 = (nI 9)
    · have h := cz_ite_t c24 h
      refine lv_tableIn (off := 130) (tgt := 154) hx hb dX4_letter_24 (by rw [c24]; decide) (by rw [c24]; decide) (by rw [c24]; rfl) (by decide) ?_
      refine lv_aload_n hx hb dX4_letter_154 rfl (lv_at hl 1 rfl) ?_
      refine cz_getR X hM ff_X4_0 ka lk_X4_12 dX4_letter_155 (fun hk25 => ?_)
      refine lv_iload_n hx hb dX4_letter_158 rfl (lv_at hl 2 rfl) ?_
      obtain ⟨v26, hq, h⟩ := cz_bd_t h
      refine cz_runV (rest := []) (As := [.int x1]) (T := TX2) (N0 := 9) X hM hl.1 (c_X2_aheadOf (l := l) (g := g) (b := b) hk25 hq) mv_X2_aheadOf rfl (by decide) hk25 ml_X4_139 ⟨Nat.le_trans (Nat.le_of_ble_eq_true rfl) hRf, Nat.le_trans (Nat.le_of_ble_eq_true rfl) hRl⟩ rfl rfl (Nat.le_of_ble_eq_true rfl) dX4_letter_159 (fun H locs hM => ?_)
      exact cz_retp X hM h rfl dX4_letter_162
    have h := cz_ite_f c24 h
    by_cases c27 : x2 = (nI 10)
    · have h := cz_ite_t c27 h
      refine lv_tableIn (off := 139) (tgt := 163) hx hb dX4_letter_24 (by rw [c27]; decide) (by rw [c27]; decide) (by rw [c27]; rfl) (by decide) ?_
      refine lv_aload_n hx hb dX4_letter_163 rfl (lv_at hl 0 rfl) ?_
      refine cz_getI X hM ff_X1_3 hk8 lk_X4_142 dX4_letter_164 ?_
      exact cz_retp X hM h rfl dX4_letter_167
    have h := cz_ite_f c27 h
    refine lv_tableOut (tgt := 168) hx hb dX4_letter_24 (by
      have e0 := lv_neT c9 (show ((nI 0) : Int32).toInt = 0 from by decide)
      have e1 := lv_neT c10 (show ((nI 1) : Int32).toInt = 1 from by decide)
      have e2 := lv_neT c11 (show ((nI 2) : Int32).toInt = 2 from by decide)
      have e3 := lv_neT c12 (show ((nI 3) : Int32).toInt = 3 from by decide)
      have e4 := lv_neT c17 (show ((nI 4) : Int32).toInt = 4 from by decide)
      have e5 := lv_neT c18 (show ((nI 5) : Int32).toInt = 5 from by decide)
      have e6 := lv_neT c20 (show ((nI 6) : Int32).toInt = 6 from by decide)
      have e7 := lv_neT c22 (show ((nI 7) : Int32).toInt = 7 from by decide)
      have e8 := lv_neT c23 (show ((nI 8) : Int32).toInt = 8 from by decide)
      have e9 := lv_neT c24 (show ((nI 9) : Int32).toInt = 9 from by decide)
      have e10 := lv_neT c27 (show ((nI 10) : Int32).toInt = 10 from by decide)
      clear h; omega) (by decide) ?_
    refine lv_bipush (v := -2) hx hb dX4_letter_168 (by decide) ?_
    exact cz_retp X hM h rfl dX4_letter_170
  · have h := cz_ite_t c3 h
    refine lv_iconst (v := -1) hx hb dX4_letter_11 (by decide) ?_
    exact cz_retp X hM h rfl dX4_letter_12
theorem mv_X4_word : cz_MV yX4_word cX4_word 4 (some .int) RX4 2 := ⟨mi_X4_word, ms_X4_word, mc_X4_word, ini_X4, by decide +kernel⟩
set_option maxHeartbeats 4000000 in
set_option maxRecDepth 100000 in
theorem c_X4_word {l : Launch} {g : cz_G} {b : Nat} {M : cz_M} {r0 : Int32} {a : Nat} {x1 : Int32} {x2 : Int32} (ka : cz_K b a 4) (h : f_X4_word M a x1 x2 = some r0) : cz_C l yX4_word cX4_word 4 (some .int) 1 21 g b [.ref a, .int x1, .int x2] M (some (.int r0)) M := by
  refine cz_start (by decide) (Nat.le_of_ble_eq_true rfl) (fun p e s m args below meth c X H ls hM hl => ?_)
  have X : cz_X p s m args meth c cX4_word 4 RX4 g b (some .int) := X
  obtain ⟨hx, hb, -, ho, ht, -⟩ := id X
  have hRf : 1 ≤ ({ frames := 1, cells := 0, slots := 0, locals := 21 } : Room).frames := Nat.le_refl _
  have hRl : 21 ≤ ({ frames := 1, cells := 0, slots := 0, locals := 21 } : Room).locals := Nat.le_refl _
  have hl : lv_has ls 4 [(0, .ref a), (1, .int x1), (2, .int x2)] := hl
  rw [f_X4_word] at h
  refine lv_aload_n hx hb dX4_word_0 rfl (lv_at hl 0 rfl) ?_
  refine cz_getR X hM ff_X4_0 ka lk_X4_12 dX4_word_1 (fun hk1 => ?_)
  refine lv_iload_n hx hb dX4_word_4 rfl (lv_at hl 1 rfl) ?_
  obtain ⟨v2, hq, h⟩ := cz_bd_t h
  refine cz_runV (rest := []) (As := [.int x1]) (T := TX2) (N0 := 9) X hM hl.1 (c_X2_hasLetter (l := l) (g := g) (b := b) hk1 hq) mv_X2_hasLetter rfl (by decide) hk1 ml_X4_86 ⟨Nat.le_trans (Nat.le_of_ble_eq_true rfl) hRf, Nat.le_trans (Nat.le_of_ble_eq_true rfl) hRl⟩ rfl rfl (Nat.le_of_ble_eq_true rfl) dX4_word_5 (fun H locs hM => ?_)
  refine lv_if_ne (tgt := 13) hx hb dX4_word_8 (by decide) (fun c3 => ?_) (fun c3 => ?_)
  · have h := cz_ite_f c3 h
    refine lv_aload_n hx hb dX4_word_13 rfl (lv_at hl 0 rfl) ?_
    refine cz_getR X hM ff_X4_0 ka lk_X4_12 dX4_word_14 (fun hk4 => ?_)
    refine cz_getR X hM ff_X2_3 hk4 lk_X4_90 dX4_word_17 (fun hk5 => ?_)
    refine lv_iload_n hx hb dX4_word_20 rfl (lv_at hl 1 rfl) ?_
    refine cz_aald1 X hM h hk5 dX4_word_21 (fun h hk6 => ?_)
    refine cz_nmr h hk6 (fun r7 h hk8 => ?_)
    refine lv_astore_n (lv' := [(3, .ref r7), (0, .ref a), (1, .int x1), (2, .int x2)]) hx hb dX4_word_22 rfl hl (by decide) rfl (fun ls hl => ?_)
    refine lv_iload_n hx hb dX4_word_23 rfl (lv_at hl 3 rfl) ?_
    refine lv_if_lt (tgt := 35) hx hb dX4_word_24 (by decide) (fun c9 => ?_) (fun c9 => ?_)
    · have h := cz_ite_t c9 h
      refine lv_iconst (v := -1) hx hb dX4_word_35 (by decide) ?_
      exact cz_retp X hM h rfl dX4_word_36
    · have h := cz_ite_f c9 h
      refine lv_iload_n hx hb dX4_word_27 rfl (lv_at hl 3 rfl) ?_
      refine lv_aload_n hx hb dX4_word_28 rfl (lv_at hl 0 rfl) ?_
      refine cz_getI X hM ff_X1_3 hk8 lk_X4_142 dX4_word_29 ?_
      refine lv_icmp_lt (tgt := 37) hx hb dX4_word_32 (by decide) (fun c10 => ?_) (fun c10 => ?_)
      · have h := cz_ite_t c10 h
        refine lv_aload_n hx hb dX4_word_37 rfl (lv_at hl 0 rfl) ?_
        refine lv_iload_n hx hb dX4_word_38 rfl (lv_at hl 3 rfl) ?_
        obtain ⟨v11, hq, h⟩ := cz_bd_t h
        refine cz_runV (rest := []) (As := [.int x2]) (T := TX1) (N0 := 11) X hM hl.1 (c_X1_isStruckAt (l := l) (g := g) (b := b) hk8 hq) mv_X1_isStruckAt rfl (by decide) hk8 ml_X4_145 ⟨Nat.le_trans (Nat.le_of_ble_eq_true rfl) hRf, Nat.le_trans (Nat.le_of_ble_eq_true rfl) hRl⟩ rfl rfl (Nat.le_of_ble_eq_true rfl) dX4_word_39 (fun H locs hM => ?_)
        refine lv_if_eq (tgt := 50) hx hb dX4_word_42 (by decide) (fun c12 => ?_) (fun c12 => ?_)
        · have h := cz_ite_t c12 h
          refine lv_aload_n hx hb dX4_word_50 rfl (lv_at hl 0 rfl) ?_
          refine lv_iload_n hx hb dX4_word_51 rfl (lv_at hl 3 rfl) ?_
          obtain ⟨v13, hq, h⟩ := cz_bd_t h
          refine cz_runV (rest := []) (As := [.int x2]) (T := TX1) (N0 := 11) X hM hl.1 (c_X1_codeAt (l := l) (g := g) (b := b) hk8 hq) mv_X1_codeAt rfl (by decide) hk8 ml_X4_148 ⟨Nat.le_trans (Nat.le_of_ble_eq_true rfl) hRf, Nat.le_trans (Nat.le_of_ble_eq_true rfl) hRl⟩ rfl rfl (Nat.le_of_ble_eq_true rfl) dX4_word_52 (fun H locs hM => ?_)
          exact cz_retp X hM h rfl dX4_word_55
        · have h := cz_ite_f c12 h
          refine lv_bipush (v := nI 42) hx hb dX4_word_45 (by decide) ?_
          refine lv_goto (tgt := 55) hx hb dX4_word_47 (by decide) ?_
          exact cz_retp X hM h rfl dX4_word_55
      · have h := cz_ite_f c10 h
        refine lv_iconst (v := -1) hx hb dX4_word_35 (by decide) ?_
        exact cz_retp X hM h rfl dX4_word_36
  · have h := cz_ite_t c3 h
    refine lv_iconst (v := -1) hx hb dX4_word_11 (by decide) ?_
    exact cz_retp X hM h rfl dX4_word_12
theorem mv_X4_why : cz_MV yX4_why cX4_why 3 (some .int) RX4 1 := ⟨mi_X4_why, ms_X4_why, mc_X4_why, ini_X4, by decide +kernel⟩
set_option maxHeartbeats 4000000 in
set_option maxRecDepth 100000 in
theorem c_X4_why {l : Launch} {g : cz_G} {b : Nat} {M : cz_M} {r0 : Int32} {M9 : cz_M} {a : Nat} {x1 : Int32} (ka : cz_K b a 4) (h : f_X4_why M a x1 = some (r0, M9)) : cz_C l yX4_why cX4_why 3 (some .int) 4 96 g b [.ref a, .int x1] M (some (.int r0)) M9 := by
  refine cz_start (by decide) (Nat.le_of_ble_eq_true rfl) (fun p e s m args below meth c X H ls hM hl => ?_)
  have X : cz_X p s m args meth c cX4_why 3 RX4 g b (some .int) := X
  obtain ⟨hx, hb, -, ho, ht, -⟩ := id X
  have hRf : 4 ≤ ({ frames := 4, cells := 0, slots := 0, locals := 96 } : Room).frames := Nat.le_refl _
  have hRl : 96 ≤ ({ frames := 4, cells := 0, slots := 0, locals := 96 } : Room).locals := Nat.le_refl _
  have hl : lv_has ls 3 [(0, .ref a), (1, .int x1)] := hl
  rw [f_X4_why] at h
  refine lv_aload_n hx hb dX4_why_0 rfl (lv_at hl 0 rfl) ?_
  refine cz_getR X hM ff_X4_0 ka lk_X4_12 dX4_why_1 (fun hk1 => ?_)
  refine lv_iload_n hx hb dX4_why_4 rfl (lv_at hl 1 rfl) ?_
  obtain ⟨v2, hq, h⟩ := cz_bd_t h
  refine cz_runV (rest := []) (As := [.int x1]) (T := TX2) (N0 := 9) X hM hl.1 (c_X2_hasLetter (l := l) (g := g) (b := b) hk1 hq) mv_X2_hasLetter rfl (by decide) hk1 ml_X4_86 ⟨Nat.le_trans (Nat.le_of_ble_eq_true rfl) hRf, Nat.le_trans (Nat.le_of_ble_eq_true rfl) hRl⟩ rfl rfl (Nat.le_of_ble_eq_true rfl) dX4_why_5 (fun H locs hM => ?_)
  refine lv_if_ne (tgt := 13) hx hb dX4_why_8 (by decide) (fun c3 => ?_) (fun c3 => ?_)
  · have h := cz_ite_f c3 h
    refine lv_aload_n hx hb dX4_why_13 rfl (lv_at hl 0 rfl) ?_
    refine cz_getR X hM ff_X4_0 ka lk_X4_12 dX4_why_14 (fun hk4 => ?_)
    refine cz_getR X hM ff_X2_3 hk4 lk_X4_90 dX4_why_17 (fun hk5 => ?_)
    refine lv_iload_n hx hb dX4_why_20 rfl (lv_at hl 1 rfl) ?_
    refine cz_aald1 X hM h hk5 dX4_why_21 (fun h hk6 => ?_)
    refine cz_nmr h hk6 (fun r7 h hk8 => ?_)
    refine lv_astore_n (lv' := [(2, .ref r7), (0, .ref a), (1, .int x1)]) hx hb dX4_why_22 rfl hl (by decide) rfl (fun ls hl => ?_)
    refine lv_aload_n hx hb dX4_why_23 rfl (lv_at hl 0 rfl) ?_
    refine cz_getI X hM ff_X1_5 hk8 lk_X4_94 dX4_why_24 ?_
    refine lv_if_eq (tgt := 32) hx hb dX4_why_27 (by decide) (fun c9 => ?_) (fun c9 => ?_)
    · have h := cz_ite_t c9 h
      refine lv_aload_n hx hb dX4_why_32 rfl (lv_at hl 1 rfl) ?_
      refine cz_getR X hM ff_X4_0 ka lk_X4_12 dX4_why_33 (fun hk10 => ?_)
      obtain ⟨M11, hq, h⟩ := cz_bd_t h
      refine cz_runV (rest := []) (As := []) (T := TX2) (N0 := 9) X hM hl.1 (c_X2_judgeWeek (l := l) (g := g) (b := b) hk10 hq) mv_X2_judgeWeek rfl (by decide) hk10 ml_X4_151 ⟨Nat.le_trans (Nat.le_of_ble_eq_true rfl) hRf, Nat.le_trans (Nat.le_of_ble_eq_true rfl) hRl⟩ rfl rfl (Nat.le_of_ble_eq_true rfl) dX4_why_36 (fun H locs hM => ?_)
      refine lv_aload_n hx hb dX4_why_39 rfl (lv_at hl 0 rfl) ?_
      refine cz_getI X hM ff_X1_10 hk8 lk_X4_154 dX4_why_40 ?_
      exact cz_reti X hM h rfl dX4_why_43
    · have h := cz_ite_f c9 h
      refine lv_iconst (v := nI 1) hx hb dX4_why_30 (by decide) ?_
      exact cz_reti X hM h rfl dX4_why_31
  · have h := cz_ite_t c3 h
    refine lv_iconst (v := -1) hx hb dX4_why_11 (by decide) ?_
    exact cz_reti X hM h rfl dX4_why_12
theorem mv_X4_censor : cz_MV yX4_censor cX4_censor 4 (some .int) RX4 2 := ⟨mi_X4_censor, ms_X4_censor, mc_X4_censor, ini_X4, by decide +kernel⟩
set_option maxHeartbeats 4000000 in
set_option maxRecDepth 100000 in
theorem c_X4_censor {l : Launch} {g : cz_G} {b : Nat} {M : cz_M} {r0 : Int32} {a : Nat} {x1 : Int32} {x2 : Int32} (ka : cz_K b a 4) (h : f_X4_censor M a x1 x2 = some r0) : cz_C l yX4_censor cX4_censor 4 (some .int) 1 23 g b [.ref a, .int x1, .int x2] M (some (.int r0)) M := by
  refine cz_start (by decide) (Nat.le_of_ble_eq_true rfl) (fun p e s m args below meth c X H ls hM hl => ?_)
  have X : cz_X p s m args meth c cX4_censor 4 RX4 g b (some .int) := X
  obtain ⟨hx, hb, -, ho, ht, -⟩ := id X
  have hRf : 1 ≤ ({ frames := 1, cells := 0, slots := 0, locals := 23 } : Room).frames := Nat.le_refl _
  have hRl : 23 ≤ ({ frames := 1, cells := 0, slots := 0, locals := 23 } : Room).locals := Nat.le_refl _
  have hl : lv_has ls 4 [(0, .ref a), (1, .int x1), (2, .int x2)] := hl
  rw [f_X4_censor] at h
  refine lv_iload_n hx hb dX4_censor_0 rfl (lv_at hl 1 rfl) ?_
  refine lv_if_lt (tgt := 9) hx hb dX4_censor_1 (by decide) (fun c1 => ?_) (fun c1 => ?_)
  · have h := cz_ite_t c1 h
    refine lv_iconst (v := -1) hx hb dX4_censor_9 (by decide) ?_
    exact cz_retp X hM h rfl dX4_censor_10
  · have h := cz_ite_f c1 h
    refine lv_iload_n hx hb dX4_censor_4 rfl (lv_at hl 1 rfl) ?_
    refine lv_iconst (v := nI 4) hx hb dX4_censor_5 (by decide) ?_
    refine lv_icmp_lt (tgt := 11) hx hb dX4_censor_6 (by decide) (fun c2 => ?_) (fun c2 => ?_)
    · have h := cz_ite_t c2 h
      refine lv_aload_n hx hb dX4_censor_11 rfl (lv_at hl 0 rfl) ?_
      refine cz_getR X hM ff_X4_0 ka lk_X4_12 dX4_censor_12 (fun hk3 => ?_)
      refine cz_getR X hM ff_X2_1 hk3 lk_X4_47 dX4_censor_15 (fun hk4 => ?_)
      refine lv_iload_n hx hb dX4_censor_18 rfl (lv_at hl 1 rfl) ?_
      refine cz_aald0 X hM h hk4 dX4_censor_19 (fun h hk5 => ?_)
      refine cz_nmr h hk5 (fun r6 h hk7 => ?_)
      refine lv_astore_n (lv' := [(3, .ref r6), (0, .ref a), (1, .int x1), (2, .int x2)]) hx hb dX4_censor_20 rfl hl (by decide) rfl (fun ls hl => ?_)
      refine lv_iload_n hx hb dX4_censor_21 rfl (lv_at hl 3 rfl) ?_
      by_cases c8 : x2 = (nI 0)
      · have h := cz_ite_t c8 h
        refine lv_tableIn (off := 34) (tgt := 56) hx hb dX4_censor_22 (by rw [c8]; decide) (by rw [c8]; decide) (by rw [c8]; rfl) (by decide) ?_
        refine lv_aload_n hx hb dX4_censor_56 rfl (lv_at hl 0 rfl) ?_
        refine cz_getI X hM ff_X0_0 hk7 lk_X4_51 dX4_censor_57 ?_
        exact cz_retp X hM h rfl dX4_censor_60
      have h := cz_ite_f c8 h
      by_cases c9 : x2 = (nI 1)
      · have h := cz_ite_t c9 h
        refine lv_tableIn (off := 39) (tgt := 61) hx hb dX4_censor_22 (by rw [c9]; decide) (by rw [c9]; decide) (by rw [c9]; rfl) (by decide) ?_
        refine lv_aload_n hx hb dX4_censor_61 rfl (lv_at hl 1 rfl) ?_
        refine cz_getR X hM ff_X4_0 ka lk_X4_12 dX4_censor_62 (fun hk10 => ?_)
        refine lv_iload_n hx hb dX4_censor_65 rfl (lv_at hl 2 rfl) ?_
        obtain ⟨v11, hq, h⟩ := cz_bd_t h
        refine cz_runV (rest := []) (As := [.int x1]) (T := TX2) (N0 := 9) X hM hl.1 (c_X2_shiftsOf (l := l) (g := g) (b := b) hk10 hq) mv_X2_shiftsOf rfl (by decide) hk10 ml_X4_157 ⟨Nat.le_trans (Nat.le_of_ble_eq_true rfl) hRf, Nat.le_trans (Nat.le_of_ble_eq_true rfl) hRl⟩ rfl rfl (Nat.le_of_ble_eq_true rfl) dX4_censor_66 (fun H locs hM => ?_)
        exact cz_retp X hM h rfl dX4_censor_69
      have h := cz_ite_f c9 h
      by_cases c12 : x2 = (nI 2)
      · have h := cz_ite_t c12 h
        refine lv_tableIn (off := 48) (tgt := 70) hx hb dX4_censor_22 (by rw [c12]; decide) (by rw [c12]; decide) (by rw [c12]; rfl) (by decide) ?_
        refine lv_aload_n hx hb dX4_censor_70 rfl (lv_at hl 0 rfl) ?_
        refine cz_getI X hM ff_X0_1 hk7 lk_X4_160 dX4_censor_71 ?_
        exact cz_retp X hM h rfl dX4_censor_74
      have h := cz_ite_f c12 h
      by_cases c13 : x2 = (nI 3)
      · have h := cz_ite_t c13 h
        refine lv_tableIn (off := 53) (tgt := 75) hx hb dX4_censor_22 (by rw [c13]; decide) (by rw [c13]; decide) (by rw [c13]; rfl) (by decide) ?_
        refine lv_aload_n hx hb dX4_censor_75 rfl (lv_at hl 0 rfl) ?_
        refine cz_getI X hM ff_X0_2 hk7 lk_X4_163 dX4_censor_76 ?_
        exact cz_retp X hM h rfl dX4_censor_79
      have h := cz_ite_f c13 h
      by_cases c14 : x2 = (nI 4)
      · have h := cz_ite_t c14 h
        refine lv_tableIn (off := 58) (tgt := 80) hx hb dX4_censor_22 (by rw [c14]; decide) (by rw [c14]; decide) (by rw [c14]; rfl) (by decide) ?_
        refine lv_aload_n hx hb dX4_censor_80 rfl (lv_at hl 0 rfl) ?_
        refine cz_getI X hM ff_X0_3 hk7 lk_X4_166 dX4_censor_81 ?_
        exact cz_retp X hM h rfl dX4_censor_84
      have h := cz_ite_f c14 h
      refine lv_tableOut (tgt := 85) hx hb dX4_censor_22 (by
        have e0 := lv_neT c8 (show ((nI 0) : Int32).toInt = 0 from by decide)
        have e1 := lv_neT c9 (show ((nI 1) : Int32).toInt = 1 from by decide)
        have e2 := lv_neT c12 (show ((nI 2) : Int32).toInt = 2 from by decide)
        have e3 := lv_neT c13 (show ((nI 3) : Int32).toInt = 3 from by decide)
        have e4 := lv_neT c14 (show ((nI 4) : Int32).toInt = 4 from by decide)
        clear h; omega) (by decide) ?_
      refine lv_bipush (v := -2) hx hb dX4_censor_85 (by decide) ?_
      exact cz_retp X hM h rfl dX4_censor_87
    · have h := cz_ite_f c2 h
      refine lv_iconst (v := -1) hx hb dX4_censor_9 (by decide) ?_
      exact cz_retp X hM h rfl dX4_censor_10
theorem mv_X4_onShift : cz_MV yX4_onShift cX4_onShift 3 (some .int) RX4 2 := ⟨mi_X4_onShift, ms_X4_onShift, mc_X4_onShift, ini_X4, by decide +kernel⟩
set_option maxHeartbeats 4000000 in
set_option maxRecDepth 100000 in
theorem c_X4_onShift {l : Launch} {g : cz_G} {b : Nat} {M : cz_M} {r0 : Int32} {a : Nat} {x1 : Int32} {x2 : Int32} (ka : cz_K b a 4) (h : f_X4_onShift M a x1 x2 = some r0) : cz_C l yX4_onShift cX4_onShift 3 (some .int) 1 22 g b [.ref a, .int x1, .int x2] M (some (.int r0)) M := by
  refine cz_start (by decide) (Nat.le_of_ble_eq_true rfl) (fun p e s m args below meth c X H ls hM hl => ?_)
  have X : cz_X p s m args meth c cX4_onShift 3 RX4 g b (some .int) := X
  obtain ⟨hx, hb, -, ho, ht, -⟩ := id X
  have hRf : 1 ≤ ({ frames := 1, cells := 0, slots := 0, locals := 22 } : Room).frames := Nat.le_refl _
  have hRl : 22 ≤ ({ frames := 1, cells := 0, slots := 0, locals := 22 } : Room).locals := Nat.le_refl _
  have hl : lv_has ls 3 [(0, .ref a), (1, .int x1), (2, .int x2)] := hl
  rw [f_X4_onShift] at h
  refine lv_iload_n hx hb dX4_onShift_0 rfl (lv_at hl 2 rfl) ?_
  refine lv_if_lt (tgt := 9) hx hb dX4_onShift_1 (by decide) (fun c1 => ?_) (fun c1 => ?_)
  · have h := cz_ite_t c1 h
    refine lv_iconst (v := -1) hx hb dX4_onShift_9 (by decide) ?_
    exact cz_retp X hM h rfl dX4_onShift_10
  · have h := cz_ite_f c1 h
    refine lv_iload_n hx hb dX4_onShift_4 rfl (lv_at hl 2 rfl) ?_
    refine lv_iconst (v := nI 2) hx hb dX4_onShift_5 (by decide) ?_
    refine lv_icmp_lt (tgt := 11) hx hb dX4_onShift_6 (by decide) (fun c2 => ?_) (fun c2 => ?_)
    · have h := cz_ite_t c2 h
      refine lv_iload_n hx hb dX4_onShift_11 rfl (lv_at hl 1 rfl) ?_
      refine lv_if_lt (tgt := 22) hx hb dX4_onShift_12 (by decide) (fun c3 => ?_) (fun c3 => ?_)
      · have h := cz_ite_t c3 h
        refine lv_bipush (v := -2) hx hb dX4_onShift_22 (by decide) ?_
        exact cz_retp X hM h rfl dX4_onShift_24
      · have h := cz_ite_f c3 h
        refine lv_iload_n hx hb dX4_onShift_15 rfl (lv_at hl 1 rfl) ?_
        refine lv_sipush (v := nI 9999) hx hb dX4_onShift_16 (by decide) ?_
        refine lv_icmp_le (tgt := 25) hx hb dX4_onShift_19 (by decide) (fun c4 => ?_) (fun c4 => ?_)
        · have h := cz_ite_t c4 h
          refine lv_aload_n hx hb dX4_onShift_25 rfl (lv_at hl 0 rfl) ?_
          refine cz_getR X hM ff_X4_0 ka lk_X4_12 dX4_onShift_26 (fun hk5 => ?_)
          refine lv_iload_n hx hb dX4_onShift_29 rfl (lv_at hl 1 rfl) ?_
          refine lv_iload_n hx hb dX4_onShift_30 rfl (lv_at hl 2 rfl) ?_
          obtain ⟨v6, hq, h⟩ := cz_bd_t h
          refine cz_runV (rest := []) (As := [.int x1, .int x2]) (T := TX2) (N0 := 9) X hM hl.1 (c_X2_censorNumber (l := l) (g := g) (b := b) hk5 hq) mv_X2_censorNumber rfl (by decide) hk5 ml_X4_169 ⟨Nat.le_trans (Nat.le_of_ble_eq_true rfl) hRf, Nat.le_trans (Nat.le_of_ble_eq_true rfl) hRl⟩ rfl rfl (Nat.le_of_ble_eq_true rfl) dX4_onShift_31 (fun H locs hM => ?_)
          exact cz_retp X hM h rfl dX4_onShift_34
        · have h := cz_ite_f c4 h
          refine lv_bipush (v := -2) hx hb dX4_onShift_22 (by decide) ?_
          exact cz_retp X hM h rfl dX4_onShift_24
    · have h := cz_ite_f c2 h
      refine lv_iconst (v := -1) hx hb dX4_onShift_9 (by decide) ?_
      exact cz_retp X hM h rfl dX4_onShift_10
theorem mv_X4_count : cz_MV yX4_count cX4_count 2 (some .int) RX4 1 := ⟨mi_X4_count, ms_X4_count, mc_X4_count, ini_X4, by decide +kernel⟩
set_option maxHeartbeats 4000000 in
set_option maxRecDepth 100000 in
theorem c_X4_count {l : Launch} {g : cz_G} {b : Nat} {M : cz_M} {r0 : Int32} {M9 : cz_M} {a : Nat} {x1 : Int32} (ka : cz_K b a 4) (h : f_X4_count M a x1 = some (r0, M9)) : cz_C l yX4_count cX4_count 2 (some .int) 3 70 g b [.ref a, .int x1] M (some (.int r0)) M9 := by
  refine cz_start (by decide) (Nat.le_of_ble_eq_true rfl) (fun p e s m args below meth c X H ls hM hl => ?_)
  have X : cz_X p s m args meth c cX4_count 2 RX4 g b (some .int) := X
  obtain ⟨hx, hb, -, ho, ht, -⟩ := id X
  have hRf : 3 ≤ ({ frames := 3, cells := 0, slots := 0, locals := 70 } : Room).frames := Nat.le_refl _
  have hRl : 70 ≤ ({ frames := 3, cells := 0, slots := 0, locals := 70 } : Room).locals := Nat.le_refl _
  have hl : lv_has ls 2 [(0, .ref a), (1, .int x1)] := hl
  rw [f_X4_count] at h
  refine lv_iload_n hx hb dX4_count_0 rfl (lv_at hl 1 rfl) ?_
  by_cases c1 : x1 = (nI 0)
  · have h := cz_ite_t c1 h
    refine lv_tableIn (off := 79) (tgt := 80) hx hb dX4_count_1 (by rw [c1]; decide) (by rw [c1]; decide) (by rw [c1]; rfl) (by decide) ?_
    refine lv_aload_n hx hb dX4_count_80 rfl (lv_at hl 0 rfl) ?_
    refine cz_getR X hM ff_X4_0 ka lk_X4_12 dX4_count_81 (fun hk2 => ?_)
    refine cz_getR X hM ff_X2_0 hk2 lk_X4_44 dX4_count_84 (fun hk3 => ?_)
    refine lv_iconst (v := nI 0) hx hb dX4_count_87 (by decide) ?_
    refine cz_iald (n := 3) X hM h hk3 (by decide) dX4_count_88 (fun h => ?_)
    exact cz_reti X hM h rfl dX4_count_89
  have h := cz_ite_f c1 h
  by_cases c4 : x1 = (nI 1)
  · have h := cz_ite_t c4 h
    refine lv_tableIn (off := 89) (tgt := 90) hx hb dX4_count_1 (by rw [c4]; decide) (by rw [c4]; decide) (by rw [c4]; rfl) (by decide) ?_
    refine lv_aload_n hx hb dX4_count_90 rfl (lv_at hl 0 rfl) ?_
    refine cz_getR X hM ff_X4_0 ka lk_X4_12 dX4_count_91 (fun hk5 => ?_)
    refine cz_getR X hM ff_X2_0 hk5 lk_X4_44 dX4_count_94 (fun hk6 => ?_)
    refine lv_iconst (v := nI 1) hx hb dX4_count_97 (by decide) ?_
    refine cz_iald (n := 3) X hM h hk6 (by decide) dX4_count_98 (fun h => ?_)
    exact cz_reti X hM h rfl dX4_count_99
  have h := cz_ite_f c4 h
  by_cases c7 : x1 = (nI 2)
  · have h := cz_ite_t c7 h
    refine lv_tableIn (off := 99) (tgt := 100) hx hb dX4_count_1 (by rw [c7]; decide) (by rw [c7]; decide) (by rw [c7]; rfl) (by decide) ?_
    refine lv_aload_n hx hb dX4_count_100 rfl (lv_at hl 0 rfl) ?_
    refine cz_getR X hM ff_X4_0 ka lk_X4_12 dX4_count_101 (fun hk8 => ?_)
    refine cz_getR X hM ff_X2_0 hk8 lk_X4_44 dX4_count_104 (fun hk9 => ?_)
    refine lv_iconst (v := nI 2) hx hb dX4_count_107 (by decide) ?_
    refine cz_iald (n := 3) X hM h hk9 (by decide) dX4_count_108 (fun h => ?_)
    exact cz_reti X hM h rfl dX4_count_109
  have h := cz_ite_f c7 h
  by_cases c10 : x1 = (nI 3)
  · have h := cz_ite_t c10 h
    refine lv_tableIn (off := 109) (tgt := 110) hx hb dX4_count_1 (by rw [c10]; decide) (by rw [c10]; decide) (by rw [c10]; rfl) (by decide) ?_
    refine lv_aload_n hx hb dX4_count_110 rfl (lv_at hl 0 rfl) ?_
    refine cz_getR X hM ff_X4_0 ka lk_X4_12 dX4_count_111 (fun hk11 => ?_)
    refine cz_getI X hM ff_X2_8 hk11 lk_X4_103 dX4_count_114 ?_
    exact cz_reti X hM h rfl dX4_count_117
  have h := cz_ite_f c10 h
  by_cases c12 : x1 = (nI 4)
  · have h := cz_ite_t c12 h
    refine lv_tableIn (off := 117) (tgt := 118) hx hb dX4_count_1 (by rw [c12]; decide) (by rw [c12]; decide) (by rw [c12]; rfl) (by decide) ?_
    refine lv_aload_n hx hb dX4_count_118 rfl (lv_at hl 0 rfl) ?_
    refine cz_getR X hM ff_X4_0 ka lk_X4_12 dX4_count_119 (fun hk13 => ?_)
    refine cz_getI X hM ff_X2_7 hk13 lk_X4_74 dX4_count_122 ?_
    exact cz_reti X hM h rfl dX4_count_125
  have h := cz_ite_f c12 h
  by_cases c14 : x1 = (nI 5)
  · have h := cz_ite_t c14 h
    refine lv_tableIn (off := 125) (tgt := 126) hx hb dX4_count_1 (by rw [c14]; decide) (by rw [c14]; decide) (by rw [c14]; rfl) (by decide) ?_
    refine lv_aload_n hx hb dX4_count_126 rfl (lv_at hl 0 rfl) ?_
    refine cz_getR X hM ff_X4_0 ka lk_X4_12 dX4_count_127 (fun hk15 => ?_)
    refine lv_iconst (v := nI 0) hx hb dX4_count_130 (by decide) ?_
    obtain ⟨v16, hq, h⟩ := cz_bd_t h
    refine cz_runV (rest := []) (As := [.int (nI 0)]) (T := TX2) (N0 := 9) X hM hl.1 (c_X2_lettersThatAre (l := l) (g := g) (b := b) hk15 hq) mv_X2_lettersThatAre rfl (by decide) hk15 ml_X4_173 ⟨Nat.le_trans (Nat.le_of_ble_eq_true rfl) hRf, Nat.le_trans (Nat.le_of_ble_eq_true rfl) hRl⟩ rfl rfl (Nat.le_of_ble_eq_true rfl) dX4_count_131 (fun H locs hM => ?_)
    exact cz_reti X hM h rfl dX4_count_134
  have h := cz_ite_f c14 h
  by_cases c17 : x1 = (nI 6)
  · have h := cz_ite_t c17 h
    refine lv_tableIn (off := 134) (tgt := 135) hx hb dX4_count_1 (by rw [c17]; decide) (by rw [c17]; decide) (by rw [c17]; rfl) (by decide) ?_
    refine lv_aload_n hx hb dX4_count_135 rfl (lv_at hl 0 rfl) ?_
    refine cz_getR X hM ff_X4_0 ka lk_X4_12 dX4_count_136 (fun hk18 => ?_)
    refine lv_iconst (v := nI 1) hx hb dX4_count_139 (by decide) ?_
    obtain ⟨v19, hq, h⟩ := cz_bd_t h
    refine cz_runV (rest := []) (As := [.int (nI 1)]) (T := TX2) (N0 := 9) X hM hl.1 (c_X2_lettersThatAre (l := l) (g := g) (b := b) hk18 hq) mv_X2_lettersThatAre rfl (by decide) hk18 ml_X4_173 ⟨Nat.le_trans (Nat.le_of_ble_eq_true rfl) hRf, Nat.le_trans (Nat.le_of_ble_eq_true rfl) hRl⟩ rfl rfl (Nat.le_of_ble_eq_true rfl) dX4_count_140 (fun H locs hM => ?_)
    exact cz_reti X hM h rfl dX4_count_143
  have h := cz_ite_f c17 h
  by_cases c20 : x1 = (nI 7)
  · have h := cz_ite_t c20 h
    refine lv_tableIn (off := 143) (tgt := 144) hx hb dX4_count_1 (by rw [c20]; decide) (by rw [c20]; decide) (by rw [c20]; rfl) (by decide) ?_
    refine lv_aload_n hx hb dX4_count_144 rfl (lv_at hl 0 rfl) ?_
    refine cz_getR X hM ff_X4_0 ka lk_X4_12 dX4_count_145 (fun hk21 => ?_)
    refine lv_iconst (v := nI 2) hx hb dX4_count_148 (by decide) ?_
    obtain ⟨v22, hq, h⟩ := cz_bd_t h
    refine cz_runV (rest := []) (As := [.int (nI 2)]) (T := TX2) (N0 := 9) X hM hl.1 (c_X2_lettersThatAre (l := l) (g := g) (b := b) hk21 hq) mv_X2_lettersThatAre rfl (by decide) hk21 ml_X4_173 ⟨Nat.le_trans (Nat.le_of_ble_eq_true rfl) hRf, Nat.le_trans (Nat.le_of_ble_eq_true rfl) hRl⟩ rfl rfl (Nat.le_of_ble_eq_true rfl) dX4_count_149 (fun H locs hM => ?_)
    exact cz_reti X hM h rfl dX4_count_152
  have h := cz_ite_f c20 h
  by_cases c23 : x1 = (nI 8)
  · have h := cz_ite_t c23 h
    refine lv_tableIn (off := 152) (tgt := 153) hx hb dX4_count_1 (by rw [c23]; decide) (by rw [c23]; decide) (by rw [c23]; rfl) (by decide) ?_
    refine lv_aload_n hx hb dX4_count_153 rfl (lv_at hl 0 rfl) ?_
    refine cz_getR X hM ff_X4_0 ka lk_X4_12 dX4_count_154 (fun hk24 => ?_)
    refine cz_getR X hM ff_X2_4 hk24 lk_X4_118 dX4_count_157 (fun hk25 => ?_)
    refine lv_iconst (v := nI 0) hx hb dX4_count_160 (by decide) ?_
    refine cz_aald2 X hM h hk25 dX4_count_161 (fun h hk26 => ?_)
    refine cz_getI X hM ff_X3_1 hk26 lk_X4_176 dX4_count_162 ?_
    exact cz_reti X hM h rfl dX4_count_165
  have h := cz_ite_f c23 h
  by_cases c27 : x1 = (nI 9)
  · have h := cz_ite_t c27 h
    refine lv_tableIn (off := 165) (tgt := 166) hx hb dX4_count_1 (by rw [c27]; decide) (by rw [c27]; decide) (by rw [c27]; rfl) (by decide) ?_
    refine lv_aload_n hx hb dX4_count_166 rfl (lv_at hl 0 rfl) ?_
    refine cz_getR X hM ff_X4_0 ka lk_X4_12 dX4_count_167 (fun hk28 => ?_)
    refine cz_getR X hM ff_X2_4 hk28 lk_X4_118 dX4_count_170 (fun hk29 => ?_)
    refine lv_iconst (v := nI 1) hx hb dX4_count_173 (by decide) ?_
    refine cz_aald2 X hM h hk29 dX4_count_174 (fun h hk30 => ?_)
    refine cz_getI X hM ff_X3_1 hk30 lk_X4_176 dX4_count_175 ?_
    exact cz_reti X hM h rfl dX4_count_178
  have h := cz_ite_f c27 h
  by_cases c31 : x1 = (nI 10)
  · have h := cz_ite_t c31 h
    refine lv_tableIn (off := 178) (tgt := 179) hx hb dX4_count_1 (by rw [c31]; decide) (by rw [c31]; decide) (by rw [c31]; rfl) (by decide) ?_
    refine lv_aload_n hx hb dX4_count_179 rfl (lv_at hl 0 rfl) ?_
    refine cz_getR X hM ff_X4_0 ka lk_X4_12 dX4_count_180 (fun hk32 => ?_)
    obtain ⟨v33, hq, h⟩ := cz_bd_t h
    refine cz_runV (rest := []) (As := []) (T := TX2) (N0 := 9) X hM hl.1 (c_X2_allDelays (l := l) (g := g) (b := b) hk32 hq) mv_X2_allDelays rfl (by decide) hk32 ml_X4_179 ⟨Nat.le_trans (Nat.le_of_ble_eq_true rfl) hRf, Nat.le_trans (Nat.le_of_ble_eq_true rfl) hRl⟩ rfl rfl (Nat.le_of_ble_eq_true rfl) dX4_count_183 (fun H locs hM => ?_)
    exact cz_reti X hM h rfl dX4_count_186
  have h := cz_ite_f c31 h
  by_cases c34 : x1 = (nI 11)
  · have h := cz_ite_t c34 h
    refine lv_tableIn (off := 186) (tgt := 187) hx hb dX4_count_1 (by rw [c34]; decide) (by rw [c34]; decide) (by rw [c34]; rfl) (by decide) ?_
    refine lv_aload_n hx hb dX4_count_187 rfl (lv_at hl 0 rfl) ?_
    refine cz_getR X hM ff_X4_0 ka lk_X4_12 dX4_count_188 (fun hk35 => ?_)
    obtain ⟨v36, hq, h⟩ := cz_bd_t h
    refine cz_runV (rest := []) (As := []) (T := TX2) (N0 := 9) X hM hl.1 (c_X2_longestDelay (l := l) (g := g) (b := b) hk35 hq) mv_X2_longestDelay rfl (by decide) hk35 ml_X4_182 ⟨Nat.le_trans (Nat.le_of_ble_eq_true rfl) hRf, Nat.le_trans (Nat.le_of_ble_eq_true rfl) hRl⟩ rfl rfl (Nat.le_of_ble_eq_true rfl) dX4_count_191 (fun H locs hM => ?_)
    exact cz_reti X hM h rfl dX4_count_194
  have h := cz_ite_f c34 h
  by_cases c37 : x1 = (nI 12)
  · have h := cz_ite_t c37 h
    refine lv_tableIn (off := 194) (tgt := 195) hx hb dX4_count_1 (by rw [c37]; decide) (by rw [c37]; decide) (by rw [c37]; rfl) (by decide) ?_
    refine lv_aload_n hx hb dX4_count_195 rfl (lv_at hl 0 rfl) ?_
    refine cz_getR X hM ff_X4_0 ka lk_X4_12 dX4_count_196 (fun hk38 => ?_)
    obtain ⟨v39, hq, h⟩ := cz_bd_t h
    refine cz_runV (rest := []) (As := []) (T := TX2) (N0 := 9) X hM hl.1 (c_X2_wordsStruckInLetters (l := l) (g := g) (b := b) hk38 hq) mv_X2_wordsStruckInLetters rfl (by decide) hk38 ml_X4_185 ⟨Nat.le_trans (Nat.le_of_ble_eq_true rfl) hRf, Nat.le_trans (Nat.le_of_ble_eq_true rfl) hRl⟩ rfl rfl (Nat.le_of_ble_eq_true rfl) dX4_count_199 (fun H locs hM => ?_)
    exact cz_reti X hM h rfl dX4_count_202
  have h := cz_ite_f c37 h
  by_cases c40 : x1 = (nI 13)
  · have h := cz_ite_t c40 h
    refine lv_tableIn (off := 202) (tgt := 203) hx hb dX4_count_1 (by rw [c40]; decide) (by rw [c40]; decide) (by rw [c40]; rfl) (by decide) ?_
    refine lv_aload_n hx hb dX4_count_203 rfl (lv_at hl 0 rfl) ?_
    refine cz_getR X hM ff_X4_0 ka lk_X4_12 dX4_count_204 (fun hk41 => ?_)
    obtain ⟨v43, M42, hq, h⟩ := cz_b2_t h
    refine cz_runV (rest := []) (As := []) (T := TX2) (N0 := 9) X hM hl.1 (c_X2_threadsThatWait (l := l) (g := g) (b := b) hk41 hq) mv_X2_threadsThatWait rfl (by decide) hk41 ml_X4_188 ⟨Nat.le_trans (Nat.le_of_ble_eq_true rfl) hRf, Nat.le_trans (Nat.le_of_ble_eq_true rfl) hRl⟩ rfl rfl (Nat.le_of_ble_eq_true rfl) dX4_count_207 (fun H locs hM => ?_)
    exact cz_reti X hM h rfl dX4_count_210
  have h := cz_ite_f c40 h
  by_cases c44 : x1 = (nI 14)
  · have h := cz_ite_t c44 h
    refine lv_tableIn (off := 210) (tgt := 211) hx hb dX4_count_1 (by rw [c44]; decide) (by rw [c44]; decide) (by rw [c44]; rfl) (by decide) ?_
    refine lv_aload_n hx hb dX4_count_211 rfl (lv_at hl 0 rfl) ?_
    refine cz_getI X hM ff_X4_7 ka lk_X4_83 dX4_count_212 ?_
    exact cz_reti X hM h rfl dX4_count_215
  have h := cz_ite_f c44 h
  by_cases c45 : x1 = (nI 15)
  · have h := cz_ite_t c45 h
    refine lv_tableIn (off := 215) (tgt := 216) hx hb dX4_count_1 (by rw [c45]; decide) (by rw [c45]; decide) (by rw [c45]; rfl) (by decide) ?_
    refine lv_aload_n hx hb dX4_count_216 rfl (lv_at hl 0 rfl) ?_
    refine cz_getI X hM ff_X4_6 ka lk_X4_191 dX4_count_217 ?_
    exact cz_reti X hM h rfl dX4_count_220
  have h := cz_ite_f c45 h
  refine lv_tableOut (tgt := 221) hx hb dX4_count_1 (by
    have e0 := lv_neT c1 (show ((nI 0) : Int32).toInt = 0 from by decide)
    have e1 := lv_neT c4 (show ((nI 1) : Int32).toInt = 1 from by decide)
    have e2 := lv_neT c7 (show ((nI 2) : Int32).toInt = 2 from by decide)
    have e3 := lv_neT c10 (show ((nI 3) : Int32).toInt = 3 from by decide)
    have e4 := lv_neT c12 (show ((nI 4) : Int32).toInt = 4 from by decide)
    have e5 := lv_neT c14 (show ((nI 5) : Int32).toInt = 5 from by decide)
    have e6 := lv_neT c17 (show ((nI 6) : Int32).toInt = 6 from by decide)
    have e7 := lv_neT c20 (show ((nI 7) : Int32).toInt = 7 from by decide)
    have e8 := lv_neT c23 (show ((nI 8) : Int32).toInt = 8 from by decide)
    have e9 := lv_neT c27 (show ((nI 9) : Int32).toInt = 9 from by decide)
    have e10 := lv_neT c31 (show ((nI 10) : Int32).toInt = 10 from by decide)
    have e11 := lv_neT c34 (show ((nI 11) : Int32).toInt = 11 from by decide)
    have e12 := lv_neT c37 (show ((nI 12) : Int32).toInt = 12 from by decide)
    have e13 := lv_neT c40 (show ((nI 13) : Int32).toInt = 13 from by decide)
    have e14 := lv_neT c44 (show ((nI 14) : Int32).toInt = 14 from by decide)
    have e15 := lv_neT c45 (show ((nI 15) : Int32).toInt = 15 from by decide)
    clear h; omega) (by decide) ?_
  refine lv_bipush (v := -2) hx hb dX4_count_221 (by decide) ?_
  exact cz_reti X hM h rfl dX4_count_223
theorem mv_X4_untilCome : cz_MV yX4_untilCome cX4_untilCome 4 (some .int) RX4 1 := ⟨mi_X4_untilCome, ms_X4_untilCome, mc_X4_untilCome, ini_X4, by decide +kernel⟩
set_option maxHeartbeats 4000000 in
set_option maxRecDepth 100000 in
theorem w_X4_untilCome_L36 {p : Program} {l : Launch} {e : Env} {R : Room} {s : State} {m : MethodId} {args : Array Value} {below : List Frame} {meth : Method} {c : Code} {g : cz_G} {b : Nat} (X : cz_X p s m args meth c cX4_untilCome 4 RX4 g b (some .int)) (hRf : 5 ≤ R.frames) (hRl : 118 ≤ R.locals) {r0 : Int32} {M9 : cz_M} {a0 : Nat} {a2 : Nat} (ka0 : cz_K b a0 4) (ka2 : cz_K b a2 1)
    (K : Int32 → cz_M → Option (Int32 × cz_M)) (hX : ∀ (x3 : Int32)  (M : cz_M) (H : Heap) (locs : List Loc) (ls : Array Slot), K x3 M = some (r0, M9) → cz_WS g b M s H locs → lv_has ls 4 [(0, .ref a0), (2, .ref a2), (3, .int x3)] → W p l e R s m args below meth c H locs 0 0 (MQ below (cz_Q g b (some (.int r0)) M9) args s 0 0 (cz_Ar b)) (F0 m 63 ls [])) :
    ∀ (n : Nat) (x3 : Int32)  (M : cz_M) (H : Heap) (locs : List Loc) (ls : Array Slot), cz_it2 (f_X4_untilCome_L36 a0 a2 K) n x3 M = some (r0, M9) → cz_WS g b M s H locs → lv_has ls 4 [(0, .ref a0), (2, .ref a2), (3, .int x3)] → W p l e R s m args below meth c H locs 0 0 (MQ below (cz_Q g b (some (.int r0)) M9) args s 0 0 (cz_Ar b)) (F0 m 36 ls []) := by
  obtain ⟨hx, hb, -, ho, ht, -⟩ := id X
  intro n
  induction n with
  | zero => intro x3 M H locs ls h; cases (show none = some _ from h)
  | succ n ih =>
    intro x3 M H locs ls h hM hl
    have h : f_X4_untilCome_L36 a0 a2 K (cz_it2 (f_X4_untilCome_L36 a0 a2 K) n) x3 M = some (r0, M9) := h
    rw [f_X4_untilCome_L36] at h
    refine lv_iload_n hx hb dX4_untilCome_36 rfl (lv_at hl 2 rfl) ?_
    refine lv_bipush (v := nI 100) hx hb dX4_untilCome_37 (by decide) ?_
    refine lv_icmp_ge (tgt := 63) hx hb dX4_untilCome_39 (by decide) (fun c12 => ?_) (fun c12 => ?_)
    · have h := cz_ite_t c12 h
      exact hX _ _ _ _ _ h hM (lv_sub hl [0, 1, 2] rfl)
    · have h := cz_ite_f c12 h
      refine lv_aload_n hx hb dX4_untilCome_42 rfl (lv_at hl 1 rfl) ?_
      refine cz_getI X hM ff_X1_5 ka2 lk_X4_94 dX4_untilCome_43 ?_
      refine lv_if_ne (tgt := 63) hx hb dX4_untilCome_46 (by decide) (fun c13 => ?_) (fun c13 => ?_)
      · have h := cz_ite_f c13 h
        exact hX _ _ _ _ _ h hM (lv_sub hl [0, 1, 2] rfl)
      · have h := cz_ite_t c13 h
        refine lv_aload_n hx hb dX4_untilCome_49 rfl (lv_at hl 0 rfl) ?_
        refine cz_getR X hM ff_X4_1 ka0 lk_X4_16 dX4_untilCome_50 (fun hk14 => ?_)
        obtain ⟨v16, M15, hq, h⟩ := cz_b2_t h
        refine cz_runV (rest := []) (As := []) (T := TX2) (N0 := 9) X hM hl.1 (c_X2_passWeek (l := l) (g := g) (b := b) hk14 hq) mv_X2_passWeek rfl (by decide) hk14 ml_X4_198 ⟨Nat.le_trans (Nat.le_of_ble_eq_true rfl) hRf, Nat.le_trans (Nat.le_of_ble_eq_true rfl) hRl⟩ rfl rfl (Nat.le_of_ble_eq_true rfl) dX4_untilCome_53 (fun H locs hM => ?_)
        refine lv_pop hx hb dX4_untilCome_56 rfl ?_
        refine cz_nmL (v := x3 + nI 1) h (fun v17 e18 h => ?_)
        refine lv_iinc (v := v17) (lv' := [(3, .int v17), (0, .ref a0), (2, .ref a2)]) hx hb dX4_untilCome_57 hl (k := 2) rfl (by rw [e18]; rfl) (by decide) rfl (fun ls hl => ?_)
        refine lv_goto (tgt := 36) hx hb dX4_untilCome_60 (by decide) ?_
        exact ih _ _ _ _ _ h hM (lv_sub hl [1, 2, 0] rfl)
set_option maxHeartbeats 4000000 in
set_option maxRecDepth 100000 in
theorem c_X4_untilCome {l : Launch} {g : cz_G} {b : Nat} {M : cz_M} {r0 : Int32} {M9 : cz_M} {a : Nat} {x1 : Int32} (ka : cz_K b a 4) (h : f_X4_untilCome M a x1 = some (r0, M9)) : cz_C l yX4_untilCome cX4_untilCome 4 (some .int) 5 118 g b [.ref a, .int x1] M (some (.int r0)) M9 := by
  refine cz_start (by decide) (Nat.le_of_ble_eq_true rfl) (fun p e s m args below meth c X H ls hM hl => ?_)
  have X : cz_X p s m args meth c cX4_untilCome 4 RX4 g b (some .int) := X
  obtain ⟨hx, hb, -, ho, ht, -⟩ := id X
  have hRf : 5 ≤ ({ frames := 5, cells := 0, slots := 0, locals := 118 } : Room).frames := Nat.le_refl _
  have hRl : 118 ≤ ({ frames := 5, cells := 0, slots := 0, locals := 118 } : Room).locals := Nat.le_refl _
  have hl : lv_has ls 4 [(0, .ref a), (1, .int x1)] := hl
  rw [f_X4_untilCome] at h
  refine lv_aload_n hx hb dX4_untilCome_0 rfl (lv_at hl 0 rfl) ?_
  refine cz_getR X hM ff_X4_0 ka lk_X4_12 dX4_untilCome_1 (fun hk1 => ?_)
  refine lv_iload_n hx hb dX4_untilCome_4 rfl (lv_at hl 1 rfl) ?_
  obtain ⟨v2, hq, h⟩ := cz_bd_t h
  refine cz_runV (rest := []) (As := [.int x1]) (T := TX2) (N0 := 9) X hM hl.1 (c_X2_hasLetter (l := l) (g := g) (b := b) hk1 hq) mv_X2_hasLetter rfl (by decide) hk1 ml_X4_86 ⟨Nat.le_trans (Nat.le_of_ble_eq_true rfl) hRf, Nat.le_trans (Nat.le_of_ble_eq_true rfl) hRl⟩ rfl rfl (Nat.le_of_ble_eq_true rfl) dX4_untilCome_5 (fun H locs hM => ?_)
  refine lv_if_ne (tgt := 13) hx hb dX4_untilCome_8 (by decide) (fun c3 => ?_) (fun c3 => ?_)
  · have h := cz_ite_f c3 h
    refine lv_aload_n hx hb dX4_untilCome_13 rfl (lv_at hl 0 rfl) ?_
    refine cz_getR X hM ff_X4_1 ka lk_X4_16 dX4_untilCome_14 (fun hk4 => ?_)
    refine lv_aload_n hx hb dX4_untilCome_17 rfl (lv_at hl 0 rfl) ?_
    refine cz_getR X hM ff_X4_0 ka lk_X4_12 dX4_untilCome_18 (fun hk5 => ?_)
    obtain ⟨M6, hq, h⟩ := cz_bd_t h
    refine cz_runV (rest := []) (As := [.ref (a + 1)]) (T := TX2) (N0 := 9) X hM hl.1 (c_X2_copyFrom (l := l) (g := g) (b := b) hk4 hk5 hq) mv_X2_copyFrom rfl (by decide) hk4 ml_X4_194 ⟨Nat.le_trans (Nat.le_of_ble_eq_true rfl) hRf, Nat.le_trans (Nat.le_of_ble_eq_true rfl) hRl⟩ rfl rfl (Nat.le_of_ble_eq_true rfl) dX4_untilCome_21 (fun H locs hM => ?_)
    refine lv_aload_n hx hb dX4_untilCome_24 rfl (lv_at hl 0 rfl) ?_
    refine cz_getR X hM ff_X4_1 ka lk_X4_16 dX4_untilCome_25 (fun hk7 => ?_)
    refine cz_getR X hM ff_X2_3 hk7 lk_X4_90 dX4_untilCome_28 (fun hk8 => ?_)
    refine lv_iload_n hx hb dX4_untilCome_31 rfl (lv_at hl 1 rfl) ?_
    refine cz_aald1 X hM h hk8 dX4_untilCome_32 (fun h hk9 => ?_)
    refine cz_nmr h hk9 (fun r10 h hk11 => ?_)
    refine lv_astore_n (lv' := [(2, .ref r10), (0, .ref a), (1, .int x1)]) hx hb dX4_untilCome_33 rfl hl (by decide) rfl (fun ls hl => ?_)
    refine lv_iconst (v := nI 0) hx hb dX4_untilCome_34 (by decide) ?_
    refine lv_istore_n (lv' := [(3, .int (nI 0)), (2, .ref r10), (0, .ref a), (1, .int x1)]) hx hb dX4_untilCome_35 rfl hl (by decide) rfl (fun ls hl => ?_)
    refine w_X4_untilCome_L36 X hRf hRl ka hk11 _ (fun y19 M20 H locs ls h hM hl => ?_) _ _ _ _ _ _ h hM (lv_sub hl [2, 1, 0] rfl)
    refine lv_aload_n hx hb dX4_untilCome_63 rfl (lv_at hl 1 rfl) ?_
    refine cz_getI X hM ff_X1_5 hk11 lk_X4_94 dX4_untilCome_64 ?_
    refine lv_iconst (v := nI 1) hx hb dX4_untilCome_67 (by decide) ?_
    refine lv_icmp_ne (tgt := 75) hx hb dX4_untilCome_68 (by decide) (fun c21 => ?_) (fun c21 => ?_)
    · have h := cz_ite_f c21 h
      refine lv_bipush (v := -6) hx hb dX4_untilCome_75 (by decide) ?_
      exact cz_reti X hM h rfl dX4_untilCome_77
    · have h := cz_ite_t c21 h
      refine lv_iload_n hx hb dX4_untilCome_71 rfl (lv_at hl 2 rfl) ?_
      refine lv_goto (tgt := 77) hx hb dX4_untilCome_72 (by decide) ?_
      exact cz_reti X hM h rfl dX4_untilCome_77
  · have h := cz_ite_t c3 h
    refine lv_iconst (v := -1) hx hb dX4_untilCome_11 (by decide) ?_
    exact cz_reti X hM h rfl dX4_untilCome_12
theorem mv_X4_ifPassed : cz_MV yX4_ifPassed cX4_ifPassed 4 (some .int) RX4 2 := ⟨mi_X4_ifPassed, ms_X4_ifPassed, mc_X4_ifPassed, ini_X4, by decide +kernel⟩
set_option maxHeartbeats 4000000 in
set_option maxRecDepth 100000 in
theorem c_X4_ifPassed {l : Launch} {g : cz_G} {b : Nat} {M : cz_M} {r0 : Int32} {M9 : cz_M} {a : Nat} {x1 : Int32} {x2 : Int32} (ka : cz_K b a 4) (h : f_X4_ifPassed M a x1 x2 = some (r0, M9)) : cz_C l yX4_ifPassed cX4_ifPassed 4 (some .int) 6 141 g b [.ref a, .int x1, .int x2] M (some (.int r0)) M9 := by
  refine cz_start (by decide) (Nat.le_of_ble_eq_true rfl) (fun p e s m args below meth c X H ls hM hl => ?_)
  have X : cz_X p s m args meth c cX4_ifPassed 4 RX4 g b (some .int) := X
  obtain ⟨hx, hb, -, ho, ht, -⟩ := id X
  have hRf : 6 ≤ ({ frames := 6, cells := 0, slots := 0, locals := 141 } : Room).frames := Nat.le_refl _
  have hRl : 141 ≤ ({ frames := 6, cells := 0, slots := 0, locals := 141 } : Room).locals := Nat.le_refl _
  have hl : lv_has ls 4 [(0, .ref a), (1, .int x1), (2, .int x2)] := hl
  rw [f_X4_ifPassed] at h
  refine lv_iload_n hx hb dX4_ifPassed_0 rfl (lv_at hl 1 rfl) ?_
  refine lv_iconst (v := nI 1) hx hb dX4_ifPassed_1 (by decide) ?_
  refine lv_icmp_lt (tgt := 20) hx hb dX4_ifPassed_2 (by decide) (fun c1 => ?_) (fun c1 => ?_)
  · have h := cz_ite_t c1 h
    refine lv_bipush (v := -2) hx hb dX4_ifPassed_20 (by decide) ?_
    exact cz_reti X hM h rfl dX4_ifPassed_22
  · have h := cz_ite_f c1 h
    refine lv_iload_n hx hb dX4_ifPassed_5 rfl (lv_at hl 1 rfl) ?_
    refine lv_bipush (v := nI 100) hx hb dX4_ifPassed_6 (by decide) ?_
    refine lv_icmp_gt (tgt := 20) hx hb dX4_ifPassed_8 (by decide) (fun c2 => ?_) (fun c2 => ?_)
    · have h := cz_ite_t c2 h
      refine lv_bipush (v := -2) hx hb dX4_ifPassed_20 (by decide) ?_
      exact cz_reti X hM h rfl dX4_ifPassed_22
    · have h := cz_ite_f c2 h
      refine lv_iload_n hx hb dX4_ifPassed_11 rfl (lv_at hl 2 rfl) ?_
      refine lv_if_lt (tgt := 20) hx hb dX4_ifPassed_12 (by decide) (fun c3 => ?_) (fun c3 => ?_)
      · have h := cz_ite_t c3 h
        refine lv_bipush (v := -2) hx hb dX4_ifPassed_20 (by decide) ?_
        exact cz_reti X hM h rfl dX4_ifPassed_22
      · have h := cz_ite_f c3 h
        refine lv_iload_n hx hb dX4_ifPassed_15 rfl (lv_at hl 2 rfl) ?_
        refine lv_iconst (v := nI 2) hx hb dX4_ifPassed_16 (by decide) ?_
        refine lv_icmp_le (tgt := 23) hx hb dX4_ifPassed_17 (by decide) (fun c4 => ?_) (fun c4 => ?_)
        · have h := cz_ite_t c4 h
          refine lv_aload_n hx hb dX4_ifPassed_23 rfl (lv_at hl 0 rfl) ?_
          refine cz_getR X hM ff_X4_1 ka lk_X4_16 dX4_ifPassed_24 (fun hk5 => ?_)
          refine lv_aload_n hx hb dX4_ifPassed_27 rfl (lv_at hl 0 rfl) ?_
          refine cz_getR X hM ff_X4_0 ka lk_X4_12 dX4_ifPassed_28 (fun hk6 => ?_)
          obtain ⟨M7, hq, h⟩ := cz_bd_t h
          refine cz_runV (rest := []) (As := [.ref (a + 1)]) (T := TX2) (N0 := 9) X hM hl.1 (c_X2_copyFrom (l := l) (g := g) (b := b) hk5 hk6 hq) mv_X2_copyFrom rfl (by decide) hk5 ml_X4_194 ⟨Nat.le_trans (Nat.le_of_ble_eq_true rfl) hRf, Nat.le_trans (Nat.le_of_ble_eq_true rfl) hRl⟩ rfl rfl (Nat.le_of_ble_eq_true rfl) dX4_ifPassed_31 (fun H locs hM => ?_)
          refine lv_aload_n hx hb dX4_ifPassed_34 rfl (lv_at hl 0 rfl) ?_
          refine cz_getR X hM ff_X4_1 ka lk_X4_16 dX4_ifPassed_35 (fun hk8 => ?_)
          refine lv_iload_n hx hb dX4_ifPassed_38 rfl (lv_at hl 1 rfl) ?_
          obtain ⟨v10, M9, hq, h⟩ := cz_b2_t h
          refine cz_runV (rest := []) (As := [.int x1]) (T := TX2) (N0 := 9) X hM hl.1 (c_X2_passWeeks (l := l) (g := g) (b := b) hk8 hq) mv_X2_passWeeks rfl (by decide) hk8 ml_X4_109 ⟨Nat.le_trans (Nat.le_of_ble_eq_true rfl) hRf, Nat.le_trans (Nat.le_of_ble_eq_true rfl) hRl⟩ rfl rfl (Nat.le_of_ble_eq_true rfl) dX4_ifPassed_39 (fun H locs hM => ?_)
          refine lv_istore_n (lv' := [(3, .int v10), (0, .ref a), (1, .int x1), (2, .int x2)]) hx hb dX4_ifPassed_42 rfl hl (by decide) rfl (fun ls hl => ?_)
          refine lv_iload_n hx hb dX4_ifPassed_43 rfl (lv_at hl 3 rfl) ?_
          by_cases c11 : x2 = (nI 0)
          · have h := cz_ite_t c11 h
            refine lv_lookup (off := 28) (tgt := 72) hx hb dX4_ifPassed_44 (by decide) (by rw [c11]; rfl) (by decide) ?_
            refine lv_iload_n hx hb dX4_ifPassed_72 rfl (lv_at hl 0 rfl) ?_
            exact cz_reti X hM h rfl dX4_ifPassed_73
          have h := cz_ite_f c11 h
          by_cases c12 : x2 = (nI 1)
          · have h := cz_ite_t c12 h
            refine lv_lookup (off := 30) (tgt := 74) hx hb dX4_ifPassed_44 (by decide) (by rw [c12]; rfl) (by decide) ?_
            refine lv_aload_n hx hb dX4_ifPassed_74 rfl (lv_at hl 1 rfl) ?_
            refine cz_getR X hM ff_X4_1 ka lk_X4_16 dX4_ifPassed_75 (fun hk13 => ?_)
            refine lv_iconst (v := nI 2) hx hb dX4_ifPassed_78 (by decide) ?_
            obtain ⟨v14, hq, h⟩ := cz_bd_t h
            refine cz_runV (rest := []) (As := [.int (nI 2)]) (T := TX2) (N0 := 9) X hM hl.1 (c_X2_lettersThatAre (l := l) (g := g) (b := b) hk13 hq) mv_X2_lettersThatAre rfl (by decide) hk13 ml_X4_173 ⟨Nat.le_trans (Nat.le_of_ble_eq_true rfl) hRf, Nat.le_trans (Nat.le_of_ble_eq_true rfl) hRl⟩ rfl rfl (Nat.le_of_ble_eq_true rfl) dX4_ifPassed_79 (fun H locs hM => ?_)
            refine lv_aload_n hx hb dX4_ifPassed_82 rfl (lv_at hl 1 rfl) ?_
            refine cz_getR X hM ff_X4_0 ka lk_X4_12 dX4_ifPassed_83 (fun hk15 => ?_)
            refine lv_iconst (v := nI 2) hx hb dX4_ifPassed_86 (by decide) ?_
            obtain ⟨v16, hq, h⟩ := cz_bd_t h
            refine cz_runV (rest := [.int v14]) (As := [.int (nI 2)]) (T := TX2) (N0 := 9) X hM hl.1 (c_X2_lettersThatAre (l := l) (g := g) (b := b) hk15 hq) mv_X2_lettersThatAre rfl (by decide) hk15 ml_X4_173 ⟨Nat.le_trans (Nat.le_of_ble_eq_true rfl) hRf, Nat.le_trans (Nat.le_of_ble_eq_true rfl) hRl⟩ rfl rfl (Nat.le_of_ble_eq_true rfl) dX4_ifPassed_87 (fun H locs hM => ?_)
            refine lv_isub hx hb dX4_ifPassed_90 ?_
            exact cz_reti X hM h rfl dX4_ifPassed_91
          have h := cz_ite_f c12 h
          refine lv_lookup (off := 48) (tgt := 92) hx hb dX4_ifPassed_44 (by decide) (by show Op.lookupswitch.offset [(0, 28), (1, 30)] 48 _ = 48; rw [lv_osw c11 (show ((nI 0) : Int32).toInt = 0 from by decide), lv_osw c12 (show ((nI 1) : Int32).toInt = 1 from by decide)]; rfl) (by decide) ?_
          refine lv_aload_n hx hb dX4_ifPassed_92 rfl (lv_at hl 1 rfl) ?_
          refine cz_getR X hM ff_X4_1 ka lk_X4_16 dX4_ifPassed_93 (fun hk17 => ?_)
          obtain ⟨v18, hq, h⟩ := cz_bd_t h
          refine cz_runV (rest := []) (As := []) (T := TX2) (N0 := 9) X hM hl.1 (c_X2_wordsStruckInLetters (l := l) (g := g) (b := b) hk17 hq) mv_X2_wordsStruckInLetters rfl (by decide) hk17 ml_X4_185 ⟨Nat.le_trans (Nat.le_of_ble_eq_true rfl) hRf, Nat.le_trans (Nat.le_of_ble_eq_true rfl) hRl⟩ rfl rfl (Nat.le_of_ble_eq_true rfl) dX4_ifPassed_96 (fun H locs hM => ?_)
          refine lv_aload_n hx hb dX4_ifPassed_99 rfl (lv_at hl 1 rfl) ?_
          refine cz_getR X hM ff_X4_0 ka lk_X4_12 dX4_ifPassed_100 (fun hk19 => ?_)
          obtain ⟨v20, hq, h⟩ := cz_bd_t h
          refine cz_runV (rest := [.int v18]) (As := []) (T := TX2) (N0 := 9) X hM hl.1 (c_X2_wordsStruckInLetters (l := l) (g := g) (b := b) hk19 hq) mv_X2_wordsStruckInLetters rfl (by decide) hk19 ml_X4_185 ⟨Nat.le_trans (Nat.le_of_ble_eq_true rfl) hRf, Nat.le_trans (Nat.le_of_ble_eq_true rfl) hRl⟩ rfl rfl (Nat.le_of_ble_eq_true rfl) dX4_ifPassed_103 (fun H locs hM => ?_)
          refine lv_isub hx hb dX4_ifPassed_106 ?_
          exact cz_reti X hM h rfl dX4_ifPassed_107
        · have h := cz_ite_f c4 h
          refine lv_bipush (v := -2) hx hb dX4_ifPassed_20 (by decide) ?_
          exact cz_reti X hM h rfl dX4_ifPassed_22
theorem mv_X4_bestTrade : cz_MV yX4_bestTrade cX4_bestTrade 6 (some .int) RX4 0 := ⟨mi_X4_bestTrade, ms_X4_bestTrade, mc_X4_bestTrade, ini_X4, by decide +kernel⟩
set_option maxHeartbeats 4000000 in
set_option maxRecDepth 100000 in
theorem w_X4_bestTrade_L36 {p : Program} {l : Launch} {e : Env} {R : Room} {s : State} {m : MethodId} {args : Array Value} {below : List Frame} {meth : Method} {c : Code} {g : cz_G} {b : Nat} (X : cz_X p s m args meth c cX4_bestTrade 6 RX4 g b (some .int)) (hRf : 6 ≤ R.frames) (hRl : 141 ≤ R.locals) {r0 : Int32} {M9 : cz_M} {a0 : Nat} {x3 : Int32} (ka0 : cz_K b a0 4)
    (K : Int32 → Int32 → Int32 → cz_M → Option (Int32 × cz_M)) (hX : ∀ (x1 : Int32) (x2 : Int32) (x4 : Int32)  (M : cz_M) (H : Heap) (locs : List Loc) (ls : Array Slot), K x1 x2 x4 M = some (r0, M9) → cz_WS g b M s H locs → lv_has ls 6 [(0, .ref a0), (1, .int x1), (2, .int x2), (3, .int x3), (4, .int x4)] → W p l e R s m args below meth c H locs 0 0 (MQ below (cz_Q g b (some (.int r0)) M9) args s 0 0 (cz_Ar b)) (F0 m 97 ls [])) :
    ∀ (n : Nat) (x1 : Int32) (x2 : Int32) (x4 : Int32)  (M : cz_M) (H : Heap) (locs : List Loc) (ls : Array Slot), cz_it4 (f_X4_bestTrade_L36 a0 x3 K) n x1 x2 x4 M = some (r0, M9) → cz_WS g b M s H locs → lv_has ls 6 [(0, .ref a0), (1, .int x1), (2, .int x2), (3, .int x3), (4, .int x4)] → W p l e R s m args below meth c H locs 0 0 (MQ below (cz_Q g b (some (.int r0)) M9) args s 0 0 (cz_Ar b)) (F0 m 36 ls []) := by
  obtain ⟨hx, hb, -, ho, ht, -⟩ := id X
  intro n
  induction n with
  | zero => intro x1 x2 x4 M H locs ls h; cases (show none = some _ from h)
  | succ n ih =>
    intro x1 x2 x4 M H locs ls h hM hl
    have h : f_X4_bestTrade_L36 a0 x3 K (cz_it4 (f_X4_bestTrade_L36 a0 x3 K) n) x1 x2 x4 M = some (r0, M9) := h
    rw [f_X4_bestTrade_L36] at h
    refine lv_iload hx hb dX4_bestTrade_36 (lv_at hl 4 rfl) ?_
    refine lv_bipush (v := nI 8) hx hb dX4_bestTrade_38 (by decide) ?_
    refine lv_icmp_ge (tgt := 97) hx hb dX4_bestTrade_40 (by decide) (fun c9 => ?_) (fun c9 => ?_)
    · have h := cz_ite_t c9 h
      exact hX _ _ _ _ _ _ _ h hM (lv_sub hl [0, 1, 2, 3, 4] rfl)
    · have h := cz_ite_f c9 h
      refine lv_aload_n hx hb dX4_bestTrade_43 rfl (lv_at hl 0 rfl) ?_
      refine cz_getR X hM ff_X4_1 ka0 lk_X4_16 dX4_bestTrade_44 (fun hk10 => ?_)
      refine lv_aload_n hx hb dX4_bestTrade_47 rfl (lv_at hl 0 rfl) ?_
      refine cz_getR X hM ff_X4_0 ka0 lk_X4_12 dX4_bestTrade_48 (fun hk11 => ?_)
      obtain ⟨M12, hq, h⟩ := cz_bd_t h
      refine cz_runV (rest := []) (As := [.ref (a0 + 1)]) (T := TX2) (N0 := 9) X hM hl.1 (c_X2_copyFrom (l := l) (g := g) (b := b) hk10 hk11 hq) mv_X2_copyFrom rfl (by decide) hk10 ml_X4_194 ⟨Nat.le_trans (Nat.le_of_ble_eq_true rfl) hRf, Nat.le_trans (Nat.le_of_ble_eq_true rfl) hRl⟩ rfl rfl (Nat.le_of_ble_eq_true rfl) dX4_bestTrade_51 (fun H locs hM => ?_)
      refine lv_aload_n hx hb dX4_bestTrade_54 rfl (lv_at hl 0 rfl) ?_
      refine cz_getR X hM ff_X4_1 ka0 lk_X4_16 dX4_bestTrade_55 (fun hk13 => ?_)
      refine lv_iload_n hx hb dX4_bestTrade_58 rfl (lv_at hl 3 rfl) ?_
      refine lv_iload hx hb dX4_bestTrade_59 (lv_at hl 4 rfl) ?_
      obtain ⟨M14, hq, h⟩ := cz_bd_t h
      refine cz_runV (rest := []) (As := [.int x3, .int x4]) (T := TX2) (N0 := 9) X hM hl.1 (c_X2_tradeShifts (l := l) (g := g) (b := b) hk13 hq) mv_X2_tradeShifts rfl (by decide) hk13 ml_X4_66 ⟨Nat.le_trans (Nat.le_of_ble_eq_true rfl) hRf, Nat.le_trans (Nat.le_of_ble_eq_true rfl) hRl⟩ rfl rfl (Nat.le_of_ble_eq_true rfl) dX4_bestTrade_61 (fun H locs hM => ?_)
      refine lv_aload_n hx hb dX4_bestTrade_64 rfl (lv_at hl 0 rfl) ?_
      refine cz_getR X hM ff_X4_1 ka0 lk_X4_16 dX4_bestTrade_65 (fun hk15 => ?_)
      refine lv_iconst (v := nI 4) hx hb dX4_bestTrade_68 (by decide) ?_
      obtain ⟨v17, M16, hq, h⟩ := cz_b2_t h
      refine cz_runV (rest := []) (As := [.int (nI 4)]) (T := TX2) (N0 := 9) X hM hl.1 (c_X2_passWeeks (l := l) (g := g) (b := b) hk15 hq) mv_X2_passWeeks rfl (by decide) hk15 ml_X4_109 ⟨Nat.le_trans (Nat.le_of_ble_eq_true rfl) hRf, Nat.le_trans (Nat.le_of_ble_eq_true rfl) hRl⟩ rfl rfl (Nat.le_of_ble_eq_true rfl) dX4_bestTrade_69 (fun H locs hM => ?_)
      refine lv_istore (lv' := [(5, .int v17), (0, .ref a0), (1, .int x1), (2, .int x2), (3, .int x3), (4, .int x4)]) hx hb dX4_bestTrade_72 hl (by decide) rfl (fun ls hl => ?_)
      refine lv_iload hx hb dX4_bestTrade_74 (lv_at hl 0 rfl) ?_
      refine lv_iload_n hx hb dX4_bestTrade_76 rfl (lv_at hl 2 rfl) ?_
      refine lv_icmp_le (tgt := 91) hx hb dX4_bestTrade_77 (by decide) (fun c18 => ?_) (fun c18 => ?_)
      · have h := cz_ite_t c18 h
        refine cz_nmL (v := x4 + nI 1) h (fun v19 e20 h => ?_)
        refine lv_iinc (v := v19) (lv' := [(4, .int v19), (5, .int v17), (0, .ref a0), (1, .int x1), (2, .int x2), (3, .int x3)]) hx hb dX4_bestTrade_91 hl (k := 5) rfl (by rw [e20]; rfl) (by decide) rfl (fun ls hl => ?_)
        refine lv_goto (tgt := 36) hx hb dX4_bestTrade_94 (by decide) ?_
        exact ih _ _ _ _ _ _ _ h hM (lv_sub hl [2, 3, 4, 5, 0] rfl)
      · have h := cz_ite_f c18 h
        refine lv_iload hx hb dX4_bestTrade_80 (lv_at hl 0 rfl) ?_
        refine lv_istore_n (lv' := [(1, .int v17), (5, .int v17), (0, .ref a0), (2, .int x2), (3, .int x3), (4, .int x4)]) hx hb dX4_bestTrade_82 rfl hl (by decide) rfl (fun ls hl => ?_)
        refine lv_bipush (v := nI 8) hx hb dX4_bestTrade_83 (by decide) ?_
        refine lv_iload_n hx hb dX4_bestTrade_85 rfl (lv_at hl 4 rfl) ?_
        refine lv_imul hx hb dX4_bestTrade_86 ?_
        refine lv_iload hx hb dX4_bestTrade_87 (lv_at hl 5 rfl) ?_
        refine lv_iadd hx hb dX4_bestTrade_89 ?_
        refine cz_nmi h (fun v21 h => ?_)
        refine lv_istore_n (lv' := [(2, .int v21), (1, .int v17), (5, .int v17), (0, .ref a0), (3, .int x3), (4, .int x4)]) hx hb dX4_bestTrade_90 rfl hl (by decide) rfl (fun ls hl => ?_)
        refine cz_nmL (v := x4 + nI 1) h (fun v22 e23 h => ?_)
        refine lv_iinc (v := v22) (lv' := [(4, .int v22), (2, .int v21), (1, .int v17), (5, .int v17), (0, .ref a0), (3, .int x3)]) hx hb dX4_bestTrade_91 hl (k := 5) rfl (by rw [e23]; rfl) (by decide) rfl (fun ls hl => ?_)
        refine lv_goto (tgt := 36) hx hb dX4_bestTrade_94 (by decide) ?_
        exact ih _ _ _ _ _ _ _ h hM (lv_sub hl [4, 2, 1, 5, 0] rfl)
set_option maxHeartbeats 4000000 in
set_option maxRecDepth 100000 in
theorem w_X4_bestTrade_L25 {p : Program} {l : Launch} {e : Env} {R : Room} {s : State} {m : MethodId} {args : Array Value} {below : List Frame} {meth : Method} {c : Code} {g : cz_G} {b : Nat} (X : cz_X p s m args meth c cX4_bestTrade 6 RX4 g b (some .int)) (hRf : 6 ≤ R.frames) (hRl : 141 ≤ R.locals) {r0 : Int32} {M9 : cz_M} {a0 : Nat} (ka0 : cz_K b a0 4)
    (K : Int32 → Int32 → Int32 → cz_M → Option (Int32 × cz_M)) (hX : ∀ (x1 : Int32) (x2 : Int32) (x3 : Int32)  (M : cz_M) (H : Heap) (locs : List Loc) (ls : Array Slot), K x1 x2 x3 M = some (r0, M9) → cz_WS g b M s H locs → lv_has ls 6 [(0, .ref a0), (1, .int x1), (2, .int x2), (3, .int x3)] → W p l e R s m args below meth c H locs 0 0 (MQ below (cz_Q g b (some (.int r0)) M9) args s 0 0 (cz_Ar b)) (F0 m 103 ls [])) :
    ∀ (n : Nat) (x1 : Int32) (x2 : Int32) (x3 : Int32)  (M : cz_M) (H : Heap) (locs : List Loc) (ls : Array Slot), cz_it4 (f_X4_bestTrade_L25 a0 K) n x1 x2 x3 M = some (r0, M9) → cz_WS g b M s H locs → lv_has ls 6 [(0, .ref a0), (1, .int x1), (2, .int x2), (3, .int x3)] → W p l e R s m args below meth c H locs 0 0 (MQ below (cz_Q g b (some (.int r0)) M9) args s 0 0 (cz_Ar b)) (F0 m 25 ls []) := by
  obtain ⟨hx, hb, -, ho, ht, -⟩ := id X
  intro n
  induction n with
  | zero => intro x1 x2 x3 M H locs ls h; cases (show none = some _ from h)
  | succ n ih =>
    intro x1 x2 x3 M H locs ls h hM hl
    have h : f_X4_bestTrade_L25 a0 K (cz_it4 (f_X4_bestTrade_L25 a0 K) n) x1 x2 x3 M = some (r0, M9) := h
    rw [f_X4_bestTrade_L25] at h
    refine lv_iload_n hx hb dX4_bestTrade_25 rfl (lv_at hl 3 rfl) ?_
    refine lv_bipush (v := nI 8) hx hb dX4_bestTrade_26 (by decide) ?_
    refine lv_icmp_ge (tgt := 103) hx hb dX4_bestTrade_28 (by decide) (fun c7 => ?_) (fun c7 => ?_)
    · have h := cz_ite_t c7 h
      exact hX _ _ _ _ _ _ _ h hM (lv_sub hl [0, 1, 2, 3] rfl)
    · have h := cz_ite_f c7 h
      refine lv_iload_n hx hb dX4_bestTrade_31 rfl (lv_at hl 3 rfl) ?_
      refine lv_iconst (v := nI 1) hx hb dX4_bestTrade_32 (by decide) ?_
      refine lv_iadd hx hb dX4_bestTrade_33 ?_
      refine cz_nmi h (fun v8 h => ?_)
      refine lv_istore (lv' := [(4, .int v8), (0, .ref a0), (1, .int x1), (2, .int x2), (3, .int x3)]) hx hb dX4_bestTrade_34 hl (by decide) rfl (fun ls hl => ?_)
      refine w_X4_bestTrade_L36 X hRf hRl ka0 _ (fun y24 y25 y26 M27 H locs ls h hM hl => ?_) _ _ _ _ _ _ _ _ h hM (lv_sub hl [1, 2, 3, 4, 0] rfl)
      refine cz_nmL (v := x3 + nI 1) h (fun v28 e29 h => ?_)
      refine lv_iinc (v := v28) (lv' := [(3, .int v28), (0, .ref a0), (1, .int y24), (2, .int y25), (4, .int y26)]) hx hb dX4_bestTrade_97 hl (k := 3) rfl (by rw [e29]; rfl) (by decide) rfl (fun ls hl => ?_)
      refine lv_goto (tgt := 25) hx hb dX4_bestTrade_100 (by decide) ?_
      exact ih _ _ _ _ _ _ _ h hM (lv_sub hl [1, 2, 3, 0] rfl)
set_option maxHeartbeats 4000000 in
set_option maxRecDepth 100000 in
theorem c_X4_bestTrade {l : Launch} {g : cz_G} {b : Nat} {M : cz_M} {r0 : Int32} {M9 : cz_M} {a : Nat} (ka : cz_K b a 4) (h : f_X4_bestTrade M a = some (r0, M9)) : cz_C l yX4_bestTrade cX4_bestTrade 6 (some .int) 6 141 g b [.ref a] M (some (.int r0)) M9 := by
  refine cz_start (by decide) (Nat.le_of_ble_eq_true rfl) (fun p e s m args below meth c X H ls hM hl => ?_)
  have X : cz_X p s m args meth c cX4_bestTrade 6 RX4 g b (some .int) := X
  obtain ⟨hx, hb, -, ho, ht, -⟩ := id X
  have hRf : 6 ≤ ({ frames := 6, cells := 0, slots := 0, locals := 141 } : Room).frames := Nat.le_refl _
  have hRl : 141 ≤ ({ frames := 6, cells := 0, slots := 0, locals := 141 } : Room).locals := Nat.le_refl _
  have hl : lv_has ls 6 [(0, .ref a)] := hl
  rw [f_X4_bestTrade] at h
  refine lv_aload_n hx hb dX4_bestTrade_0 rfl (lv_at hl 0 rfl) ?_
  refine cz_getR X hM ff_X4_1 ka lk_X4_16 dX4_bestTrade_1 (fun hk1 => ?_)
  refine lv_aload_n hx hb dX4_bestTrade_4 rfl (lv_at hl 0 rfl) ?_
  refine cz_getR X hM ff_X4_0 ka lk_X4_12 dX4_bestTrade_5 (fun hk2 => ?_)
  obtain ⟨M3, hq, h⟩ := cz_bd_t h
  refine cz_runV (rest := []) (As := [.ref (a + 1)]) (T := TX2) (N0 := 9) X hM hl.1 (c_X2_copyFrom (l := l) (g := g) (b := b) hk1 hk2 hq) mv_X2_copyFrom rfl (by decide) hk1 ml_X4_194 ⟨Nat.le_trans (Nat.le_of_ble_eq_true rfl) hRf, Nat.le_trans (Nat.le_of_ble_eq_true rfl) hRl⟩ rfl rfl (Nat.le_of_ble_eq_true rfl) dX4_bestTrade_8 (fun H locs hM => ?_)
  refine lv_aload_n hx hb dX4_bestTrade_11 rfl (lv_at hl 0 rfl) ?_
  refine cz_getR X hM ff_X4_1 ka lk_X4_16 dX4_bestTrade_12 (fun hk4 => ?_)
  refine lv_iconst (v := nI 4) hx hb dX4_bestTrade_15 (by decide) ?_
  obtain ⟨v6, M5, hq, h⟩ := cz_b2_t h
  refine cz_runV (rest := []) (As := [.int (nI 4)]) (T := TX2) (N0 := 9) X hM hl.1 (c_X2_passWeeks (l := l) (g := g) (b := b) hk4 hq) mv_X2_passWeeks rfl (by decide) hk4 ml_X4_109 ⟨Nat.le_trans (Nat.le_of_ble_eq_true rfl) hRf, Nat.le_trans (Nat.le_of_ble_eq_true rfl) hRl⟩ rfl rfl (Nat.le_of_ble_eq_true rfl) dX4_bestTrade_16 (fun H locs hM => ?_)
  refine lv_istore_n (lv' := [(1, .int v6), (0, .ref a)]) hx hb dX4_bestTrade_19 rfl hl (by decide) rfl (fun ls hl => ?_)
  refine lv_bipush (v := -6) hx hb dX4_bestTrade_20 (by decide) ?_
  refine lv_istore_n (lv' := [(2, .int (-6 : Int32)), (1, .int v6), (0, .ref a)]) hx hb dX4_bestTrade_22 rfl hl (by decide) rfl (fun ls hl => ?_)
  refine lv_iconst (v := nI 0) hx hb dX4_bestTrade_23 (by decide) ?_
  refine lv_istore_n (lv' := [(3, .int (nI 0)), (2, .int (-6 : Int32)), (1, .int v6), (0, .ref a)]) hx hb dX4_bestTrade_24 rfl hl (by decide) rfl (fun ls hl => ?_)
  refine w_X4_bestTrade_L25 X hRf hRl ka _ (fun y30 y31 y32 M33 H locs ls h hM hl => ?_) _ _ _ _ _ _ _ _ h hM (lv_sub hl [3, 2, 1, 0] rfl)
  refine lv_iload_n hx hb dX4_bestTrade_103 rfl (lv_at hl 2 rfl) ?_
  exact cz_reti X hM h rfl dX4_bestTrade_104
theorem mv_X4_turnsBackWith : cz_MV yX4_turnsBackWith cX4_turnsBackWith 4 (some .boolean) RX4 1 := ⟨mi_X4_turnsBackWith, ms_X4_turnsBackWith, mc_X4_turnsBackWith, ini_X4, by decide +kernel⟩
set_option maxHeartbeats 4000000 in
set_option maxRecDepth 100000 in
theorem w_X4_turnsBackWith_L31 {p : Program} {l : Launch} {e : Env} {R : Room} {s : State} {m : MethodId} {args : Array Value} {below : List Frame} {meth : Method} {c : Code} {g : cz_G} {b : Nat} (X : cz_X p s m args meth c cX4_turnsBackWith 4 RX4 g b (some .boolean)) (hRf : 5 ≤ R.frames) (hRl : 118 ≤ R.locals) {r0 : Int32} {M9 : cz_M} {a0 : Nat} {x2 : Int32} (ka0 : cz_K b a0 4)
    (K : Int32 → cz_M → Option (Int32 × cz_M)) (hX : ∀ (x3 : Int32)  (M : cz_M) (H : Heap) (locs : List Loc) (ls : Array Slot), K x3 M = some (r0, M9) → cz_WS g b M s H locs → lv_has ls 4 [(0, .ref a0), (2, .int x2), (3, .int x3)] → W p l e R s m args below meth c H locs 0 0 (MQ below (cz_Q g b (some (.int r0)) M9) args s 0 0 (cz_Ar b)) (F0 m 64 ls [])) :
    ∀ (n : Nat) (x3 : Int32)  (M : cz_M) (H : Heap) (locs : List Loc) (ls : Array Slot), cz_it2 (f_X4_turnsBackWith_L31 a0 x2 K) n x3 M = some (r0, M9) → cz_WS g b M s H locs → lv_has ls 4 [(0, .ref a0), (2, .int x2), (3, .int x3)] → W p l e R s m args below meth c H locs 0 0 (MQ below (cz_Q g b (some (.int r0)) M9) args s 0 0 (cz_Ar b)) (F0 m 31 ls []) := by
  obtain ⟨hx, hb, -, ho, ht, -⟩ := id X
  intro n
  induction n with
  | zero => intro x3 M H locs ls h; cases (show none = some _ from h)
  | succ n ih =>
    intro x3 M H locs ls h hM hl
    have h : f_X4_turnsBackWith_L31 a0 x2 K (cz_it2 (f_X4_turnsBackWith_L31 a0 x2 K) n) x3 M = some (r0, M9) := h
    rw [f_X4_turnsBackWith_L31] at h
    refine lv_iload_n hx hb dX4_turnsBackWith_31 rfl (lv_at hl 2 rfl) ?_
    refine lv_bipush (v := nI 100) hx hb dX4_turnsBackWith_32 (by decide) ?_
    refine lv_icmp_ge (tgt := 64) hx hb dX4_turnsBackWith_34 (by decide) (fun c9 => ?_) (fun c9 => ?_)
    · have h := cz_ite_t c9 h
      exact hX _ _ _ _ _ h hM (lv_sub hl [0, 1, 2] rfl)
    · have h := cz_ite_f c9 h
      refine lv_aload_n hx hb dX4_turnsBackWith_37 rfl (lv_at hl 0 rfl) ?_
      refine cz_getR X hM ff_X4_1 ka0 lk_X4_16 dX4_turnsBackWith_38 (fun hk10 => ?_)
      obtain ⟨v12, M11, hq, h⟩ := cz_b2_t h
      refine cz_runV (rest := []) (As := []) (T := TX2) (N0 := 9) X hM hl.1 (c_X2_passWeek (l := l) (g := g) (b := b) hk10 hq) mv_X2_passWeek rfl (by decide) hk10 ml_X4_198 ⟨Nat.le_trans (Nat.le_of_ble_eq_true rfl) hRf, Nat.le_trans (Nat.le_of_ble_eq_true rfl) hRl⟩ rfl rfl (Nat.le_of_ble_eq_true rfl) dX4_turnsBackWith_41 (fun H locs hM => ?_)
      refine lv_pop hx hb dX4_turnsBackWith_44 rfl ?_
      refine lv_aload_n hx hb dX4_turnsBackWith_45 rfl (lv_at hl 0 rfl) ?_
      refine cz_getR X hM ff_X4_1 ka0 lk_X4_16 dX4_turnsBackWith_46 (fun hk13 => ?_)
      obtain ⟨v14, hq, h⟩ := cz_bd_t h
      refine cz_runV (rest := []) (As := []) (T := TX2) (N0 := 9) X hM hl.1 (c_X2_lettersTurnedByAll (l := l) (g := g) (b := b) hk13 hq) mv_X2_lettersTurnedByAll rfl (by decide) hk13 ml_X4_204 ⟨Nat.le_trans (Nat.le_of_ble_eq_true rfl) hRf, Nat.le_trans (Nat.le_of_ble_eq_true rfl) hRl⟩ rfl rfl (Nat.le_of_ble_eq_true rfl) dX4_turnsBackWith_49 (fun H locs hM => ?_)
      refine lv_iload_n hx hb dX4_turnsBackWith_52 rfl (lv_at hl 1 rfl) ?_
      refine lv_icmp_le (tgt := 58) hx hb dX4_turnsBackWith_53 (by decide) (fun c15 => ?_) (fun c15 => ?_)
      · have h := cz_ite_t c15 h
        refine cz_nmL (v := x3 + nI 1) h (fun v16 e17 h => ?_)
        refine lv_iinc (v := v16) (lv' := [(3, .int v16), (0, .ref a0), (2, .int x2)]) hx hb dX4_turnsBackWith_58 hl (k := 2) rfl (by rw [e17]; rfl) (by decide) rfl (fun ls hl => ?_)
        refine lv_goto (tgt := 31) hx hb dX4_turnsBackWith_61 (by decide) ?_
        exact ih _ _ _ _ _ h hM (lv_sub hl [1, 2, 0] rfl)
      · have h := cz_ite_f c15 h
        refine lv_iconst (v := nI 1) hx hb dX4_turnsBackWith_56 (by decide) ?_
        exact cz_reti X hM h rfl dX4_turnsBackWith_57
set_option maxHeartbeats 4000000 in
set_option maxRecDepth 100000 in
theorem c_X4_turnsBackWith {l : Launch} {g : cz_G} {b : Nat} {M : cz_M} {r0 : Int32} {M9 : cz_M} {a : Nat} {x1 : Int32} (ka : cz_K b a 4) (h : f_X4_turnsBackWith M a x1 = some (r0, M9)) : cz_C l yX4_turnsBackWith cX4_turnsBackWith 4 (some .boolean) 5 118 g b [.ref a, .int x1] M (some (.int r0)) M9 := by
  refine cz_start (by decide) (Nat.le_of_ble_eq_true rfl) (fun p e s m args below meth c X H ls hM hl => ?_)
  have X : cz_X p s m args meth c cX4_turnsBackWith 4 RX4 g b (some .boolean) := X
  obtain ⟨hx, hb, -, ho, ht, -⟩ := id X
  have hRf : 5 ≤ ({ frames := 5, cells := 0, slots := 0, locals := 118 } : Room).frames := Nat.le_refl _
  have hRl : 118 ≤ ({ frames := 5, cells := 0, slots := 0, locals := 118 } : Room).locals := Nat.le_refl _
  have hl : lv_has ls 4 [(0, .ref a), (1, .int x1)] := hl
  rw [f_X4_turnsBackWith] at h
  refine lv_aload_n hx hb dX4_turnsBackWith_0 rfl (lv_at hl 0 rfl) ?_
  refine cz_getR X hM ff_X4_1 ka lk_X4_16 dX4_turnsBackWith_1 (fun hk1 => ?_)
  refine lv_aload_n hx hb dX4_turnsBackWith_4 rfl (lv_at hl 0 rfl) ?_
  refine cz_getR X hM ff_X4_0 ka lk_X4_12 dX4_turnsBackWith_5 (fun hk2 => ?_)
  obtain ⟨M3, hq, h⟩ := cz_bd_t h
  refine cz_runV (rest := []) (As := [.ref (a + 1)]) (T := TX2) (N0 := 9) X hM hl.1 (c_X2_copyFrom (l := l) (g := g) (b := b) hk1 hk2 hq) mv_X2_copyFrom rfl (by decide) hk1 ml_X4_194 ⟨Nat.le_trans (Nat.le_of_ble_eq_true rfl) hRf, Nat.le_trans (Nat.le_of_ble_eq_true rfl) hRl⟩ rfl rfl (Nat.le_of_ble_eq_true rfl) dX4_turnsBackWith_8 (fun H locs hM => ?_)
  refine lv_aload_n hx hb dX4_turnsBackWith_11 rfl (lv_at hl 0 rfl) ?_
  refine cz_getR X hM ff_X4_1 ka lk_X4_16 dX4_turnsBackWith_12 (fun hk4 => ?_)
  refine cz_getR X hM ff_X2_0 hk4 lk_X4_44 dX4_turnsBackWith_15 (fun hk5 => ?_)
  refine lv_iconst (v := nI 1) hx hb dX4_turnsBackWith_18 (by decide) ?_
  refine lv_iload_n hx hb dX4_turnsBackWith_19 rfl (lv_at hl 1 rfl) ?_
  refine cz_iast (n := 3) X hM h hk5 (by decide) dX4_turnsBackWith_20 (fun M6 H locs h hM => ?_)
  refine lv_aload_n hx hb dX4_turnsBackWith_21 rfl (lv_at hl 0 rfl) ?_
  refine cz_getR X hM ff_X4_1 ka lk_X4_16 dX4_turnsBackWith_22 (fun hk7 => ?_)
  obtain ⟨v8, hq, h⟩ := cz_bd_t h
  refine cz_runV (rest := []) (As := []) (T := TX2) (N0 := 9) X hM hl.1 (c_X2_lettersTurnedByAll (l := l) (g := g) (b := b) hk7 hq) mv_X2_lettersTurnedByAll rfl (by decide) hk7 ml_X4_204 ⟨Nat.le_trans (Nat.le_of_ble_eq_true rfl) hRf, Nat.le_trans (Nat.le_of_ble_eq_true rfl) hRl⟩ rfl rfl (Nat.le_of_ble_eq_true rfl) dX4_turnsBackWith_25 (fun H locs hM => ?_)
  refine lv_istore_n (lv' := [(2, .int v8), (0, .ref a), (1, .int x1)]) hx hb dX4_turnsBackWith_28 rfl hl (by decide) rfl (fun ls hl => ?_)
  refine lv_iconst (v := nI 0) hx hb dX4_turnsBackWith_29 (by decide) ?_
  refine lv_istore_n (lv' := [(3, .int (nI 0)), (2, .int v8), (0, .ref a), (1, .int x1)]) hx hb dX4_turnsBackWith_30 rfl hl (by decide) rfl (fun ls hl => ?_)
  refine w_X4_turnsBackWith_L31 X hRf hRl ka _ (fun y18 M19 H locs ls h hM hl => ?_) _ _ _ _ _ _ h hM (lv_sub hl [2, 1, 0] rfl)
  refine lv_iconst (v := nI 0) hx hb dX4_turnsBackWith_64 (by decide) ?_
  exact cz_reti X hM h rfl dX4_turnsBackWith_65
theorem mv_X4_leastLimit : cz_MV yX4_leastLimit cX4_leastLimit 2 (some .int) RX4 0 := ⟨mi_X4_leastLimit, ms_X4_leastLimit, mc_X4_leastLimit, ini_X4, by decide +kernel⟩
set_option maxHeartbeats 4000000 in
set_option maxRecDepth 100000 in
theorem w_X4_leastLimit_L2 {p : Program} {l : Launch} {e : Env} {R : Room} {s : State} {m : MethodId} {args : Array Value} {below : List Frame} {meth : Method} {c : Code} {g : cz_G} {b : Nat} (X : cz_X p s m args meth c cX4_leastLimit 2 RX4 g b (some .int)) (hRf : 6 ≤ R.frames) (hRl : 141 ≤ R.locals) {r0 : Int32} {M9 : cz_M} {a0 : Nat} (ka0 : cz_K b a0 4)
    (K : Int32 → cz_M → Option (Int32 × cz_M)) (hX : ∀ (x1 : Int32)  (M : cz_M) (H : Heap) (locs : List Loc) (ls : Array Slot), K x1 M = some (r0, M9) → cz_WS g b M s H locs → lv_has ls 2 [(0, .ref a0), (1, .int x1)] → W p l e R s m args below meth c H locs 0 0 (MQ below (cz_Q g b (some (.int r0)) M9) args s 0 0 (cz_Ar b)) (F0 m 22 ls [])) :
    ∀ (n : Nat) (x1 : Int32)  (M : cz_M) (H : Heap) (locs : List Loc) (ls : Array Slot), cz_it2 (f_X4_leastLimit_L2 a0 K) n x1 M = some (r0, M9) → cz_WS g b M s H locs → lv_has ls 2 [(0, .ref a0), (1, .int x1)] → W p l e R s m args below meth c H locs 0 0 (MQ below (cz_Q g b (some (.int r0)) M9) args s 0 0 (cz_Ar b)) (F0 m 2 ls []) := by
  obtain ⟨hx, hb, -, ho, ht, -⟩ := id X
  intro n
  induction n with
  | zero => intro x1 M H locs ls h; cases (show none = some _ from h)
  | succ n ih =>
    intro x1 M H locs ls h hM hl
    have h : f_X4_leastLimit_L2 a0 K (cz_it2 (f_X4_leastLimit_L2 a0 K) n) x1 M = some (r0, M9) := h
    rw [f_X4_leastLimit_L2] at h
    refine lv_iload_n hx hb dX4_leastLimit_2 rfl (lv_at hl 1 rfl) ?_
    refine lv_bipush (v := nI 8) hx hb dX4_leastLimit_3 (by decide) ?_
    refine lv_icmp_ge (tgt := 22) hx hb dX4_leastLimit_5 (by decide) (fun c1 => ?_) (fun c1 => ?_)
    · have h := cz_ite_t c1 h
      exact hX _ _ _ _ _ h hM (lv_sub hl [0, 1] rfl)
    · have h := cz_ite_f c1 h
      refine lv_aload_n hx hb dX4_leastLimit_8 rfl (lv_at hl 0 rfl) ?_
      refine lv_iload_n hx hb dX4_leastLimit_9 rfl (lv_at hl 1 rfl) ?_
      obtain ⟨v3, M2, hq, h⟩ := cz_b2_t h
      refine cz_runV (rest := []) (As := [.int x1]) (T := TX4) (N0 := 8) X hM hl.1 (c_X4_turnsBackWith (l := l) (g := g) (b := b) ka0 hq) mv_X4_turnsBackWith rfl (by decide) ka0 ml_X4_201 ⟨Nat.le_trans (Nat.le_of_ble_eq_true rfl) hRf, Nat.le_trans (Nat.le_of_ble_eq_true rfl) hRl⟩ rfl rfl (Nat.le_of_ble_eq_true rfl) dX4_leastLimit_10 (fun H locs hM => ?_)
      refine lv_if_eq (tgt := 22) hx hb dX4_leastLimit_13 (by decide) (fun c4 => ?_) (fun c4 => ?_)
      · have h := cz_ite_t c4 h
        exact hX _ _ _ _ _ h hM (lv_sub hl [0, 1] rfl)
      · have h := cz_ite_f c4 h
        refine cz_nmL (v := x1 + nI 1) h (fun v5 e6 h => ?_)
        refine lv_iinc (v := v5) (lv' := [(1, .int v5), (0, .ref a0)]) hx hb dX4_leastLimit_16 hl (k := 1) rfl (by rw [e6]; rfl) (by decide) rfl (fun ls hl => ?_)
        refine lv_goto (tgt := 2) hx hb dX4_leastLimit_19 (by decide) ?_
        exact ih _ _ _ _ _ h hM (lv_sub hl [1, 0] rfl)
set_option maxHeartbeats 4000000 in
set_option maxRecDepth 100000 in
theorem c_X4_leastLimit {l : Launch} {g : cz_G} {b : Nat} {M : cz_M} {r0 : Int32} {M9 : cz_M} {a : Nat} (ka : cz_K b a 4) (h : f_X4_leastLimit M a = some (r0, M9)) : cz_C l yX4_leastLimit cX4_leastLimit 2 (some .int) 6 141 g b [.ref a] M (some (.int r0)) M9 := by
  refine cz_start (by decide) (Nat.le_of_ble_eq_true rfl) (fun p e s m args below meth c X H ls hM hl => ?_)
  have X : cz_X p s m args meth c cX4_leastLimit 2 RX4 g b (some .int) := X
  obtain ⟨hx, hb, -, ho, ht, -⟩ := id X
  have hRf : 6 ≤ ({ frames := 6, cells := 0, slots := 0, locals := 141 } : Room).frames := Nat.le_refl _
  have hRl : 141 ≤ ({ frames := 6, cells := 0, slots := 0, locals := 141 } : Room).locals := Nat.le_refl _
  have hl : lv_has ls 2 [(0, .ref a)] := hl
  rw [f_X4_leastLimit] at h
  refine lv_iconst (v := nI 0) hx hb dX4_leastLimit_0 (by decide) ?_
  refine lv_istore_n (lv' := [(1, .int (nI 0)), (0, .ref a)]) hx hb dX4_leastLimit_1 rfl hl (by decide) rfl (fun ls hl => ?_)
  refine w_X4_leastLimit_L2 X hRf hRl ka _ (fun y7 M8 H locs ls h hM hl => ?_) _ _ _ _ _ _ h hM (lv_sub hl [1, 0] rfl)
  refine lv_iload_n hx hb dX4_leastLimit_22 rfl (lv_at hl 1 rfl) ?_
  exact cz_reti X hM h rfl dX4_leastLimit_23
theorem mv_X4_lengthOf : cz_MS yX4_lengthOf cX4_lengthOf 6 (some .int) 1 := ⟨mt_X4_lengthOf, mc_X4_lengthOf, ini_X4, by decide +kernel⟩
set_option maxHeartbeats 4000000 in
set_option maxRecDepth 100000 in
theorem w_X4_lengthOf_L4 {p : Program} {l : Launch} {e : Env} {R : Room} {s : State} {m : MethodId} {args : Array Value} {below : List Frame} {meth : Method} {c : Code} {g : cz_G} {b : Nat} (X : cz_X p s m args meth c cX4_lengthOf 6 RX4 g b (some .int)) (hRf : 0 ≤ R.frames) (hRl : 0 ≤ R.locals) {r0 : Int32}  {M : cz_M} 
    (K : Int32 → Int64 → Option (Int32)) (hX : ∀ (x2 : Int32) (x3 : Int64)  (H : Heap) (locs : List Loc) (ls : Array Slot), K x2 x3 = some r0 → cz_WS g b M s H locs → lv_has ls 6 [(2, .int x2), (3, .long x3)] → W p l e R s m args below meth c H locs 0 0 (MQ below (cz_Q g b (some (.int r0)) M) args s 0 0 (cz_Ar b)) (F0 m 51 ls [])) :
    ∀ (n : Nat) (x2 : Int32) (x3 : Int64)  (H : Heap) (locs : List Loc) (ls : Array Slot), cz_it2 (f_X4_lengthOf_L4  K) n x2 x3 = some r0 → cz_WS g b M s H locs → lv_has ls 6 [(2, .int x2), (3, .long x3)] → W p l e R s m args below meth c H locs 0 0 (MQ below (cz_Q g b (some (.int r0)) M) args s 0 0 (cz_Ar b)) (F0 m 4 ls []) := by
  obtain ⟨hx, hb, -, ho, ht, -⟩ := id X
  intro n
  induction n with
  | zero => intro x2 x3 H locs ls h; cases (show none = some _ from h)
  | succ n ih =>
    intro x2 x3 H locs ls h hM hl
    have h : f_X4_lengthOf_L4  K (cz_it2 (f_X4_lengthOf_L4  K) n) x2 x3 = some r0 := h
    rw [f_X4_lengthOf_L4] at h
    refine lv_iload_n hx hb dX4_lengthOf_4 rfl (lv_at hl 0 rfl) ?_
    refine lv_bipush (v := nI 8) hx hb dX4_lengthOf_5 (by decide) ?_
    refine lv_icmp_ge (tgt := 51) hx hb dX4_lengthOf_7 (by decide) (fun c1 => ?_) (fun c1 => ?_)
    · have h := cz_ite_t c1 h
      exact hX _ _ _ _ _ h hM (lv_sub hl [0, 1] rfl)
    · have h := cz_ite_f c1 h
      refine lv_lload_n hx hb dX4_lengthOf_10 rfl (lv_at hl 1 rfl) ?_
      refine lv_lconst (v := 0) hx hb dX4_lengthOf_11 (by decide) ?_
      refine W.lcmp hx hb dX4_lengthOf_12 ?_
      refine lv_if_eq (tgt := 51) hx hb dX4_lengthOf_13 (by decide) (fun c2 => ?_) (fun c2 => ?_)
      · have h := cz_ite_t c2 h
        exact hX _ _ _ _ _ h hM (lv_sub hl [0, 1] rfl)
      · have h := cz_ite_f c2 h
        refine lv_lload_n hx hb dX4_lengthOf_16 rfl (lv_at hl 1 rfl) ?_
        refine lv_ldc2 hx hb ho (ht _ lc_X4_211) dX4_lengthOf_17 ?_
        refine lv_land hx hb dX4_lengthOf_20 ?_
        refine lv_l2i (v := Int64.toInt32 (x3 &&& (255 : Int64))) hx hb dX4_lengthOf_21 rfl ?_
        refine cz_nmi h (fun v3 h => ?_)
        refine lv_istore (lv' := [(5, .int v3), (2, .int x2), (3, .long x3)]) hx hb dX4_lengthOf_22 hl (by decide) rfl (fun ls hl => ?_)
        refine lv_iload hx hb dX4_lengthOf_24 (lv_at hl 0 rfl) ?_
        refine lv_bipush (v := nI 33) hx hb dX4_lengthOf_26 (by decide) ?_
        refine lv_icmp_lt (tgt := 38) hx hb dX4_lengthOf_28 (by decide) (fun c4 => ?_) (fun c4 => ?_)
        · have h := cz_ite_t c4 h
          refine lv_iconst (v := nI 0) hx hb dX4_lengthOf_38 (by decide) ?_
          exact cz_retp X hM h rfl dX4_lengthOf_39
        · have h := cz_ite_f c4 h
          refine lv_iload hx hb dX4_lengthOf_31 (lv_at hl 0 rfl) ?_
          refine lv_bipush (v := nI 126) hx hb dX4_lengthOf_33 (by decide) ?_
          refine lv_icmp_le (tgt := 40) hx hb dX4_lengthOf_35 (by decide) (fun c5 => ?_) (fun c5 => ?_)
          · have h := cz_ite_t c5 h
            refine lv_lload_n hx hb dX4_lengthOf_40 rfl (lv_at hl 2 rfl) ?_
            refine lv_bipush (v := nI 8) hx hb dX4_lengthOf_41 (by decide) ?_
            refine lv_lushr (v := cz_usl x3 (nI 8)) hx hb dX4_lengthOf_43 rfl ?_
            refine cz_nml h (fun v6 h => ?_)
            refine lv_lstore_n (lv' := [(3, .long v6), (5, .int v3), (2, .int x2)]) hx hb dX4_lengthOf_44 rfl hl (by decide) rfl (fun ls hl => ?_)
            refine cz_nmL (v := x2 + nI 1) h (fun v7 e8 h => ?_)
            refine lv_iinc (v := v7) (lv' := [(2, .int v7), (3, .long v6), (5, .int v3)]) hx hb dX4_lengthOf_45 hl (k := 2) rfl (by rw [e8]; rfl) (by decide) rfl (fun ls hl => ?_)
            refine lv_goto (tgt := 4) hx hb dX4_lengthOf_48 (by decide) ?_
            exact ih _ _ _ _ _ h hM (lv_sub hl [0, 1] rfl)
          · have h := cz_ite_f c5 h
            refine lv_iconst (v := nI 0) hx hb dX4_lengthOf_38 (by decide) ?_
            exact cz_retp X hM h rfl dX4_lengthOf_39
set_option maxHeartbeats 4000000 in
set_option maxRecDepth 100000 in
theorem c_X4_lengthOf {l : Launch} {g : cz_G} {b : Nat} {M : cz_M} {r0 : Int32} {x0 : Int64}  (h : f_X4_lengthOf x0 = some r0) : cz_C l yX4_lengthOf cX4_lengthOf 6 (some .int) 0 0 g b [.long x0] M (some (.int r0)) M := by
  refine cz_start (by decide) (Nat.le_of_ble_eq_true rfl) (fun p e s m args below meth c X H ls hM hl => ?_)
  have X : cz_X p s m args meth c cX4_lengthOf 6 RX4 g b (some .int) := X
  obtain ⟨hx, hb, -, ho, ht, -⟩ := id X
  have hRf : 0 ≤ ({ frames := 0, cells := 0, slots := 0, locals := 0 } : Room).frames := Nat.le_refl _
  have hRl : 0 ≤ ({ frames := 0, cells := 0, slots := 0, locals := 0 } : Room).locals := Nat.le_refl _
  have hl : lv_has ls 6 [(0, .long x0)] := hl
  rw [f_X4_lengthOf] at h
  refine lv_iconst (v := nI 0) hx hb dX4_lengthOf_0 (by decide) ?_
  refine lv_istore_n (lv' := [(2, .int (nI 0)), (0, .long x0)]) hx hb dX4_lengthOf_1 rfl hl (by decide) rfl (fun ls hl => ?_)
  refine lv_lload_n hx hb dX4_lengthOf_2 rfl (lv_at hl 1 rfl) ?_
  refine lv_lstore_n (lv' := [(3, .long x0), (2, .int (nI 0)), (0, .long x0)]) hx hb dX4_lengthOf_3 rfl hl (by decide) rfl (fun ls hl => ?_)
  refine w_X4_lengthOf_L4 X hRf hRl  _ (fun y9 y10 H locs ls h hM hl => ?_) _ _ _ _ _ _ h hM (lv_sub hl [1, 0] rfl)
  refine lv_iload_n hx hb dX4_lengthOf_51 rfl (lv_at hl 0 rfl) ?_
  exact cz_retp X hM h rfl dX4_lengthOf_52
theorem mv_X4_put : cz_MV yX4_put cX4_put 5 (some .int) RX4 1 := ⟨mi_X4_put, ms_X4_put, mc_X4_put, ini_X4, by decide +kernel⟩
set_option maxHeartbeats 4000000 in
set_option maxRecDepth 100000 in
theorem w_X4_put_L31 {p : Program} {l : Launch} {e : Env} {R : Room} {s : State} {m : MethodId} {args : Array Value} {below : List Frame} {meth : Method} {c : Code} {g : cz_G} {b : Nat} (X : cz_X p s m args meth c cX4_put 5 RX4 g b (some .int)) (hRf : 1 ≤ R.frames) (hRl : 25 ≤ R.locals) {r0 : Int32} {M9 : cz_M} {a0 : Nat} {x1 : Int64} (ka0 : cz_K b a0 4)
    (K : Int32 → cz_M → Option (Int32 × cz_M)) (hX : ∀ (x4 : Int32)  (M : cz_M) (H : Heap) (locs : List Loc) (ls : Array Slot), K x4 M = some (r0, M9) → cz_WS g b M s H locs → lv_has ls 5 [(0, .ref a0), (1, .long x1), (4, .int x4)] → W p l e R s m args below meth c H locs 0 0 (MQ below (cz_Q g b (some (.int r0)) M9) args s 0 0 (cz_Ar b)) (F0 m 74 ls [])) :
    ∀ (n : Nat) (x4 : Int32)  (M : cz_M) (H : Heap) (locs : List Loc) (ls : Array Slot), cz_it2 (f_X4_put_L31 a0 x1 K) n x4 M = some (r0, M9) → cz_WS g b M s H locs → lv_has ls 5 [(0, .ref a0), (1, .long x1), (4, .int x4)] → W p l e R s m args below meth c H locs 0 0 (MQ below (cz_Q g b (some (.int r0)) M9) args s 0 0 (cz_Ar b)) (F0 m 31 ls []) := by
  obtain ⟨hx, hb, -, ho, ht, -⟩ := id X
  intro n
  induction n with
  | zero => intro x4 M H locs ls h; cases (show none = some _ from h)
  | succ n ih =>
    intro x4 M H locs ls h hM hl
    have h : f_X4_put_L31 a0 x1 K (cz_it2 (f_X4_put_L31 a0 x1 K) n) x4 M = some (r0, M9) := h
    rw [f_X4_put_L31] at h
    refine lv_iload hx hb dX4_put_31 (lv_at hl 2 rfl) ?_
    refine lv_if_lt (tgt := 74) hx hb dX4_put_33 (by decide) (fun c5 => ?_) (fun c5 => ?_)
    · have h := cz_ite_t c5 h
      exact hX _ _ _ _ _ h hM (lv_sub hl [0, 1, 2] rfl)
    · have h := cz_ite_f c5 h
      refine lv_aload_n hx hb dX4_put_36 rfl (lv_at hl 0 rfl) ?_
      refine cz_getR X hM ff_X4_5 ka0 lk_X4_30 dX4_put_37 (fun hk6 => ?_)
      refine lv_aload_n hx hb dX4_put_40 rfl (lv_at hl 0 rfl) ?_
      refine cz_getI X hM ff_X4_7 ka0 lk_X4_83 dX4_put_41 ?_
      refine lv_lload_n hx hb dX4_put_44 rfl (lv_at hl 1 rfl) ?_
      refine lv_bipush (v := nI 8) hx hb dX4_put_45 (by decide) ?_
      refine lv_iload hx hb dX4_put_47 (lv_at hl 2 rfl) ?_
      refine lv_imul hx hb dX4_put_49 ?_
      refine lv_lushr (v := cz_usl x1 ((nI 8) * x4)) hx hb dX4_put_50 rfl ?_
      refine lv_ldc2 hx hb ho (ht _ lc_X4_211) dX4_put_51 ?_
      refine lv_land hx hb dX4_put_54 ?_
      refine lv_l2i (v := Int64.toInt32 ((cz_usl x1 ((nI 8) * x4)) &&& (255 : Int64))) hx hb dX4_put_55 rfl ?_
      refine lv_i2c (v := cz_chr (Int64.toInt32 ((cz_usl x1 ((nI 8) * x4)) &&& (255 : Int64)))) hx hb dX4_put_56 rfl ?_
      refine cz_cast X hM h hk6 dX4_put_57 (fun M7 H locs h hM => ?_)
      refine lv_aload_n hx hb dX4_put_58 rfl (lv_at hl 0 rfl) ?_
      refine lv_dup hx hb dX4_put_59 rfl ?_
      refine cz_getI X hM ff_X4_7 ka0 lk_X4_83 dX4_put_60 ?_
      refine lv_iconst (v := nI 1) hx hb dX4_put_63 (by decide) ?_
      refine lv_iadd hx hb dX4_put_64 ?_
      refine cz_putI X hM h ff_X4_7 ka0 lk_X4_83 dX4_put_65 (fun M8 H locs h hM => ?_)
      refine cz_nmL (v := x4 + (-1)) h (fun v9 e10 h => ?_)
      refine lv_iinc (v := v9) (lv' := [(4, .int v9), (0, .ref a0), (1, .long x1)]) hx hb dX4_put_68 hl (k := 2) rfl (by rw [e10]; rfl) (by decide) rfl (fun ls hl => ?_)
      refine lv_goto (tgt := 31) hx hb dX4_put_71 (by decide) ?_
      exact ih _ _ _ _ _ h hM (lv_sub hl [1, 2, 0] rfl)
set_option maxHeartbeats 4000000 in
set_option maxRecDepth 100000 in
theorem c_X4_put {l : Launch} {g : cz_G} {b : Nat} {M : cz_M} {r0 : Int32} {M9 : cz_M} {a : Nat} {x1 : Int64} (ka : cz_K b a 4) (h : f_X4_put M a x1 = some (r0, M9)) : cz_C l yX4_put cX4_put 5 (some .int) 1 25 g b [.ref a, .long x1] M (some (.int r0)) M9 := by
  refine cz_start (by decide) (Nat.le_of_ble_eq_true rfl) (fun p e s m args below meth c X H ls hM hl => ?_)
  have X : cz_X p s m args meth c cX4_put 5 RX4 g b (some .int) := X
  obtain ⟨hx, hb, -, ho, ht, -⟩ := id X
  have hRf : 1 ≤ ({ frames := 1, cells := 0, slots := 0, locals := 25 } : Room).frames := Nat.le_refl _
  have hRl : 25 ≤ ({ frames := 1, cells := 0, slots := 0, locals := 25 } : Room).locals := Nat.le_refl _
  have hl : lv_has ls 5 [(0, .ref a), (1, .long x1)] := hl
  rw [f_X4_put] at h
  refine lv_lload_n hx hb dX4_put_0 rfl (lv_at hl 1 rfl) ?_
  obtain ⟨v1, hq, h⟩ := cz_bd_t h
  refine cz_runS (rest := []) (As := [.long x1]) X hM hl.1 (c_X4_lengthOf (l := l) (g := g) (b := b)  hq) mv_X4_lengthOf ml_X4_207 ⟨Nat.le_trans (Nat.le_of_ble_eq_true rfl) hRf, Nat.le_trans (Nat.le_of_ble_eq_true rfl) hRl⟩ rfl rfl (Nat.le_of_ble_eq_true rfl) dX4_put_1 (fun H locs hM => ?_)
  refine lv_istore_n (lv' := [(3, .int v1), (0, .ref a), (1, .long x1)]) hx hb dX4_put_4 rfl hl (by decide) rfl (fun ls hl => ?_)
  refine lv_iload_n hx hb dX4_put_5 rfl (lv_at hl 0 rfl) ?_
  refine lv_if_ne (tgt := 12) hx hb dX4_put_6 (by decide) (fun c2 => ?_) (fun c2 => ?_)
  · have h := cz_ite_f c2 h
    refine lv_aload_n hx hb dX4_put_12 rfl (lv_at hl 1 rfl) ?_
    refine cz_getI X hM ff_X4_7 ka lk_X4_83 dX4_put_13 ?_
    refine lv_iload_n hx hb dX4_put_16 rfl (lv_at hl 0 rfl) ?_
    refine lv_iadd hx hb dX4_put_17 ?_
    refine lv_bipush (v := nI 60) hx hb dX4_put_18 (by decide) ?_
    refine lv_icmp_le (tgt := 26) hx hb dX4_put_20 (by decide) (fun c3 => ?_) (fun c3 => ?_)
    · have h := cz_ite_t c3 h
      refine lv_iload_n hx hb dX4_put_26 rfl (lv_at hl 0 rfl) ?_
      refine lv_iconst (v := nI 1) hx hb dX4_put_27 (by decide) ?_
      refine lv_isub hx hb dX4_put_28 ?_
      refine cz_nmi h (fun v4 h => ?_)
      refine lv_istore (lv' := [(4, .int v4), (3, .int v1), (0, .ref a), (1, .long x1)]) hx hb dX4_put_29 hl (by decide) rfl (fun ls hl => ?_)
      refine w_X4_put_L31 X hRf hRl ka _ (fun y11 M12 H locs ls h hM hl => ?_) _ _ _ _ _ _ h hM (lv_sub hl [2, 3, 0] rfl)
      refine lv_aload_n hx hb dX4_put_74 rfl (lv_at hl 0 rfl) ?_
      refine cz_getI X hM ff_X4_7 ka lk_X4_83 dX4_put_75 ?_
      exact cz_reti X hM h rfl dX4_put_78
    · have h := cz_ite_f c3 h
      refine lv_bipush (v := -4) hx hb dX4_put_23 (by decide) ?_
      exact cz_reti X hM h rfl dX4_put_25
  · have h := cz_ite_t c2 h
    refine lv_bipush (v := -2) hx hb dX4_put_9 (by decide) ?_
    exact cz_reti X hM h rfl dX4_put_11
theorem mv_X4_wipe : cz_MV yX4_wipe cX4_wipe 2 (some .int) RX4 0 := ⟨mi_X4_wipe, ms_X4_wipe, mc_X4_wipe, ini_X4, by decide +kernel⟩
set_option maxHeartbeats 4000000 in
set_option maxRecDepth 100000 in
theorem c_X4_wipe {l : Launch} {g : cz_G} {b : Nat} {M : cz_M} {r0 : Int32} {M9 : cz_M} {a : Nat} (ka : cz_K b a 4) (h : f_X4_wipe M a = some (r0, M9)) : cz_C l yX4_wipe cX4_wipe 2 (some .int) 0 0 g b [.ref a] M (some (.int r0)) M9 := by
  refine cz_start (by decide) (Nat.le_of_ble_eq_true rfl) (fun p e s m args below meth c X H ls hM hl => ?_)
  have X : cz_X p s m args meth c cX4_wipe 2 RX4 g b (some .int) := X
  obtain ⟨hx, hb, -, ho, ht, -⟩ := id X
  have hRf : 0 ≤ ({ frames := 0, cells := 0, slots := 0, locals := 0 } : Room).frames := Nat.le_refl _
  have hRl : 0 ≤ ({ frames := 0, cells := 0, slots := 0, locals := 0 } : Room).locals := Nat.le_refl _
  have hl : lv_has ls 2 [(0, .ref a)] := hl
  rw [f_X4_wipe] at h
  refine lv_aload_n hx hb dX4_wipe_0 rfl (lv_at hl 0 rfl) ?_
  refine cz_getI X hM ff_X4_7 ka lk_X4_83 dX4_wipe_1 ?_
  refine cz_nmi h (fun v1 h => ?_)
  refine lv_istore_n (lv' := [(1, .int v1), (0, .ref a)]) hx hb dX4_wipe_4 rfl hl (by decide) rfl (fun ls hl => ?_)
  refine lv_aload_n hx hb dX4_wipe_5 rfl (lv_at hl 1 rfl) ?_
  refine lv_iconst (v := nI 0) hx hb dX4_wipe_6 (by decide) ?_
  refine cz_putI X hM h ff_X4_7 ka lk_X4_83 dX4_wipe_7 (fun M2 H locs h hM => ?_)
  refine lv_iload_n hx hb dX4_wipe_10 rfl (lv_at hl 0 rfl) ?_
  exact cz_reti X hM h rfl dX4_wipe_11
theorem mv_X4_undo : cz_MV yX4_undo cX4_undo 1 (some .int) RX4 0 := ⟨mi_X4_undo, ms_X4_undo, mc_X4_undo, ini_X4, by decide +kernel⟩
set_option maxHeartbeats 4000000 in
set_option maxRecDepth 100000 in
theorem c_X4_undo {l : Launch} {g : cz_G} {b : Nat} {M : cz_M} {r0 : Int32} {M9 : cz_M} {a : Nat} (ka : cz_K b a 4) (h : f_X4_undo M a = some (r0, M9)) : cz_C l yX4_undo cX4_undo 1 (some .int) 3 91 g b [.ref a] M (some (.int r0)) M9 := by
  refine cz_start (by decide) (Nat.le_of_ble_eq_true rfl) (fun p e s m args below meth c X H ls hM hl => ?_)
  have X : cz_X p s m args meth c cX4_undo 1 RX4 g b (some .int) := X
  obtain ⟨hx, hb, -, ho, ht, -⟩ := id X
  have hRf : 3 ≤ ({ frames := 3, cells := 0, slots := 0, locals := 91 } : Room).frames := Nat.le_refl _
  have hRl : 91 ≤ ({ frames := 3, cells := 0, slots := 0, locals := 91 } : Room).locals := Nat.le_refl _
  have hl : lv_has ls 1 [(0, .ref a)] := hl
  rw [f_X4_undo] at h
  refine lv_aload_n hx hb dX4_undo_0 rfl (lv_at hl 0 rfl) ?_
  refine cz_getI X hM ff_X4_6 ka lk_X4_191 dX4_undo_1 ?_
  refine lv_if_ne (tgt := 10) hx hb dX4_undo_4 (by decide) (fun c1 => ?_) (fun c1 => ?_)
  · have h := cz_ite_f c1 h
    refine lv_aload_n hx hb dX4_undo_10 rfl (lv_at hl 0 rfl) ?_
    refine lv_dup hx hb dX4_undo_11 rfl ?_
    refine cz_getI X hM ff_X4_6 ka lk_X4_191 dX4_undo_12 ?_
    refine lv_iconst (v := nI 1) hx hb dX4_undo_15 (by decide) ?_
    refine lv_isub hx hb dX4_undo_16 ?_
    refine cz_putI X hM h ff_X4_6 ka lk_X4_191 dX4_undo_17 (fun M2 H locs h hM => ?_)
    refine lv_aload_n hx hb dX4_undo_20 rfl (lv_at hl 0 rfl) ?_
    refine cz_getR X hM ff_X4_0 ka lk_X4_12 dX4_undo_21 (fun hk3 => ?_)
    refine lv_aload_n hx hb dX4_undo_24 rfl (lv_at hl 0 rfl) ?_
    refine cz_getR X hM ff_X4_2 ka lk_X4_19 dX4_undo_25 (fun hk4 => ?_)
    refine lv_aload_n hx hb dX4_undo_28 rfl (lv_at hl 0 rfl) ?_
    refine cz_getI X hM ff_X4_6 ka lk_X4_191 dX4_undo_29 ?_
    refine cz_aald3 X hM h hk4 dX4_undo_32 (fun h hk5 => ?_)
    obtain ⟨M6, hq, h⟩ := cz_bd_t h
    refine cz_runV (rest := []) (As := [.ref (M2.2.2 (Int32.toNatClampNeg (M2.1 a 6)))]) (T := TX2) (N0 := 9) X hM hl.1 (c_X2_copyFrom (l := l) (g := g) (b := b) hk3 hk5 hq) mv_X2_copyFrom rfl (by decide) hk3 ml_X4_194 ⟨Nat.le_trans (Nat.le_of_ble_eq_true rfl) hRf, Nat.le_trans (Nat.le_of_ble_eq_true rfl) hRl⟩ rfl rfl (Nat.le_of_ble_eq_true rfl) dX4_undo_33 (fun H locs hM => ?_)
    refine lv_aload_n hx hb dX4_undo_36 rfl (lv_at hl 0 rfl) ?_
    refine cz_getI X hM ff_X4_6 ka lk_X4_191 dX4_undo_37 ?_
    exact cz_reti X hM h rfl dX4_undo_40
  · have h := cz_ite_t c1 h
    refine lv_bipush (v := -5) hx hb dX4_undo_7 (by decide) ?_
    exact cz_reti X hM h rfl dX4_undo_9
