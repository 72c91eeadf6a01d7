theorem mv_X5_in : cz_MS yX5_in cX5_in 3 (some .boolean) 3 := ⟨mt_X5_in, mc_X5_in, ini_X5, by decide +kernel⟩
set_option maxHeartbeats 4000000 in
set_option maxRecDepth 100000 in
theorem c_X5_in {l : Launch} {g : cz_G} {b : Nat} {M : cz_M} {r0 : Int32} {x0 : Int32} {x1 : Int32} {x2 : Int32}  (h : f_X5_in x0 x1 x2 = some r0) : cz_C l yX5_in cX5_in 3 (some .boolean) 0 0 g b [.int x0, .int x1, .int x2] M (some (.int r0)) M := by
  refine cz_start (by decide) (Nat.le_of_ble_eq_true rfl) (fun p e s m args below meth c X H ls hM hl => ?_)
  have X : cz_X p s m args meth c cX5_in 3 RX5 g b (some .boolean) := X
  obtain ⟨hx, hb, -, ho, ht, -⟩ := id X
  have hRf : 0 ≤ ({ frames := 0, cells := 0, slots := 0, locals := 0 } : Room).frames := Nat.le_refl _
  have hRl : 0 ≤ ({ frames := 0, cells := 0, slots := 0, locals := 0 } : Room).locals := Nat.le_refl _
  have hl : lv_has ls 3 [(0, .int x0), (1, .int x1), (2, .int x2)] := hl
  rw [f_X5_in] at h
  refine lv_iload_n hx hb dX5_in_0 rfl (lv_at hl 0 rfl) ?_
  refine lv_iload_n hx hb dX5_in_1 rfl (lv_at hl 1 rfl) ?_
  refine lv_icmp_lt (tgt := 14) hx hb dX5_in_2 (by decide) (fun c1 => ?_) (fun c1 => ?_)
  · have h := cz_ite_t c1 h
    refine lv_iconst (v := nI 0) hx hb dX5_in_14 (by decide) ?_
    exact cz_retp X hM h rfl dX5_in_15
  · have h := cz_ite_f c1 h
    refine lv_iload_n hx hb dX5_in_5 rfl (lv_at hl 0 rfl) ?_
    refine lv_iload_n hx hb dX5_in_6 rfl (lv_at hl 2 rfl) ?_
    refine lv_icmp_gt (tgt := 14) hx hb dX5_in_7 (by decide) (fun c2 => ?_) (fun c2 => ?_)
    · have h := cz_ite_t c2 h
      refine lv_iconst (v := nI 0) hx hb dX5_in_14 (by decide) ?_
      exact cz_retp X hM h rfl dX5_in_15
    · have h := cz_ite_f c2 h
      refine lv_iconst (v := nI 1) hx hb dX5_in_10 (by decide) ?_
      refine lv_goto (tgt := 15) hx hb dX5_in_11 (by decide) ?_
      exact cz_retp X hM h rfl dX5_in_15
theorem mv_X5_isLetter : cz_MV yX5_isLetter cX5_isLetter 2 (some .boolean) RX5 1 := ⟨mi_X5_isLetter, ms_X5_isLetter, mc_X5_isLetter, ini_X5, by decide +kernel⟩
set_option maxHeartbeats 4000000 in
set_option maxRecDepth 100000 in
theorem c_X5_isLetter {l : Launch} {g : cz_G} {b : Nat} {M : cz_M} {r0 : Int32} {a : Nat} {x1 : Int32} (ka : cz_K b a 5) (h : f_X5_isLetter M a x1 = some r0) : cz_C l yX5_isLetter cX5_isLetter 2 (some .boolean) 1 22 g b [.ref a, .int x1] M (some (.int r0)) M := by
  refine cz_start (by decide) (Nat.le_of_ble_eq_true rfl) (fun p e s m args below meth c X H ls hM hl => ?_)
  have X : cz_X p s m args meth c cX5_isLetter 2 RX5 g b (some .boolean) := X
  obtain ⟨hx, hb, -, ho, ht, -⟩ := id X
  have hRf : 1 ≤ ({ frames := 1, cells := 0, slots := 0, locals := 22 } : Room).frames := Nat.le_refl _
  have hRl : 22 ≤ ({ frames := 1, cells := 0, slots := 0, locals := 22 } : Room).locals := Nat.le_refl _
  have hl : lv_has ls 2 [(0, .ref a), (1, .int x1)] := hl
  rw [f_X5_isLetter] at h
  refine lv_iload_n hx hb dX5_isLetter_0 rfl (lv_at hl 1 rfl) ?_
  refine lv_iconst (v := nI 0) hx hb dX5_isLetter_1 (by decide) ?_
  refine lv_aload_n hx hb dX5_isLetter_2 rfl (lv_at hl 0 rfl) ?_
  refine cz_getR X hM ff_X5_0 ka lk_X5_7 dX5_isLetter_3 (fun hk1 => ?_)
  refine lv_iconst (v := nI 4) hx hb dX5_isLetter_6 (by decide) ?_
  refine cz_iald (n := 551) X hM h hk1 (by decide) dX5_isLetter_7 (fun h => ?_)
  refine lv_iconst (v := nI 1) hx hb dX5_isLetter_8 (by decide) ?_
  refine lv_isub hx hb dX5_isLetter_9 ?_
  obtain ⟨v2, hq, h⟩ := cz_bd_t h
  refine cz_runS (rest := []) (As := [.int x1, .int (nI 0), .int ((M.1 (a + 1) (Int32.toNatClampNeg (nI 4))) - (nI 1))]) X hM hl.1 (c_X5_in (l := l) (g := g) (b := b)  hq) mv_X5_in ml_X5_38 ⟨Nat.le_trans (Nat.le_of_ble_eq_true rfl) hRf, Nat.le_trans (Nat.le_of_ble_eq_true rfl) hRl⟩ rfl rfl (Nat.le_of_ble_eq_true rfl) dX5_isLetter_10 (fun H locs hM => ?_)
  exact cz_retz X hM h dX5_isLetter_13
theorem mv_X5_at : cz_MS yX5_at cX5_at 2 (some .int) 2 := ⟨mt_X5_at, mc_X5_at, ini_X5, by decide +kernel⟩
set_option maxHeartbeats 4000000 in
set_option maxRecDepth 100000 in
theorem c_X5_at {l : Launch} {g : cz_G} {b : Nat} {M : cz_M} {r0 : Int32} {x0 : Int32} {x1 : Int32}  (h : f_X5_at x0 x1 = some r0) : cz_C l yX5_at cX5_at 2 (some .int) 0 0 g b [.int x0, .int x1] M (some (.int r0)) M := by
  refine cz_start (by decide) (Nat.le_of_ble_eq_true rfl) (fun p e s m args below meth c X H ls hM hl => ?_)
  have X : cz_X p s m args meth c cX5_at 2 RX5 g b (some .int) := X
  obtain ⟨hx, hb, -, ho, ht, -⟩ := id X
  have hRf : 0 ≤ ({ frames := 0, cells := 0, slots := 0, locals := 0 } : Room).frames := Nat.le_refl _
  have hRl : 0 ≤ ({ frames := 0, cells := 0, slots := 0, locals := 0 } : Room).locals := Nat.le_refl _
  have hl : lv_has ls 2 [(0, .int x0), (1, .int x1)] := hl
  rw [f_X5_at] at h
  refine lv_bipush (v := nI 111) hx hb dX5_at_0 (by decide) ?_
  refine lv_bipush (v := nI 11) hx hb dX5_at_2 (by decide) ?_
  refine lv_iload_n hx hb dX5_at_4 rfl (lv_at hl 0 rfl) ?_
  refine lv_imul hx hb dX5_at_5 ?_
  refine lv_iadd hx hb dX5_at_6 ?_
  refine lv_iload_n hx hb dX5_at_7 rfl (lv_at hl 1 rfl) ?_
  refine lv_iadd hx hb dX5_at_8 ?_
  exact cz_retp X hM h rfl dX5_at_9
theorem mv_X5_of : cz_MV yX5_of cX5_of 3 (some .int) RX5 2 := ⟨mi_X5_of, ms_X5_of, mc_X5_of, ini_X5, by decide +kernel⟩
set_option maxHeartbeats 4000000 in
set_option maxRecDepth 100000 in
theorem c_X5_of {l : Launch} {g : cz_G} {b : Nat} {M : cz_M} {r0 : Int32} {a : Nat} {x1 : Int32} {x2 : Int32} (ka : cz_K b a 5) (h : f_X5_of M a x1 x2 = some r0) : cz_C l yX5_of cX5_of 3 (some .int) 1 21 g b [.ref a, .int x1, .int x2] M (some (.int r0)) M := by
  refine cz_start (by decide) (Nat.le_of_ble_eq_true rfl) (fun p e s m args below meth c X H ls hM hl => ?_)
  have X : cz_X p s m args meth c cX5_of 3 RX5 g b (some .int) := X
  obtain ⟨hx, hb, -, ho, ht, -⟩ := id X
  have hRf : 1 ≤ ({ frames := 1, cells := 0, slots := 0, locals := 21 } : Room).frames := Nat.le_refl _
  have hRl : 21 ≤ ({ frames := 1, cells := 0, slots := 0, locals := 21 } : Room).locals := Nat.le_refl _
  have hl : lv_has ls 3 [(0, .ref a), (1, .int x1), (2, .int x2)] := hl
  rw [f_X5_of] at h
  refine lv_aload_n hx hb dX5_of_0 rfl (lv_at hl 0 rfl) ?_
  refine cz_getR X hM ff_X5_0 ka lk_X5_7 dX5_of_1 (fun hk1 => ?_)
  refine lv_iload_n hx hb dX5_of_4 rfl (lv_at hl 1 rfl) ?_
  refine lv_iload_n hx hb dX5_of_5 rfl (lv_at hl 2 rfl) ?_
  obtain ⟨v2, hq, h⟩ := cz_bd_t h
  refine cz_runS (rest := [.ref (a + 1)]) (As := [.int x1, .int x2]) X hM hl.1 (c_X5_at (l := l) (g := g) (b := b)  hq) mv_X5_at ml_X5_42 ⟨Nat.le_trans (Nat.le_of_ble_eq_true rfl) hRf, Nat.le_trans (Nat.le_of_ble_eq_true rfl) hRl⟩ rfl rfl (Nat.le_of_ble_eq_true rfl) dX5_of_6 (fun H locs hM => ?_)
  refine cz_iald (n := 551) X hM h hk1 (by decide) dX5_of_9 (fun h => ?_)
  exact cz_retp X hM h rfl dX5_of_10
theorem mv_X5_inRow : cz_MS yX5_inRow cX5_inRow 2 (some .int) 2 := ⟨mt_X5_inRow, mc_X5_inRow, ini_X5, by decide +kernel⟩
set_option maxHeartbeats 4000000 in
set_option maxRecDepth 100000 in
theorem c_X5_inRow {l : Launch} {g : cz_G} {b : Nat} {M : cz_M} {r0 : Int32} {x0 : Int32} {x1 : Int32}  (h : f_X5_inRow x0 x1 = some r0) : cz_C l yX5_inRow cX5_inRow 2 (some .int) 0 0 g b [.int x0, .int x1] M (some (.int r0)) M := by
  refine cz_start (by decide) (Nat.le_of_ble_eq_true rfl) (fun p e s m args below meth c X H ls hM hl => ?_)
  have X : cz_X p s m args meth c cX5_inRow 2 RX5 g b (some .int) := X
  obtain ⟨hx, hb, -, ho, ht, -⟩ := id X
  have hRf : 0 ≤ ({ frames := 0, cells := 0, slots := 0, locals := 0 } : Room).frames := Nat.le_refl _
  have hRl : 0 ≤ ({ frames := 0, cells := 0, slots := 0, locals := 0 } : Room).locals := Nat.le_refl _
  have hl : lv_has ls 2 [(0, .int x0), (1, .int x1)] := hl
  rw [f_X5_inRow] at h
  refine lv_bipush (v := nI 31) hx hb dX5_inRow_0 (by decide) ?_
  refine lv_bipush (v := nI 40) hx hb dX5_inRow_2 (by decide) ?_
  refine lv_iload_n hx hb dX5_inRow_4 rfl (lv_at hl 0 rfl) ?_
  refine lv_imul hx hb dX5_inRow_5 ?_
  refine lv_iadd hx hb dX5_inRow_6 ?_
  refine lv_iload_n hx hb dX5_inRow_7 rfl (lv_at hl 1 rfl) ?_
  refine lv_iadd hx hb dX5_inRow_8 ?_
  exact cz_retp X hM h rfl dX5_inRow_9
theorem mv_X5_ofCensor : cz_MS yX5_ofCensor cX5_ofCensor 2 (some .int) 2 := ⟨mt_X5_ofCensor, mc_X5_ofCensor, ini_X5, by decide +kernel⟩
set_option maxHeartbeats 4000000 in
set_option maxRecDepth 100000 in
theorem c_X5_ofCensor {l : Launch} {g : cz_G} {b : Nat} {M : cz_M} {r0 : Int32} {x0 : Int32} {x1 : Int32}  (h : f_X5_ofCensor x0 x1 = some r0) : cz_C l yX5_ofCensor cX5_ofCensor 2 (some .int) 0 0 g b [.int x0, .int x1] M (some (.int r0)) M := by
  refine cz_start (by decide) (Nat.le_of_ble_eq_true rfl) (fun p e s m args below meth c X H ls hM hl => ?_)
  have X : cz_X p s m args meth c cX5_ofCensor 2 RX5 g b (some .int) := X
  obtain ⟨hx, hb, -, ho, ht, -⟩ := id X
  have hRf : 0 ≤ ({ frames := 0, cells := 0, slots := 0, locals := 0 } : Room).frames := Nat.le_refl _
  have hRl : 0 ≤ ({ frames := 0, cells := 0, slots := 0, locals := 0 } : Room).locals := Nat.le_refl _
  have hl : lv_has ls 2 [(0, .int x0), (1, .int x1)] := hl
  rw [f_X5_ofCensor] at h
  refine lv_bipush (v := nI 13) hx hb dX5_ofCensor_0 (by decide) ?_
  refine lv_iconst (v := nI 4) hx hb dX5_ofCensor_2 (by decide) ?_
  refine lv_iload_n hx hb dX5_ofCensor_3 rfl (lv_at hl 0 rfl) ?_
  refine lv_imul hx hb dX5_ofCensor_4 ?_
  refine lv_iadd hx hb dX5_ofCensor_5 ?_
  refine lv_iload_n hx hb dX5_ofCensor_6 rfl (lv_at hl 1 rfl) ?_
  refine lv_iadd hx hb dX5_ofCensor_7 ?_
  exact cz_retp X hM h rfl dX5_ofCensor_8
theorem mv_X5_record : cz_MV yX5_record cX5_record 2 none RX5 0 := ⟨mi_X5_record, ms_X5_record, mc_X5_record, ini_X5, by decide +kernel⟩
set_option maxHeartbeats 4000000 in
set_option maxRecDepth 100000 in
theorem w_X5_record_L51 {p : Program} {l : Launch} {e : Env} {R : Room} {s : State} {m : MethodId} {args : Array Value} {below : List Frame} {meth : Method} {c : Code} {g : cz_G} {b : Nat} (X : cz_X p s m args meth c cX5_record 2 RX5 g b none) (hRf : 0 ≤ R.frames) (hRl : 0 ≤ R.locals) {M9 : cz_M} {a0 : Nat} (ka0 : cz_K b a0 5)
    (K : Int32 → cz_M → Option (cz_M)) (hX : ∀ (x1 : Int32) (M : cz_M) (H : Heap) (locs : List Loc) (ls : Array Slot), K x1 M = some M9 → cz_WS g b M s H locs → lv_has ls 2 [(0, .ref a0), (1, .int x1)] → W p l e R s m args below meth c H locs 0 0 (MQ below (cz_Q g b none M9) args s 0 0 (fun q => b ≤ q)) (F0 m 85 ls [])) :
    ∀ (n : Nat) (x1 : Int32) (M : cz_M) (H : Heap) (locs : List Loc) (ls : Array Slot), cz_it2 (f_X5_record_L51 a0 K) n x1 M = some M9 → cz_WS g b M s H locs → lv_has ls 2 [(0, .ref a0), (1, .int x1)] → W p l e R s m args below meth c H locs 0 0 (MQ below (cz_Q g b none M9) args s 0 0 (fun q => b ≤ q)) (F0 m 51 ls []) := by
  obtain ⟨hx, hb, -, ho, ht, -⟩ := id X
  intro n
  induction n with
  | zero => intro x1 M H locs ls h; cases (show none = some _ from h)
  | succ n ih =>
    intro x1 M H locs ls h hM hl
    have h : f_X5_record_L51 a0 K (cz_it2 (f_X5_record_L51 a0 K) n) x1 M = some M9 := h
    rw [f_X5_record_L51] at h
    refine lv_iload_n hx hb dX5_record_51 rfl (lv_at hl 1 rfl) ?_
    refine lv_sipush (v := nI 551) hx hb dX5_record_52 (by decide) ?_
    refine lv_icmp_ge (tgt := 85) hx hb dX5_record_55 (by decide) (fun c2 => ?_) (fun c2 => ?_)
    · have h := cz_ite_t c2 h
      exact hX _ _ _ _ _ h hM (lv_sub hl [0, 1] rfl)
    · have h := cz_ite_f c2 h
      refine lv_aload_n hx hb dX5_record_58 rfl (lv_at hl 0 rfl) ?_
      refine cz_getR X hM ff_X5_2 ka0 lk_X5_16 dX5_record_59 (fun hk3 => ?_)
      refine lv_sipush (v := nI 551) hx hb dX5_record_62 (by decide) ?_
      refine lv_aload_n hx hb dX5_record_65 rfl (lv_at hl 0 rfl) ?_
      refine cz_getI X hM ff_X5_3 ka0 lk_X5_46 dX5_record_66 ?_
      refine lv_imul hx hb dX5_record_69 ?_
      refine lv_iload_n hx hb dX5_record_70 rfl (lv_at hl 1 rfl) ?_
      refine lv_iadd hx hb dX5_record_71 ?_
      refine lv_aload_n hx hb dX5_record_72 rfl (lv_at hl 0 rfl) ?_
      refine cz_getR X hM ff_X5_0 ka0 lk_X5_7 dX5_record_73 (fun hk4 => ?_)
      refine lv_iload_n hx hb dX5_record_76 rfl (lv_at hl 1 rfl) ?_
      refine cz_iald (n := 551) X hM h hk4 (by decide) dX5_record_77 (fun h => ?_)
      refine cz_iast (n := 2204) X hM h hk3 (by decide) dX5_record_78 (fun M5 H locs h hM => ?_)
      refine cz_nmL (v := x1 + nI 1) h (fun v6 e7 h => ?_)
      refine lv_iinc (v := v6) (lv' := [(1, .int v6), (0, .ref a0)]) hx hb dX5_record_79 hl (k := 1) rfl (by rw [e7]; rfl) (by decide) rfl (fun ls hl => ?_)
      refine lv_goto (tgt := 51) hx hb dX5_record_82 (by decide) ?_
      exact ih _ _ _ _ _ h hM (lv_sub hl [1, 0] rfl)
set_option maxHeartbeats 4000000 in
set_option maxRecDepth 100000 in
theorem w_X5_record_L10 {p : Program} {l : Launch} {e : Env} {R : Room} {s : State} {m : MethodId} {args : Array Value} {below : List Frame} {meth : Method} {c : Code} {g : cz_G} {b : Nat} (X : cz_X p s m args meth c cX5_record 2 RX5 g b none) (hRf : 0 ≤ R.frames) (hRl : 0 ≤ R.locals) {M9 : cz_M} {a0 : Nat} (ka0 : cz_K b a0 5)
    (K : Int32 → cz_M → Option (cz_M)) (hX : ∀ (x1 : Int32) (M : cz_M) (H : Heap) (locs : List Loc) (ls : Array Slot), K x1 M = some M9 → cz_WS g b M s H locs → lv_has ls 2 [(0, .ref a0), (1, .int x1)] → W p l e R s m args below meth c H locs 0 0 (MQ below (cz_Q g b none M9) args s 0 0 (fun q => b ≤ q)) (F0 m 39 ls [])) :
    ∀ (n : Nat) (x1 : Int32) (M : cz_M) (H : Heap) (locs : List Loc) (ls : Array Slot), cz_it2 (f_X5_record_L10 a0 K) n x1 M = some M9 → cz_WS g b M s H locs → lv_has ls 2 [(0, .ref a0), (1, .int x1)] → W p l e R s m args below meth c H locs 0 0 (MQ below (cz_Q g b none M9) args s 0 0 (fun q => b ≤ q)) (F0 m 10 ls []) := by
  obtain ⟨hx, hb, -, ho, ht, -⟩ := id X
  intro n
  induction n with
  | zero => intro x1 M H locs ls h; cases (show none = some _ from h)
  | succ n ih =>
    intro x1 M H locs ls h hM hl
    have h : f_X5_record_L10 a0 K (cz_it2 (f_X5_record_L10 a0 K) n) x1 M = some M9 := h
    rw [f_X5_record_L10] at h
    refine lv_iload_n hx hb dX5_record_10 rfl (lv_at hl 1 rfl) ?_
    refine lv_sipush (v := nI 1653) hx hb dX5_record_11 (by decide) ?_
    refine lv_icmp_ge (tgt := 39) hx hb dX5_record_14 (by decide) (fun c11 => ?_) (fun c11 => ?_)
    · have h := cz_ite_t c11 h
      exact hX _ _ _ _ _ h hM (lv_sub hl [0, 1] rfl)
    · have h := cz_ite_f c11 h
      refine lv_aload_n hx hb dX5_record_17 rfl (lv_at hl 0 rfl) ?_
      refine cz_getR X hM ff_X5_2 ka0 lk_X5_16 dX5_record_18 (fun hk12 => ?_)
      refine lv_iload_n hx hb dX5_record_21 rfl (lv_at hl 1 rfl) ?_
      refine lv_aload_n hx hb dX5_record_22 rfl (lv_at hl 0 rfl) ?_
      refine cz_getR X hM ff_X5_2 ka0 lk_X5_16 dX5_record_23 (fun hk13 => ?_)
      refine lv_iload_n hx hb dX5_record_26 rfl (lv_at hl 1 rfl) ?_
      refine lv_sipush (v := nI 551) hx hb dX5_record_27 (by decide) ?_
      refine lv_iadd hx hb dX5_record_30 ?_
      refine cz_iald (n := 2204) X hM h hk13 (by decide) dX5_record_31 (fun h => ?_)
      refine cz_iast (n := 2204) X hM h hk12 (by decide) dX5_record_32 (fun M14 H locs h hM => ?_)
      refine cz_nmL (v := x1 + nI 1) h (fun v15 e16 h => ?_)
      refine lv_iinc (v := v15) (lv' := [(1, .int v15), (0, .ref a0)]) hx hb dX5_record_33 hl (k := 1) rfl (by rw [e16]; rfl) (by decide) rfl (fun ls hl => ?_)
      refine lv_goto (tgt := 10) hx hb dX5_record_36 (by decide) ?_
      exact ih _ _ _ _ _ h hM (lv_sub hl [1, 0] rfl)
set_option maxHeartbeats 4000000 in
set_option maxRecDepth 100000 in
theorem c_X5_record {l : Launch} {g : cz_G} {b : Nat} {M : cz_M} {M9 : cz_M} {a : Nat} (ka : cz_K b a 5) (h : f_X5_record M a = some M9) : cz_C l yX5_record cX5_record 2 none 0 0 g b [.ref a] M none M9 := by
  refine cz_start (by decide) (Nat.le_of_ble_eq_true rfl) (fun p e s m args below meth c X H ls hM hl => ?_)
  have X : cz_X p s m args meth c cX5_record 2 RX5 g b none := X
  obtain ⟨hx, hb, -, ho, ht, -⟩ := id X
  have hRf : 0 ≤ ({ frames := 0, cells := 0, slots := 0, locals := 0 } : Room).frames := Nat.le_refl _
  have hRl : 0 ≤ ({ frames := 0, cells := 0, slots := 0, locals := 0 } : Room).locals := Nat.le_refl _
  have hl : lv_has ls 2 [(0, .ref a)] := hl
  rw [f_X5_record] at h
  refine lv_aload_n hx hb dX5_record_0 rfl (lv_at hl 0 rfl) ?_
  refine cz_getI X hM ff_X5_3 ka lk_X5_46 dX5_record_1 ?_
  refine lv_iconst (v := nI 4) hx hb dX5_record_4 (by decide) ?_
  refine lv_icmp_ne (tgt := 49) hx hb dX5_record_5 (by decide) (fun c1 => ?_) (fun c1 => ?_)
  · have h := cz_ite_f c1 h
    refine lv_iconst (v := nI 0) hx hb dX5_record_49 (by decide) ?_
    refine lv_istore_n (lv' := [(1, .int (nI 0)), (0, .ref a)]) hx hb dX5_record_50 rfl hl (by decide) rfl (fun ls hl => ?_)
    refine w_X5_record_L51 X hRf hRl ka _ (fun x8 M9 H locs ls h hM hl => ?_) _ _ _ _ _ _ h hM (lv_sub hl [1, 0] rfl)
    refine lv_aload_n hx hb dX5_record_85 rfl (lv_at hl 0 rfl) ?_
    refine lv_dup hx hb dX5_record_86 rfl ?_
    refine cz_getI X hM ff_X5_3 ka lk_X5_46 dX5_record_87 ?_
    refine lv_iconst (v := nI 1) hx hb dX5_record_90 (by decide) ?_
    refine lv_iadd hx hb dX5_record_91 ?_
    refine cz_putI X hM h ff_X5_3 ka lk_X5_46 dX5_record_92 (fun M10 H locs h hM => ?_)
    exact cz_retv X hM h dX5_record_95
  · have h := cz_ite_t c1 h
    refine lv_iconst (v := nI 0) hx hb dX5_record_8 (by decide) ?_
    refine lv_istore_n (lv' := [(1, .int (nI 0)), (0, .ref a)]) hx hb dX5_record_9 rfl hl (by decide) rfl (fun ls hl => ?_)
    refine w_X5_record_L10 X hRf hRl ka _ (fun x17 M18 H locs ls h hM hl => ?_) _ _ _ _ _ _ h hM (lv_sub hl [1, 0] rfl)
    refine lv_aload_n hx hb dX5_record_39 rfl (lv_at hl 0 rfl) ?_
    refine lv_dup hx hb dX5_record_40 rfl ?_
    refine cz_getI X hM ff_X5_3 ka lk_X5_46 dX5_record_41 ?_
    refine lv_iconst (v := nI 1) hx hb dX5_record_44 (by decide) ?_
    refine lv_isub hx hb dX5_record_45 ?_
    refine cz_putI X hM h ff_X5_3 ka lk_X5_46 dX5_record_46 (fun M19 H locs h hM => ?_)
    refine lv_iconst (v := nI 0) hx hb dX5_record_49 (by decide) ?_
    refine lv_istore_n (lv' := [(1, .int (nI 0)), (0, .ref a)]) hx hb dX5_record_50 rfl hl (by decide) rfl (fun ls hl => ?_)
    refine w_X5_record_L51 X hRf hRl ka _ (fun x20 M21 H locs ls h hM hl => ?_) _ _ _ _ _ _ h hM (lv_sub hl [1, 0] rfl)
    refine lv_aload_n hx hb dX5_record_85 rfl (lv_at hl 0 rfl) ?_
    refine lv_dup hx hb dX5_record_86 rfl ?_
    refine cz_getI X hM ff_X5_3 ka lk_X5_46 dX5_record_87 ?_
    refine lv_iconst (v := nI 1) hx hb dX5_record_90 (by decide) ?_
    refine lv_iadd hx hb dX5_record_91 ?_
    refine cz_putI X hM h ff_X5_3 ka lk_X5_46 dX5_record_92 (fun M22 H locs h hM => ?_)
    exact cz_retv X hM h dX5_record_95
theorem mv_X5_putAside : cz_MV yX5_putAside cX5_putAside 2 none RX5 0 := ⟨mi_X5_putAside, ms_X5_putAside, mc_X5_putAside, ini_X5, by decide +kernel⟩
set_option maxHeartbeats 4000000 in
set_option maxRecDepth 100000 in
theorem w_X5_putAside_L2 {p : Program} {l : Launch} {e : Env} {R : Room} {s : State} {m : MethodId} {args : Array Value} {below : List Frame} {meth : Method} {c : Code} {g : cz_G} {b : Nat} (X : cz_X p s m args meth c cX5_putAside 2 RX5 g b none) (hRf : 0 ≤ R.frames) (hRl : 0 ≤ R.locals) {M9 : cz_M} {a0 : Nat} (ka0 : cz_K b a0 5)
    (K : Int32 → cz_M → Option (cz_M)) (hX : ∀ (x1 : Int32) (M : cz_M) (H : Heap) (locs : List Loc) (ls : Array Slot), K x1 M = some M9 → cz_WS g b M s H locs → lv_has ls 2 [(0, .ref a0), (1, .int x1)] → W p l e R s m args below meth c H locs 0 0 (MQ below (cz_Q g b none M9) args s 0 0 (fun q => b ≤ q)) (F0 m 27 ls [])) :
    ∀ (n : Nat) (x1 : Int32) (M : cz_M) (H : Heap) (locs : List Loc) (ls : Array Slot), cz_it2 (f_X5_putAside_L2 a0 K) n x1 M = some M9 → cz_WS g b M s H locs → lv_has ls 2 [(0, .ref a0), (1, .int x1)] → W p l e R s m args below meth c H locs 0 0 (MQ below (cz_Q g b none M9) args s 0 0 (fun q => b ≤ q)) (F0 m 2 ls []) := by
  obtain ⟨hx, hb, -, ho, ht, -⟩ := id X
  intro n
  induction n with
  | zero => intro x1 M H locs ls h; cases (show none = some _ from h)
  | succ n ih =>
    intro x1 M H locs ls h hM hl
    have h : f_X5_putAside_L2 a0 K (cz_it2 (f_X5_putAside_L2 a0 K) n) x1 M = some M9 := h
    rw [f_X5_putAside_L2] at h
    refine lv_iload_n hx hb dX5_putAside_2 rfl (lv_at hl 1 rfl) ?_
    refine lv_sipush (v := nI 551) hx hb dX5_putAside_3 (by decide) ?_
    refine lv_icmp_ge (tgt := 27) hx hb dX5_putAside_6 (by decide) (fun c1 => ?_) (fun c1 => ?_)
    · have h := cz_ite_t c1 h
      exact hX _ _ _ _ _ h hM (lv_sub hl [0, 1] rfl)
    · have h := cz_ite_f c1 h
      refine lv_aload_n hx hb dX5_putAside_9 rfl (lv_at hl 0 rfl) ?_
      refine cz_getR X hM ff_X5_1 ka0 lk_X5_13 dX5_putAside_10 (fun hk2 => ?_)
      refine lv_iload_n hx hb dX5_putAside_13 rfl (lv_at hl 1 rfl) ?_
      refine lv_aload_n hx hb dX5_putAside_14 rfl (lv_at hl 0 rfl) ?_
      refine cz_getR X hM ff_X5_0 ka0 lk_X5_7 dX5_putAside_15 (fun hk3 => ?_)
      refine lv_iload_n hx hb dX5_putAside_18 rfl (lv_at hl 1 rfl) ?_
      refine cz_iald (n := 551) X hM h hk3 (by decide) dX5_putAside_19 (fun h => ?_)
      refine cz_iast (n := 551) X hM h hk2 (by decide) dX5_putAside_20 (fun M4 H locs h hM => ?_)
      refine cz_nmL (v := x1 + nI 1) h (fun v5 e6 h => ?_)
      refine lv_iinc (v := v5) (lv' := [(1, .int v5), (0, .ref a0)]) hx hb dX5_putAside_21 hl (k := 1) rfl (by rw [e6]; rfl) (by decide) rfl (fun ls hl => ?_)
      refine lv_goto (tgt := 2) hx hb dX5_putAside_24 (by decide) ?_
      exact ih _ _ _ _ _ h hM (lv_sub hl [1, 0] rfl)
set_option maxHeartbeats 4000000 in
set_option maxRecDepth 100000 in
theorem c_X5_putAside {l : Launch} {g : cz_G} {b : Nat} {M : cz_M} {M9 : cz_M} {a : Nat} (ka : cz_K b a 5) (h : f_X5_putAside M a = some M9) : cz_C l yX5_putAside cX5_putAside 2 none 0 0 g b [.ref a] M none M9 := by
  refine cz_start (by decide) (Nat.le_of_ble_eq_true rfl) (fun p e s m args below meth c X H ls hM hl => ?_)
  have X : cz_X p s m args meth c cX5_putAside 2 RX5 g b none := X
  obtain ⟨hx, hb, -, ho, ht, -⟩ := id X
  have hRf : 0 ≤ ({ frames := 0, cells := 0, slots := 0, locals := 0 } : Room).frames := Nat.le_refl _
  have hRl : 0 ≤ ({ frames := 0, cells := 0, slots := 0, locals := 0 } : Room).locals := Nat.le_refl _
  have hl : lv_has ls 2 [(0, .ref a)] := hl
  rw [f_X5_putAside] at h
  refine lv_iconst (v := nI 0) hx hb dX5_putAside_0 (by decide) ?_
  refine lv_istore_n (lv' := [(1, .int (nI 0)), (0, .ref a)]) hx hb dX5_putAside_1 rfl hl (by decide) rfl (fun ls hl => ?_)
  refine w_X5_putAside_L2 X hRf hRl ka _ (fun x7 M8 H locs ls h hM hl => ?_) _ _ _ _ _ _ h hM (lv_sub hl [1, 0] rfl)
  exact cz_retv X hM h dX5_putAside_27
theorem mv_X5_putBack : cz_MV yX5_putBack cX5_putBack 2 none RX5 0 := ⟨mi_X5_putBack, ms_X5_putBack, mc_X5_putBack, ini_X5, by decide +kernel⟩
set_option maxHeartbeats 4000000 in
set_option maxRecDepth 100000 in
theorem w_X5_putBack_L2 {p : Program} {l : Launch} {e : Env} {R : Room} {s : State} {m : MethodId} {args : Array Value} {below : List Frame} {meth : Method} {c : Code} {g : cz_G} {b : Nat} (X : cz_X p s m args meth c cX5_putBack 2 RX5 g b none) (hRf : 0 ≤ R.frames) (hRl : 0 ≤ R.locals) {M9 : cz_M} {a0 : Nat} (ka0 : cz_K b a0 5)
    (K : Int32 → cz_M → Option (cz_M)) (hX : ∀ (x1 : Int32) (M : cz_M) (H : Heap) (locs : List Loc) (ls : Array Slot), K x1 M = some M9 → cz_WS g b M s H locs → lv_has ls 2 [(0, .ref a0), (1, .int x1)] → W p l e R s m args below meth c H locs 0 0 (MQ below (cz_Q g b none M9) args s 0 0 (fun q => b ≤ q)) (F0 m 27 ls [])) :
    ∀ (n : Nat) (x1 : Int32) (M : cz_M) (H : Heap) (locs : List Loc) (ls : Array Slot), cz_it2 (f_X5_putBack_L2 a0 K) n x1 M = some M9 → cz_WS g b M s H locs → lv_has ls 2 [(0, .ref a0), (1, .int x1)] → W p l e R s m args below meth c H locs 0 0 (MQ below (cz_Q g b none M9) args s 0 0 (fun q => b ≤ q)) (F0 m 2 ls []) := by
  obtain ⟨hx, hb, -, ho, ht, -⟩ := id X
  intro n
  induction n with
  | zero => intro x1 M H locs ls h; cases (show none = some _ from h)
  | succ n ih =>
    intro x1 M H locs ls h hM hl
    have h : f_X5_putBack_L2 a0 K (cz_it2 (f_X5_putBack_L2 a0 K) n) x1 M = some M9 := h
    rw [f_X5_putBack_L2] at h
    refine lv_iload_n hx hb dX5_putBack_2 rfl (lv_at hl 1 rfl) ?_
    refine lv_sipush (v := nI 551) hx hb dX5_putBack_3 (by decide) ?_
    refine lv_icmp_ge (tgt := 27) hx hb dX5_putBack_6 (by decide) (fun c1 => ?_) (fun c1 => ?_)
    · have h := cz_ite_t c1 h
      exact hX _ _ _ _ _ h hM (lv_sub hl [0, 1] rfl)
    · have h := cz_ite_f c1 h
      refine lv_aload_n hx hb dX5_putBack_9 rfl (lv_at hl 0 rfl) ?_
      refine cz_getR X hM ff_X5_0 ka0 lk_X5_7 dX5_putBack_10 (fun hk2 => ?_)
      refine lv_iload_n hx hb dX5_putBack_13 rfl (lv_at hl 1 rfl) ?_
      refine lv_aload_n hx hb dX5_putBack_14 rfl (lv_at hl 0 rfl) ?_
      refine cz_getR X hM ff_X5_1 ka0 lk_X5_13 dX5_putBack_15 (fun hk3 => ?_)
      refine lv_iload_n hx hb dX5_putBack_18 rfl (lv_at hl 1 rfl) ?_
      refine cz_iald (n := 551) X hM h hk3 (by decide) dX5_putBack_19 (fun h => ?_)
      refine cz_iast (n := 551) X hM h hk2 (by decide) dX5_putBack_20 (fun M4 H locs h hM => ?_)
      refine cz_nmL (v := x1 + nI 1) h (fun v5 e6 h => ?_)
      refine lv_iinc (v := v5) (lv' := [(1, .int v5), (0, .ref a0)]) hx hb dX5_putBack_21 hl (k := 1) rfl (by rw [e6]; rfl) (by decide) rfl (fun ls hl => ?_)
      refine lv_goto (tgt := 2) hx hb dX5_putBack_24 (by decide) ?_
      exact ih _ _ _ _ _ h hM (lv_sub hl [1, 0] rfl)
set_option maxHeartbeats 4000000 in
set_option maxRecDepth 100000 in
theorem c_X5_putBack {l : Launch} {g : cz_G} {b : Nat} {M : cz_M} {M9 : cz_M} {a : Nat} (ka : cz_K b a 5) (h : f_X5_putBack M a = some M9) : cz_C l yX5_putBack cX5_putBack 2 none 0 0 g b [.ref a] M none M9 := by
  refine cz_start (by decide) (Nat.le_of_ble_eq_true rfl) (fun p e s m args below meth c X H ls hM hl => ?_)
  have X : cz_X p s m args meth c cX5_putBack 2 RX5 g b none := X
  obtain ⟨hx, hb, -, ho, ht, -⟩ := id X
  have hRf : 0 ≤ ({ frames := 0, cells := 0, slots := 0, locals := 0 } : Room).frames := Nat.le_refl _
  have hRl : 0 ≤ ({ frames := 0, cells := 0, slots := 0, locals := 0 } : Room).locals := Nat.le_refl _
  have hl : lv_has ls 2 [(0, .ref a)] := hl
  rw [f_X5_putBack] at h
  refine lv_iconst (v := nI 0) hx hb dX5_putBack_0 (by decide) ?_
  refine lv_istore_n (lv' := [(1, .int (nI 0)), (0, .ref a)]) hx hb dX5_putBack_1 rfl hl (by decide) rfl (fun ls hl => ?_)
  refine w_X5_putBack_L2 X hRf hRl ka _ (fun x7 M8 H locs ls h hM hl => ?_) _ _ _ _ _ _ h hM (lv_sub hl [1, 0] rfl)
  exact cz_retv X hM h dX5_putBack_27
theorem mv_X5_bits : cz_MS yX5_bits cX5_bits 3 (some .int) 1 := ⟨mt_X5_bits, mc_X5_bits, ini_X5, by decide +kernel⟩
set_option maxHeartbeats 4000000 in
set_option maxRecDepth 100000 in
theorem w_X5_bits_L4 {p : Program} {l : Launch} {e : Env} {R : Room} {s : State} {m : MethodId} {args : Array Value} {below : List Frame} {meth : Method} {c : Code} {g : cz_G} {b : Nat} (X : cz_X p s m args meth c cX5_bits 3 RX5 g b (some .int)) (hRf : 0 ≤ R.frames) (hRl : 0 ≤ R.locals) {r0 : Int32} {x0 : Int32} {M : cz_M} 
    (K : Int32 → Int32 → Option (Int32)) (hX : ∀ (x1 : Int32) (x2 : Int32) (H : Heap) (locs : List Loc) (ls : Array Slot), K x1 x2 = some r0 → cz_WS g b M s H locs → lv_has ls 3 [(0, .int x0), (1, .int x1), (2, .int x2)] → W p l e R s m args below meth c H locs 0 0 (MQ below (cz_Q g b (some (.int r0)) M) args s 0 0 (fun q => b ≤ q)) (F0 m 24 ls [])) :
    ∀ (n : Nat) (x1 : Int32) (x2 : Int32) (H : Heap) (locs : List Loc) (ls : Array Slot), cz_it2 (f_X5_bits_L4 x0 K) n x1 x2 = some r0 → cz_WS g b M s H locs → lv_has ls 3 [(0, .int x0), (1, .int x1), (2, .int x2)] → W p l e R s m args below meth c H locs 0 0 (MQ below (cz_Q g b (some (.int r0)) M) args s 0 0 (fun q => b ≤ q)) (F0 m 4 ls []) := by
  obtain ⟨hx, hb, -, ho, ht, -⟩ := id X
  intro n
  induction n with
  | zero => intro x1 x2 H locs ls h; cases (show none = some _ from h)
  | succ n ih =>
    intro x1 x2 H locs ls h hM hl
    have h : f_X5_bits_L4 x0 K (cz_it2 (f_X5_bits_L4 x0 K) n) x1 x2 = some r0 := h
    rw [f_X5_bits_L4] at h
    refine lv_iload_n hx hb dX5_bits_4 rfl (lv_at hl 2 rfl) ?_
    refine lv_bipush (v := nI 26) hx hb dX5_bits_5 (by decide) ?_
    refine lv_icmp_ge (tgt := 24) hx hb dX5_bits_7 (by decide) (fun c1 => ?_) (fun c1 => ?_)
    · have h := cz_ite_t c1 h
      exact hX _ _ _ _ _ h hM (lv_sub hl [0, 1, 2] rfl)
    · have h := cz_ite_f c1 h
      refine lv_iload_n hx hb dX5_bits_10 rfl (lv_at hl 1 rfl) ?_
      refine lv_iload_n hx hb dX5_bits_11 rfl (lv_at hl 0 rfl) ?_
      refine lv_iload_n hx hb dX5_bits_12 rfl (lv_at hl 2 rfl) ?_
      refine lv_ishr hx hb dX5_bits_13 ?_
      refine lv_iconst (v := nI 1) hx hb dX5_bits_14 (by decide) ?_
      refine lv_iand hx hb dX5_bits_15 ?_
      refine lv_iadd hx hb dX5_bits_16 ?_
      refine cz_nmi h (fun v2 h => ?_)
      refine lv_istore_n (lv' := [(1, .int v2), (0, .int x0), (2, .int x2)]) hx hb dX5_bits_17 rfl hl (by decide) rfl (fun ls hl => ?_)
      refine cz_nmL (v := x2 + nI 1) h (fun v3 e4 h => ?_)
      refine lv_iinc (v := v3) (lv' := [(2, .int v3), (1, .int v2), (0, .int x0)]) hx hb dX5_bits_18 hl (k := 2) rfl (by rw [e4]; rfl) (by decide) rfl (fun ls hl => ?_)
      refine lv_goto (tgt := 4) hx hb dX5_bits_21 (by decide) ?_
      exact ih _ _ _ _ _ h hM (lv_sub hl [2, 1, 0] rfl)
set_option maxHeartbeats 4000000 in
set_option maxRecDepth 100000 in
theorem c_X5_bits {l : Launch} {g : cz_G} {b : Nat} {M : cz_M} {r0 : Int32} {x0 : Int32}  (h : f_X5_bits x0 = some r0) : cz_C l yX5_bits cX5_bits 3 (some .int) 0 0 g b [.int x0] M (some (.int r0)) M := by
  refine cz_start (by decide) (Nat.le_of_ble_eq_true rfl) (fun p e s m args below meth c X H ls hM hl => ?_)
  have X : cz_X p s m args meth c cX5_bits 3 RX5 g b (some .int) := X
  obtain ⟨hx, hb, -, ho, ht, -⟩ := id X
  have hRf : 0 ≤ ({ frames := 0, cells := 0, slots := 0, locals := 0 } : Room).frames := Nat.le_refl _
  have hRl : 0 ≤ ({ frames := 0, cells := 0, slots := 0, locals := 0 } : Room).locals := Nat.le_refl _
  have hl : lv_has ls 3 [(0, .int x0)] := hl
  rw [f_X5_bits] at h
  refine lv_iconst (v := nI 0) hx hb dX5_bits_0 (by decide) ?_
  refine lv_istore_n (lv' := [(1, .int (nI 0)), (0, .int x0)]) hx hb dX5_bits_1 rfl hl (by decide) rfl (fun ls hl => ?_)
  refine lv_iconst (v := nI 0) hx hb dX5_bits_2 (by decide) ?_
  refine lv_istore_n (lv' := [(2, .int (nI 0)), (1, .int (nI 0)), (0, .int x0)]) hx hb dX5_bits_3 rfl hl (by decide) rfl (fun ls hl => ?_)
  refine w_X5_bits_L4 X hRf hRl  _ (fun x5 x6 H locs ls h hM hl => ?_) _ _ _ _ _ _ h hM (lv_sub hl [2, 1, 0] rfl)
  refine lv_iload_n hx hb dX5_bits_24 rfl (lv_at hl 1 rfl) ?_
  exact cz_retp X hM h rfl dX5_bits_25
theorem mv_X5_wordOf : cz_MV yX5_wordOf cX5_wordOf 5 (some .int) RX5 2 := ⟨mi_X5_wordOf, ms_X5_wordOf, mc_X5_wordOf, ini_X5, by decide +kernel⟩
set_option maxHeartbeats 4000000 in
set_option maxRecDepth 100000 in
theorem w_X5_wordOf_L15 {p : Program} {l : Launch} {e : Env} {R : Room} {s : State} {m : MethodId} {args : Array Value} {below : List Frame} {meth : Method} {c : Code} {g : cz_G} {b : Nat} (X : cz_X p s m args meth c cX5_wordOf 5 RX5 g b (some .int)) (hRf : 2 ≤ R.frames) (hRl : 43 ≤ R.locals) {r0 : Int32} {x2 : Int32} {M : cz_M} 
    (K : Int32 → Int32 → Option (Int32)) (hX : ∀ (x3 : Int32) (x4 : Int32) (H : Heap) (locs : List Loc) (ls : Array Slot), K x3 x4 = some r0 → cz_WS g b M s H locs → lv_has ls 5 [(2, .int x2), (3, .int x3), (4, .int x4)] → W p l e R s m args below meth c H locs 0 0 (MQ below (cz_Q g b (some (.int r0)) M) args s 0 0 (fun q => b ≤ q)) (F0 m 34 ls [])) :
    ∀ (n : Nat) (x3 : Int32) (x4 : Int32) (H : Heap) (locs : List Loc) (ls : Array Slot), cz_it2 (f_X5_wordOf_L15 x2 M K) n x3 x4 = some r0 → cz_WS g b M s H locs → lv_has ls 5 [(2, .int x2), (3, .int x3), (4, .int x4)] → W p l e R s m args below meth c H locs 0 0 (MQ below (cz_Q g b (some (.int r0)) M) args s 0 0 (fun q => b ≤ q)) (F0 m 15 ls []) := by
  obtain ⟨hx, hb, -, ho, ht, -⟩ := id X
  intro n
  induction n with
  | zero => intro x3 x4 H locs ls h; cases (show none = some _ from h)
  | succ n ih =>
    intro x3 x4 H locs ls h hM hl
    have h : f_X5_wordOf_L15 x2 M K (cz_it2 (f_X5_wordOf_L15 x2 M K) n) x3 x4 = some r0 := h
    rw [f_X5_wordOf_L15] at h
    refine lv_iload hx hb dX5_wordOf_15 (lv_at hl 2 rfl) ?_
    refine lv_iload_n hx hb dX5_wordOf_17 rfl (lv_at hl 0 rfl) ?_
    refine lv_iconst (v := nI 4) hx hb dX5_wordOf_18 (by decide) ?_
    refine lv_irem hx hb dX5_wordOf_19 (by decide) ?_
    refine lv_icmp_ge (tgt := 34) hx hb dX5_wordOf_20 (by decide) (fun c2 => ?_) (fun c2 => ?_)
    · have h := cz_ite_t c2 h
      exact hX _ _ _ _ _ h hM (lv_sub hl [0, 1, 2] rfl)
    · have h := cz_ite_f c2 h
      refine lv_iload_n hx hb dX5_wordOf_23 rfl (lv_at hl 1 rfl) ?_
      refine lv_bipush (v := nI 26) hx hb dX5_wordOf_24 (by decide) ?_
      refine lv_idiv hx hb dX5_wordOf_26 (by decide) ?_
      refine cz_nmi h (fun v3 h => ?_)
      refine lv_istore_n (lv' := [(3, .int v3), (2, .int x2), (4, .int x4)]) hx hb dX5_wordOf_27 rfl hl (by decide) rfl (fun ls hl => ?_)
      refine cz_nmL (v := x4 + nI 1) h (fun v4 e5 h => ?_)
      refine lv_iinc (v := v4) (lv' := [(4, .int v4), (3, .int v3), (2, .int x2)]) hx hb dX5_wordOf_28 hl (k := 2) rfl (by rw [e5]; rfl) (by decide) rfl (fun ls hl => ?_)
      refine lv_goto (tgt := 15) hx hb dX5_wordOf_31 (by decide) ?_
      exact ih _ _ _ _ _ h hM (lv_sub hl [2, 1, 0] rfl)
set_option maxHeartbeats 4000000 in
set_option maxRecDepth 100000 in
theorem c_X5_wordOf {l : Launch} {g : cz_G} {b : Nat} {M : cz_M} {r0 : Int32} {a : Nat} {x1 : Int32} {x2 : Int32} (ka : cz_K b a 5) (h : f_X5_wordOf M a x1 x2 = some r0) : cz_C l yX5_wordOf cX5_wordOf 5 (some .int) 2 43 g b [.ref a, .int x1, .int x2] M (some (.int r0)) M := by
  refine cz_start (by decide) (Nat.le_of_ble_eq_true rfl) (fun p e s m args below meth c X H ls hM hl => ?_)
  have X : cz_X p s m args meth c cX5_wordOf 5 RX5 g b (some .int) := X
  obtain ⟨hx, hb, -, ho, ht, -⟩ := id X
  have hRf : 2 ≤ ({ frames := 2, cells := 0, slots := 0, locals := 43 } : Room).frames := Nat.le_refl _
  have hRl : 43 ≤ ({ frames := 2, cells := 0, slots := 0, locals := 43 } : Room).locals := Nat.le_refl _
  have hl : lv_has ls 5 [(0, .ref a), (1, .int x1), (2, .int x2)] := hl
  rw [f_X5_wordOf] at h
  refine lv_aload_n hx hb dX5_wordOf_0 rfl (lv_at hl 0 rfl) ?_
  refine lv_iload_n hx hb dX5_wordOf_1 rfl (lv_at hl 1 rfl) ?_
  refine lv_bipush (v := nI 9) hx hb dX5_wordOf_2 (by decide) ?_
  refine lv_iload_n hx hb dX5_wordOf_4 rfl (lv_at hl 2 rfl) ?_
  refine lv_iconst (v := nI 4) hx hb dX5_wordOf_5 (by decide) ?_
  refine lv_idiv hx hb dX5_wordOf_6 (by decide) ?_
  refine lv_iadd hx hb dX5_wordOf_7 ?_
  obtain ⟨v1, hq, h⟩ := cz_bd_t h
  refine cz_runV (rest := []) (As := [.int x1, .int ((nI 9) + (x2 / (nI 4)))]) (T := TX5) (N0 := 12) X hM hl.1 (c_X5_of (l := l) (g := g) (b := b) ka hq) mv_X5_of rfl (by decide) ka ml_X5_50 ⟨Nat.le_trans (Nat.le_of_ble_eq_true rfl) hRf, Nat.le_trans (Nat.le_of_ble_eq_true rfl) hRl⟩ rfl rfl (Nat.le_of_ble_eq_true rfl) dX5_wordOf_8 (fun H locs hM => ?_)
  refine lv_istore_n (lv' := [(3, .int v1), (0, .ref a), (1, .int x1), (2, .int x2)]) hx hb dX5_wordOf_11 rfl hl (by decide) rfl (fun ls hl => ?_)
  refine lv_iconst (v := nI 0) hx hb dX5_wordOf_12 (by decide) ?_
  refine lv_istore (lv' := [(4, .int (nI 0)), (3, .int v1), (0, .ref a), (1, .int x1), (2, .int x2)]) hx hb dX5_wordOf_13 hl (by decide) rfl (fun ls hl => ?_)
  refine w_X5_wordOf_L15 X hRf hRl  _ (fun x6 x7 H locs ls h hM hl => ?_) _ _ _ _ _ _ h hM (lv_sub hl [4, 1, 0] rfl)
  refine lv_iload_n hx hb dX5_wordOf_34 rfl (lv_at hl 1 rfl) ?_
  refine lv_bipush (v := nI 26) hx hb dX5_wordOf_35 (by decide) ?_
  refine lv_irem hx hb dX5_wordOf_37 (by decide) ?_
  exact cz_retp X hM h rfl dX5_wordOf_38
theorem mv_X5_strikes : cz_MV yX5_strikes cX5_strikes 5 (some .int) RX5 2 := ⟨mi_X5_strikes, ms_X5_strikes, mc_X5_strikes, ini_X5, by decide +kernel⟩
set_option maxHeartbeats 4000000 in
set_option maxRecDepth 100000 in
theorem w_X5_strikes_L5 {p : Program} {l : Launch} {e : Env} {R : Room} {s : State} {m : MethodId} {args : Array Value} {below : List Frame} {meth : Method} {c : Code} {g : cz_G} {b : Nat} (X : cz_X p s m args meth c cX5_strikes 5 RX5 g b (some .int)) (hRf : 3 ≤ R.frames) (hRl : 67 ≤ R.locals) {r0 : Int32} {a0 : Nat} {x1 : Int32} {x2 : Int32} {M : cz_M} (ka0 : cz_K b a0 5)
    (K : Int32 → Int32 → Option (Int32)) (hX : ∀ (x3 : Int32) (x4 : Int32) (H : Heap) (locs : List Loc) (ls : Array Slot), K x3 x4 = some r0 → cz_WS g b M s H locs → lv_has ls 5 [(0, .ref a0), (1, .int x1), (2, .int x2), (3, .int x3), (4, .int x4)] → W p l e R s m args below meth c H locs 0 0 (MQ below (cz_Q g b (some (.int r0)) M) args s 0 0 (fun q => b ≤ q)) (F0 m 49 ls [])) :
    ∀ (n : Nat) (x3 : Int32) (x4 : Int32) (H : Heap) (locs : List Loc) (ls : Array Slot), cz_it2 (f_X5_strikes_L5 a0 x1 x2 M K) n x3 x4 = some r0 → cz_WS g b M s H locs → lv_has ls 5 [(0, .ref a0), (1, .int x1), (2, .int x2), (3, .int x3), (4, .int x4)] → W p l e R s m args below meth c H locs 0 0 (MQ below (cz_Q g b (some (.int r0)) M) args s 0 0 (fun q => b ≤ q)) (F0 m 5 ls []) := by
  obtain ⟨hx, hb, -, ho, ht, -⟩ := id X
  intro n
  induction n with
  | zero => intro x3 x4 H locs ls h; cases (show none = some _ from h)
  | succ n ih =>
    intro x3 x4 H locs ls h hM hl
    have h : f_X5_strikes_L5 a0 x1 x2 M K (cz_it2 (f_X5_strikes_L5 a0 x1 x2 M K) n) x3 x4 = some r0 := h
    rw [f_X5_strikes_L5] at h
    refine lv_iload hx hb dX5_strikes_5 (lv_at hl 4 rfl) ?_
    refine lv_aload_n hx hb dX5_strikes_7 rfl (lv_at hl 0 rfl) ?_
    refine lv_iload_n hx hb dX5_strikes_8 rfl (lv_at hl 2 rfl) ?_
    refine lv_bipush (v := nI 8) hx hb dX5_strikes_9 (by decide) ?_
    obtain ⟨v1, hq, h⟩ := cz_bd_t h
    refine cz_runV (rest := [.int x4]) (As := [.int x2, .int (nI 8)]) (T := TX5) (N0 := 12) X hM hl.1 (c_X5_of (l := l) (g := g) (b := b) ka0 hq) mv_X5_of rfl (by decide) ka0 ml_X5_50 ⟨Nat.le_trans (Nat.le_of_ble_eq_true rfl) hRf, Nat.le_trans (Nat.le_of_ble_eq_true rfl) hRl⟩ rfl rfl (Nat.le_of_ble_eq_true rfl) dX5_strikes_11 (fun H locs hM => ?_)
    refine lv_icmp_ge (tgt := 49) hx hb dX5_strikes_14 (by decide) (fun c2 => ?_) (fun c2 => ?_)
    · have h := cz_ite_t c2 h
      exact hX _ _ _ _ _ h hM (lv_sub hl [0, 1, 2, 3, 4] rfl)
    · have h := cz_ite_f c2 h
      refine lv_iload_n hx hb dX5_strikes_17 rfl (lv_at hl 3 rfl) ?_
      refine lv_aload_n hx hb dX5_strikes_18 rfl (lv_at hl 0 rfl) ?_
      refine cz_getR X hM ff_X5_0 ka0 lk_X5_7 dX5_strikes_19 (fun hk3 => ?_)
      refine lv_iload_n hx hb dX5_strikes_22 rfl (lv_at hl 1 rfl) ?_
      refine lv_iconst (v := nI 0) hx hb dX5_strikes_23 (by decide) ?_
      obtain ⟨v4, hq, h⟩ := cz_bd_t h
      refine cz_runS (rest := [.ref (a0 + 1), .int x3]) (As := [.int x1, .int (nI 0)]) X hM hl.1 (c_X5_ofCensor (l := l) (g := g) (b := b)  hq) mv_X5_ofCensor ml_X5_53 ⟨Nat.le_trans (Nat.le_of_ble_eq_true rfl) hRf, Nat.le_trans (Nat.le_of_ble_eq_true rfl) hRl⟩ rfl rfl (Nat.le_of_ble_eq_true rfl) dX5_strikes_24 (fun H locs hM => ?_)
      refine cz_iald (n := 551) X hM h hk3 (by decide) dX5_strikes_27 (fun h => ?_)
      refine lv_aload_n hx hb dX5_strikes_28 rfl (lv_at hl 0 rfl) ?_
      refine lv_iload_n hx hb dX5_strikes_29 rfl (lv_at hl 2 rfl) ?_
      refine lv_iload hx hb dX5_strikes_30 (lv_at hl 4 rfl) ?_
      obtain ⟨v5, hq, h⟩ := cz_bd_t h
      refine cz_runV (rest := [.int (M.1 (a0 + 1) (Int32.toNatClampNeg v4)), .int x3]) (As := [.int x2, .int x4]) (T := TX5) (N0 := 12) X hM hl.1 (c_X5_wordOf (l := l) (g := g) (b := b) ka0 hq) mv_X5_wordOf rfl (by decide) ka0 ml_X5_56 ⟨Nat.le_trans (Nat.le_of_ble_eq_true rfl) hRf, Nat.le_trans (Nat.le_of_ble_eq_true rfl) hRl⟩ rfl rfl (Nat.le_of_ble_eq_true rfl) dX5_strikes_32 (fun H locs hM => ?_)
      refine lv_ishr hx hb dX5_strikes_35 ?_
      refine lv_iconst (v := nI 1) hx hb dX5_strikes_36 (by decide) ?_
      refine lv_iand hx hb dX5_strikes_37 ?_
      refine lv_iload hx hb dX5_strikes_38 (lv_at hl 4 rfl) ?_
      refine lv_ishl hx hb dX5_strikes_40 ?_
      refine lv_ior hx hb dX5_strikes_41 ?_
      refine cz_nmi h (fun v6 h => ?_)
      refine lv_istore_n (lv' := [(3, .int v6), (0, .ref a0), (1, .int x1), (2, .int x2), (4, .int x4)]) hx hb dX5_strikes_42 rfl hl (by decide) rfl (fun ls hl => ?_)
      refine cz_nmL (v := x4 + nI 1) h (fun v7 e8 h => ?_)
      refine lv_iinc (v := v7) (lv' := [(4, .int v7), (3, .int v6), (0, .ref a0), (1, .int x1), (2, .int x2)]) hx hb dX5_strikes_43 hl (k := 4) rfl (by rw [e8]; rfl) (by decide) rfl (fun ls hl => ?_)
      refine lv_goto (tgt := 5) hx hb dX5_strikes_46 (by decide) ?_
      exact ih _ _ _ _ _ h hM (lv_sub hl [2, 3, 4, 1, 0] rfl)
set_option maxHeartbeats 4000000 in
set_option maxRecDepth 100000 in
theorem c_X5_strikes {l : Launch} {g : cz_G} {b : Nat} {M : cz_M} {r0 : Int32} {a : Nat} {x1 : Int32} {x2 : Int32} (ka : cz_K b a 5) (h : f_X5_strikes M a x1 x2 = some r0) : cz_C l yX5_strikes cX5_strikes 5 (some .int) 3 67 g b [.ref a, .int x1, .int x2] M (some (.int r0)) M := by
  refine cz_start (by decide) (Nat.le_of_ble_eq_true rfl) (fun p e s m args below meth c X H ls hM hl => ?_)
  have X : cz_X p s m args meth c cX5_strikes 5 RX5 g b (some .int) := X
  obtain ⟨hx, hb, -, ho, ht, -⟩ := id X
  have hRf : 3 ≤ ({ frames := 3, cells := 0, slots := 0, locals := 67 } : Room).frames := Nat.le_refl _
  have hRl : 67 ≤ ({ frames := 3, cells := 0, slots := 0, locals := 67 } : Room).locals := Nat.le_refl _
  have hl : lv_has ls 5 [(0, .ref a), (1, .int x1), (2, .int x2)] := hl
  rw [f_X5_strikes] at h
  refine lv_iconst (v := nI 0) hx hb dX5_strikes_0 (by decide) ?_
  refine lv_istore_n (lv' := [(3, .int (nI 0)), (0, .ref a), (1, .int x1), (2, .int x2)]) hx hb dX5_strikes_1 rfl hl (by decide) rfl (fun ls hl => ?_)
  refine lv_iconst (v := nI 0) hx hb dX5_strikes_2 (by decide) ?_
  refine lv_istore (lv' := [(4, .int (nI 0)), (3, .int (nI 0)), (0, .ref a), (1, .int x1), (2, .int x2)]) hx hb dX5_strikes_3 hl (by decide) rfl (fun ls hl => ?_)
  refine w_X5_strikes_L5 X hRf hRl ka _ (fun x9 x10 H locs ls h hM hl => ?_) _ _ _ _ _ _ h hM (lv_sub hl [2, 3, 4, 1, 0] rfl)
  refine lv_iload_n hx hb dX5_strikes_49 rfl (lv_at hl 3 rfl) ?_
  exact cz_retp X hM h rfl dX5_strikes_50
theorem mv_X5_shiftNow : cz_MV yX5_shiftNow cX5_shiftNow 2 (some .int) RX5 1 := ⟨mi_X5_shiftNow, ms_X5_shiftNow, mc_X5_shiftNow, ini_X5, by decide +kernel⟩
set_option maxHeartbeats 4000000 in
set_option maxRecDepth 100000 in
theorem c_X5_shiftNow {l : Launch} {g : cz_G} {b : Nat} {M : cz_M} {r0 : Int32} {a : Nat} {x1 : Int32} (ka : cz_K b a 5) (h : f_X5_shiftNow M a x1 = some r0) : cz_C l yX5_shiftNow cX5_shiftNow 2 (some .int) 0 0 g b [.ref a, .int x1] M (some (.int r0)) M := by
  refine cz_start (by decide) (Nat.le_of_ble_eq_true rfl) (fun p e s m args below meth c X H ls hM hl => ?_)
  have X : cz_X p s m args meth c cX5_shiftNow 2 RX5 g b (some .int) := X
  obtain ⟨hx, hb, -, ho, ht, -⟩ := id X
  have hRf : 0 ≤ ({ frames := 0, cells := 0, slots := 0, locals := 0 } : Room).frames := Nat.le_refl _
  have hRl : 0 ≤ ({ frames := 0, cells := 0, slots := 0, locals := 0 } : Room).locals := Nat.le_refl _
  have hl : lv_has ls 2 [(0, .ref a), (1, .int x1)] := hl
  rw [f_X5_shiftNow] at h
  refine lv_aload_n hx hb dX5_shiftNow_0 rfl (lv_at hl 0 rfl) ?_
  refine cz_getR X hM ff_X5_0 ka lk_X5_7 dX5_shiftNow_1 (fun hk1 => ?_)
  refine lv_iconst (v := nI 5) hx hb dX5_shiftNow_4 (by decide) ?_
  refine lv_iconst (v := nI 2) hx hb dX5_shiftNow_5 (by decide) ?_
  refine lv_aload_n hx hb dX5_shiftNow_6 rfl (lv_at hl 0 rfl) ?_
  refine cz_getR X hM ff_X5_0 ka lk_X5_7 dX5_shiftNow_7 (fun hk2 => ?_)
  refine lv_iconst (v := nI 3) hx hb dX5_shiftNow_10 (by decide) ?_
  refine cz_iald (n := 551) X hM h hk2 (by decide) dX5_shiftNow_11 (fun h => ?_)
  refine lv_iconst (v := nI 4) hx hb dX5_shiftNow_12 (by decide) ?_
  refine lv_irem hx hb dX5_shiftNow_13 (by decide) ?_
  refine lv_imul hx hb dX5_shiftNow_14 ?_
  refine lv_iadd hx hb dX5_shiftNow_15 ?_
  refine lv_iload_n hx hb dX5_shiftNow_16 rfl (lv_at hl 1 rfl) ?_
  refine lv_iadd hx hb dX5_shiftNow_17 ?_
  refine cz_iald (n := 551) X hM h hk1 (by decide) dX5_shiftNow_18 (fun h => ?_)
  exact cz_retp X hM h rfl dX5_shiftNow_19
theorem mv_X5_isBarred : cz_MV yX5_isBarred cX5_isBarred 4 (some .boolean) RX5 1 := ⟨mi_X5_isBarred, ms_X5_isBarred, mc_X5_isBarred, ini_X5, by decide +kernel⟩
set_option maxHeartbeats 4000000 in
set_option maxRecDepth 100000 in
theorem w_X5_isBarred_L4 {p : Program} {l : Launch} {e : Env} {R : Room} {s : State} {m : MethodId} {args : Array Value} {below : List Frame} {meth : Method} {c : Code} {g : cz_G} {b : Nat} (X : cz_X p s m args meth c cX5_isBarred 4 RX5 g b (some .boolean)) (hRf : 2 ≤ R.frames) (hRl : 43 ≤ R.locals) {r0 : Int32} {a0 : Nat} {x1 : Int32} {M : cz_M} (ka0 : cz_K b a0 5)
    (K : Int32 → Int32 → Option (Int32)) (hX : ∀ (x2 : Int32) (x3 : Int32) (H : Heap) (locs : List Loc) (ls : Array Slot), K x2 x3 = some r0 → cz_WS g b M s H locs → lv_has ls 4 [(0, .ref a0), (1, .int x1), (2, .int x2), (3, .int x3)] → W p l e R s m args below meth c H locs 0 0 (MQ below (cz_Q g b (some (.int r0)) M) args s 0 0 (fun q => b ≤ q)) (F0 m 49 ls [])) :
    ∀ (n : Nat) (x2 : Int32) (x3 : Int32) (H : Heap) (locs : List Loc) (ls : Array Slot), cz_it2 (f_X5_isBarred_L4 a0 x1 M K) n x2 x3 = some r0 → cz_WS g b M s H locs → lv_has ls 4 [(0, .ref a0), (1, .int x1), (2, .int x2), (3, .int x3)] → W p l e R s m args below meth c H locs 0 0 (MQ below (cz_Q g b (some (.int r0)) M) args s 0 0 (fun q => b ≤ q)) (F0 m 4 ls []) := by
  obtain ⟨hx, hb, -, ho, ht, -⟩ := id X
  intro n
  induction n with
  | zero => intro x2 x3 H locs ls h; cases (show none = some _ from h)
  | succ n ih =>
    intro x2 x3 H locs ls h hM hl
    have h : f_X5_isBarred_L4 a0 x1 M K (cz_it2 (f_X5_isBarred_L4 a0 x1 M K) n) x2 x3 = some r0 := h
    rw [f_X5_isBarred_L4] at h
    refine lv_iload_n hx hb dX5_isBarred_4 rfl (lv_at hl 3 rfl) ?_
    refine lv_iload_n hx hb dX5_isBarred_5 rfl (lv_at hl 1 rfl) ?_
    refine lv_icmp_ge (tgt := 49) hx hb dX5_isBarred_6 (by decide) (fun c1 => ?_) (fun c1 => ?_)
    · have h := cz_ite_t c1 h
      exact hX _ _ _ _ _ h hM (lv_sub hl [0, 1, 2, 3] rfl)
    · have h := cz_ite_f c1 h
      refine lv_iload_n hx hb dX5_isBarred_9 rfl (lv_at hl 2 rfl) ?_
      refine lv_if_ne (tgt := 37) hx hb dX5_isBarred_10 (by decide) (fun c2 => ?_) (fun c2 => ?_)
      · have h := cz_ite_f c2 h
        refine lv_iconst (v := nI 1) hx hb dX5_isBarred_37 (by decide) ?_
        refine lv_goto (tgt := 42) hx hb dX5_isBarred_38 (by decide) ?_
        refine lv_istore_n (lv' := [(2, .int (nI 1)), (0, .ref a0), (1, .int x1), (3, .int x3)]) hx hb dX5_isBarred_42 rfl hl (by decide) rfl (fun ls hl => ?_)
        refine cz_nmL (v := x3 + nI 1) h (fun v3 e4 h => ?_)
        refine lv_iinc (v := v3) (lv' := [(3, .int v3), (2, .int (nI 1)), (0, .ref a0), (1, .int x1)]) hx hb dX5_isBarred_43 hl (k := 3) rfl (by rw [e4]; rfl) (by decide) rfl (fun ls hl => ?_)
        refine lv_goto (tgt := 4) hx hb dX5_isBarred_46 (by decide) ?_
        exact ih _ _ _ _ _ h hM (lv_sub hl [2, 3, 1, 0] rfl)
      · have h := cz_ite_t c2 h
        refine lv_aload_n hx hb dX5_isBarred_13 rfl (lv_at hl 0 rfl) ?_
        refine lv_iload_n hx hb dX5_isBarred_14 rfl (lv_at hl 3 rfl) ?_
        refine lv_iconst (v := nI 0) hx hb dX5_isBarred_15 (by decide) ?_
        obtain ⟨v5, hq, h⟩ := cz_bd_t h
        refine cz_runV (rest := []) (As := [.int x3, .int (nI 0)]) (T := TX5) (N0 := 12) X hM hl.1 (c_X5_of (l := l) (g := g) (b := b) ka0 hq) mv_X5_of rfl (by decide) ka0 ml_X5_50 ⟨Nat.le_trans (Nat.le_of_ble_eq_true rfl) hRf, Nat.le_trans (Nat.le_of_ble_eq_true rfl) hRl⟩ rfl rfl (Nat.le_of_ble_eq_true rfl) dX5_isBarred_16 (fun H locs hM => ?_)
        refine lv_aload_n hx hb dX5_isBarred_19 rfl (lv_at hl 0 rfl) ?_
        refine lv_iload_n hx hb dX5_isBarred_20 rfl (lv_at hl 1 rfl) ?_
        refine lv_iconst (v := nI 0) hx hb dX5_isBarred_21 (by decide) ?_
        obtain ⟨v6, hq, h⟩ := cz_bd_t h
        refine cz_runV (rest := [.int v5]) (As := [.int x1, .int (nI 0)]) (T := TX5) (N0 := 12) X hM hl.1 (c_X5_of (l := l) (g := g) (b := b) ka0 hq) mv_X5_of rfl (by decide) ka0 ml_X5_50 ⟨Nat.le_trans (Nat.le_of_ble_eq_true rfl) hRf, Nat.le_trans (Nat.le_of_ble_eq_true rfl) hRl⟩ rfl rfl (Nat.le_of_ble_eq_true rfl) dX5_isBarred_22 (fun H locs hM => ?_)
        refine lv_icmp_ne (tgt := 41) hx hb dX5_isBarred_25 (by decide) (fun c7 => ?_) (fun c7 => ?_)
        · have h := cz_ite_f c7 h
          refine lv_iconst (v := nI 0) hx hb dX5_isBarred_41 (by decide) ?_
          refine lv_istore_n (lv' := [(2, .int (nI 0)), (0, .ref a0), (1, .int x1), (3, .int x3)]) hx hb dX5_isBarred_42 rfl hl (by decide) rfl (fun ls hl => ?_)
          refine cz_nmL (v := x3 + nI 1) h (fun v8 e9 h => ?_)
          refine lv_iinc (v := v8) (lv' := [(3, .int v8), (2, .int (nI 0)), (0, .ref a0), (1, .int x1)]) hx hb dX5_isBarred_43 hl (k := 3) rfl (by rw [e9]; rfl) (by decide) rfl (fun ls hl => ?_)
          refine lv_goto (tgt := 4) hx hb dX5_isBarred_46 (by decide) ?_
          exact ih _ _ _ _ _ h hM (lv_sub hl [2, 3, 1, 0] rfl)
        · have h := cz_ite_t c7 h
          refine lv_aload_n hx hb dX5_isBarred_28 rfl (lv_at hl 0 rfl) ?_
          refine cz_getR X hM ff_X5_8 ka0 lk_X5_29 dX5_isBarred_29 (fun hk10 => ?_)
          refine lv_iload_n hx hb dX5_isBarred_32 rfl (lv_at hl 3 rfl) ?_
          refine cz_zald (n := 40) X hM h hk10 dX5_isBarred_33 (fun h => ?_)
          refine lv_if_eq (tgt := 41) hx hb dX5_isBarred_34 (by decide) (fun c11 => ?_) (fun c11 => ?_)
          · have h := cz_ite_t c11 h
            refine lv_iconst (v := nI 0) hx hb dX5_isBarred_41 (by decide) ?_
            refine lv_istore_n (lv' := [(2, .int (nI 0)), (0, .ref a0), (1, .int x1), (3, .int x3)]) hx hb dX5_isBarred_42 rfl hl (by decide) rfl (fun ls hl => ?_)
            refine cz_nmL (v := x3 + nI 1) h (fun v12 e13 h => ?_)
            refine lv_iinc (v := v12) (lv' := [(3, .int v12), (2, .int (nI 0)), (0, .ref a0), (1, .int x1)]) hx hb dX5_isBarred_43 hl (k := 3) rfl (by rw [e13]; rfl) (by decide) rfl (fun ls hl => ?_)
            refine lv_goto (tgt := 4) hx hb dX5_isBarred_46 (by decide) ?_
            exact ih _ _ _ _ _ h hM (lv_sub hl [2, 3, 1, 0] rfl)
          · have h := cz_ite_f c11 h
            refine lv_iconst (v := nI 1) hx hb dX5_isBarred_37 (by decide) ?_
            refine lv_goto (tgt := 42) hx hb dX5_isBarred_38 (by decide) ?_
            refine lv_istore_n (lv' := [(2, .int (nI 1)), (0, .ref a0), (1, .int x1), (3, .int x3)]) hx hb dX5_isBarred_42 rfl hl (by decide) rfl (fun ls hl => ?_)
            refine cz_nmL (v := x3 + nI 1) h (fun v14 e15 h => ?_)
            refine lv_iinc (v := v14) (lv' := [(3, .int v14), (2, .int (nI 1)), (0, .ref a0), (1, .int x1)]) hx hb dX5_isBarred_43 hl (k := 3) rfl (by rw [e15]; rfl) (by decide) rfl (fun ls hl => ?_)
            refine lv_goto (tgt := 4) hx hb dX5_isBarred_46 (by decide) ?_
            exact ih _ _ _ _ _ h hM (lv_sub hl [2, 3, 1, 0] rfl)
set_option maxHeartbeats 4000000 in
set_option maxRecDepth 100000 in
theorem c_X5_isBarred {l : Launch} {g : cz_G} {b : Nat} {M : cz_M} {r0 : Int32} {a : Nat} {x1 : Int32} (ka : cz_K b a 5) (h : f_X5_isBarred M a x1 = some r0) : cz_C l yX5_isBarred cX5_isBarred 4 (some .boolean) 2 43 g b [.ref a, .int x1] M (some (.int r0)) M := by
  refine cz_start (by decide) (Nat.le_of_ble_eq_true rfl) (fun p e s m args below meth c X H ls hM hl => ?_)
  have X : cz_X p s m args meth c cX5_isBarred 4 RX5 g b (some .boolean) := X
  obtain ⟨hx, hb, -, ho, ht, -⟩ := id X
  have hRf : 2 ≤ ({ frames := 2, cells := 0, slots := 0, locals := 43 } : Room).frames := Nat.le_refl _
  have hRl : 43 ≤ ({ frames := 2, cells := 0, slots := 0, locals := 43 } : Room).locals := Nat.le_refl _
  have hl : lv_has ls 4 [(0, .ref a), (1, .int x1)] := hl
  rw [f_X5_isBarred] at h
  refine lv_iconst (v := nI 0) hx hb dX5_isBarred_0 (by decide) ?_
  refine lv_istore_n (lv' := [(2, .int (nI 0)), (0, .ref a), (1, .int x1)]) hx hb dX5_isBarred_1 rfl hl (by decide) rfl (fun ls hl => ?_)
  refine lv_iconst (v := nI 0) hx hb dX5_isBarred_2 (by decide) ?_
  refine lv_istore_n (lv' := [(3, .int (nI 0)), (2, .int (nI 0)), (0, .ref a), (1, .int x1)]) hx hb dX5_isBarred_3 rfl hl (by decide) rfl (fun ls hl => ?_)
  refine w_X5_isBarred_L4 X hRf hRl ka _ (fun x16 x17 H locs ls h hM hl => ?_) _ _ _ _ _ _ h hM (lv_sub hl [2, 3, 1, 0] rfl)
  refine lv_iload_n hx hb dX5_isBarred_49 rfl (lv_at hl 2 rfl) ?_
  exact cz_retz X hM h dX5_isBarred_50
theorem mv_X5_reads : cz_MV yX5_reads cX5_reads 4 none RX5 2 := ⟨mi_X5_reads, ms_X5_reads, mc_X5_reads, ini_X5, by decide +kernel⟩
set_option maxHeartbeats 4000000 in
set_option maxRecDepth 100000 in
theorem c_X5_reads {l : Launch} {g : cz_G} {b : Nat} {M : cz_M} {M9 : cz_M} {a : Nat} {x1 : Int32} {x2 : Int32} (ka : cz_K b a 5) (h : f_X5_reads M a x1 x2 = some M9) : cz_C l yX5_reads cX5_reads 4 none 4 91 g b [.ref a, .int x1, .int x2] M none M9 := by
  refine cz_start (by decide) (Nat.le_of_ble_eq_true rfl) (fun p e s m args below meth c X H ls hM hl => ?_)
  have X : cz_X p s m args meth c cX5_reads 4 RX5 g b none := X
  obtain ⟨hx, hb, -, ho, ht, -⟩ := id X
  have hRf : 4 ≤ ({ frames := 4, cells := 0, slots := 0, locals := 91 } : Room).frames := Nat.le_refl _
  have hRl : 91 ≤ ({ frames := 4, cells := 0, slots := 0, locals := 91 } : Room).locals := Nat.le_refl _
  have hl : lv_has ls 4 [(0, .ref a), (1, .int x1), (2, .int x2)] := hl
  rw [f_X5_reads] at h
  refine lv_aload_n hx hb dX5_reads_0 rfl (lv_at hl 0 rfl) ?_
  refine lv_iload_n hx hb dX5_reads_1 rfl (lv_at hl 1 rfl) ?_
  refine lv_iload_n hx hb dX5_reads_2 rfl (lv_at hl 2 rfl) ?_
  obtain ⟨v1, hq, h⟩ := cz_bd_t h
  refine cz_runV (rest := []) (As := [.int x1, .int x2]) (T := TX5) (N0 := 12) X hM hl.1 (c_X5_strikes (l := l) (g := g) (b := b) ka hq) mv_X5_strikes rfl (by decide) ka ml_X5_59 ⟨Nat.le_trans (Nat.le_of_ble_eq_true rfl) hRf, Nat.le_trans (Nat.le_of_ble_eq_true rfl) hRl⟩ rfl rfl (Nat.le_of_ble_eq_true rfl) dX5_reads_3 (fun H locs hM => ?_)
  refine lv_istore_n (lv' := [(3, .int v1), (0, .ref a), (1, .int x1), (2, .int x2)]) hx hb dX5_reads_6 rfl hl (by decide) rfl (fun ls hl => ?_)
  refine lv_aload_n hx hb dX5_reads_7 rfl (lv_at hl 1 rfl) ?_
  refine cz_getR X hM ff_X5_9 ka lk_X5_32 dX5_reads_8 (fun hk2 => ?_)
  refine lv_iload_n hx hb dX5_reads_11 rfl (lv_at hl 3 rfl) ?_
  refine lv_iconst (v := nI 1) hx hb dX5_reads_12 (by decide) ?_
  refine cz_zast (n := 40) X hM h hk2 dX5_reads_13 (fun M3 H locs h hM => ?_)
  refine lv_aload_n hx hb dX5_reads_14 rfl (lv_at hl 1 rfl) ?_
  refine cz_getR X hM ff_X5_0 ka lk_X5_7 dX5_reads_15 (fun hk4 => ?_)
  refine lv_iload_n hx hb dX5_reads_18 rfl (lv_at hl 2 rfl) ?_
  refine lv_iconst (v := nI 1) hx hb dX5_reads_19 (by decide) ?_
  obtain ⟨v5, hq, h⟩ := cz_bd_t h
  refine cz_runS (rest := [.ref (a + 1)]) (As := [.int x1, .int (nI 1)]) X hM hl.1 (c_X5_ofCensor (l := l) (g := g) (b := b)  hq) mv_X5_ofCensor ml_X5_53 ⟨Nat.le_trans (Nat.le_of_ble_eq_true rfl) hRf, Nat.le_trans (Nat.le_of_ble_eq_true rfl) hRl⟩ rfl rfl (Nat.le_of_ble_eq_true rfl) dX5_reads_20 (fun H locs hM => ?_)
  refine lv_dup2_11 hx hb dX5_reads_23 rfl rfl ?_
  refine cz_iald (n := 551) X hM h hk4 (by decide) dX5_reads_24 (fun h => ?_)
  refine lv_iconst (v := nI 1) hx hb dX5_reads_25 (by decide) ?_
  refine lv_iadd hx hb dX5_reads_26 ?_
  refine cz_iast (n := 551) X hM h hk4 (by decide) dX5_reads_27 (fun M6 H locs h hM => ?_)
  refine lv_iload_n hx hb dX5_reads_28 rfl (lv_at hl 0 rfl) ?_
  obtain ⟨v7, hq, h⟩ := cz_bd_t h
  refine cz_runS (rest := []) (As := [.int v1]) X hM hl.1 (c_X5_bits (l := l) (g := g) (b := b)  hq) mv_X5_bits ml_X5_62 ⟨Nat.le_trans (Nat.le_of_ble_eq_true rfl) hRf, Nat.le_trans (Nat.le_of_ble_eq_true rfl) hRl⟩ rfl rfl (Nat.le_of_ble_eq_true rfl) dX5_reads_29 (fun H locs hM => ?_)
  refine lv_aload_n hx hb dX5_reads_32 rfl (lv_at hl 1 rfl) ?_
  refine cz_getR X hM ff_X5_0 ka lk_X5_7 dX5_reads_33 (fun hk8 => ?_)
  refine lv_iconst (v := nI 1) hx hb dX5_reads_36 (by decide) ?_
  refine cz_iald (n := 551) X hM h hk8 (by decide) dX5_reads_37 (fun h => ?_)
  refine lv_icmp_gt (tgt := 95) hx hb dX5_reads_38 (by decide) (fun c9 => ?_) (fun c9 => ?_)
  · have h := cz_ite_t c9 h
    refine lv_aload_n hx hb dX5_reads_95 rfl (lv_at hl 1 rfl) ?_
    refine cz_getR X hM ff_X5_0 ka lk_X5_7 dX5_reads_96 (fun hk10 => ?_)
    refine lv_iload_n hx hb dX5_reads_99 rfl (lv_at hl 3 rfl) ?_
    refine lv_bipush (v := nI 6) hx hb dX5_reads_100 (by decide) ?_
    obtain ⟨v11, hq, h⟩ := cz_bd_t h
    refine cz_runS (rest := [.ref (a + 1)]) (As := [.int x2, .int (nI 6)]) X hM hl.1 (c_X5_at (l := l) (g := g) (b := b)  hq) mv_X5_at ml_X5_42 ⟨Nat.le_trans (Nat.le_of_ble_eq_true rfl) hRf, Nat.le_trans (Nat.le_of_ble_eq_true rfl) hRl⟩ rfl rfl (Nat.le_of_ble_eq_true rfl) dX5_reads_102 (fun H locs hM => ?_)
    refine lv_dup2_11 hx hb dX5_reads_105 rfl rfl ?_
    refine cz_iald (n := 551) X hM h hk10 (by decide) dX5_reads_106 (fun h => ?_)
    refine lv_iconst (v := nI 1) hx hb dX5_reads_107 (by decide) ?_
    refine lv_iadd hx hb dX5_reads_108 ?_
    refine cz_iast (n := 551) X hM h hk10 (by decide) dX5_reads_109 (fun M12 H locs h hM => ?_)
    refine lv_aload_n hx hb dX5_reads_110 rfl (lv_at hl 1 rfl) ?_
    refine cz_getR X hM ff_X5_0 ka lk_X5_7 dX5_reads_111 (fun hk13 => ?_)
    refine lv_iload_n hx hb dX5_reads_114 rfl (lv_at hl 2 rfl) ?_
    refine lv_iconst (v := nI 3) hx hb dX5_reads_115 (by decide) ?_
    obtain ⟨v14, hq, h⟩ := cz_bd_t h
    refine cz_runS (rest := [.ref (a + 1)]) (As := [.int x1, .int (nI 3)]) X hM hl.1 (c_X5_ofCensor (l := l) (g := g) (b := b)  hq) mv_X5_ofCensor ml_X5_53 ⟨Nat.le_trans (Nat.le_of_ble_eq_true rfl) hRf, Nat.le_trans (Nat.le_of_ble_eq_true rfl) hRl⟩ rfl rfl (Nat.le_of_ble_eq_true rfl) dX5_reads_116 (fun H locs hM => ?_)
    refine lv_dup2_11 hx hb dX5_reads_119 rfl rfl ?_
    refine cz_iald (n := 551) X hM h hk13 (by decide) dX5_reads_120 (fun h => ?_)
    refine lv_iconst (v := nI 1) hx hb dX5_reads_121 (by decide) ?_
    refine lv_iadd hx hb dX5_reads_122 ?_
    refine cz_iast (n := 551) X hM h hk13 (by decide) dX5_reads_123 (fun M15 H locs h hM => ?_)
    refine lv_aload_n hx hb dX5_reads_124 rfl (lv_at hl 1 rfl) ?_
    refine cz_getR X hM ff_X5_0 ka lk_X5_7 dX5_reads_125 (fun hk16 => ?_)
    refine lv_iload_n hx hb dX5_reads_128 rfl (lv_at hl 3 rfl) ?_
    refine lv_iconst (v := nI 2) hx hb dX5_reads_129 (by decide) ?_
    obtain ⟨v17, hq, h⟩ := cz_bd_t h
    refine cz_runS (rest := [.ref (a + 1)]) (As := [.int x2, .int (nI 2)]) X hM hl.1 (c_X5_at (l := l) (g := g) (b := b)  hq) mv_X5_at ml_X5_42 ⟨Nat.le_trans (Nat.le_of_ble_eq_true rfl) hRf, Nat.le_trans (Nat.le_of_ble_eq_true rfl) hRl⟩ rfl rfl (Nat.le_of_ble_eq_true rfl) dX5_reads_130 (fun H locs hM => ?_)
    refine lv_aload_n hx hb dX5_reads_133 rfl (lv_at hl 1 rfl) ?_
    refine lv_iload_n hx hb dX5_reads_134 rfl (lv_at hl 3 rfl) ?_
    refine lv_bipush (v := nI 6) hx hb dX5_reads_135 (by decide) ?_
    obtain ⟨v18, hq, h⟩ := cz_bd_t h
    refine cz_runV (rest := [.int v17, .ref (a + 1)]) (As := [.int x2, .int (nI 6)]) (T := TX5) (N0 := 12) X hM hl.1 (c_X5_of (l := l) (g := g) (b := b) ka hq) mv_X5_of rfl (by decide) ka ml_X5_50 ⟨Nat.le_trans (Nat.le_of_ble_eq_true rfl) hRf, Nat.le_trans (Nat.le_of_ble_eq_true rfl) hRl⟩ rfl rfl (Nat.le_of_ble_eq_true rfl) dX5_reads_137 (fun H locs hM => ?_)
    refine lv_aload_n hx hb dX5_reads_140 rfl (lv_at hl 1 rfl) ?_
    refine cz_getR X hM ff_X5_0 ka lk_X5_7 dX5_reads_141 (fun hk19 => ?_)
    refine lv_iconst (v := nI 2) hx hb dX5_reads_144 (by decide) ?_
    refine cz_iald (n := 551) X hM h hk19 (by decide) dX5_reads_145 (fun h => ?_)
    refine lv_icmp_lt (tgt := 153) hx hb dX5_reads_146 (by decide) (fun c20 => ?_) (fun c20 => ?_)
    · have h := cz_ite_t c20 h
      refine lv_iconst (v := nI 0) hx hb dX5_reads_153 (by decide) ?_
      refine cz_iast (n := 551) X hM h hk16 (by decide) dX5_reads_154 (fun M21 H locs h hM => ?_)
      exact cz_retv X hM h dX5_reads_155
    · have h := cz_ite_f c20 h
      refine lv_iconst (v := nI 2) hx hb dX5_reads_149 (by decide) ?_
      refine lv_goto (tgt := 154) hx hb dX5_reads_150 (by decide) ?_
      refine cz_iast (n := 551) X hM h hk16 (by decide) dX5_reads_154 (fun M22 H locs h hM => ?_)
      exact cz_retv X hM h dX5_reads_155
  · have h := cz_ite_f c9 h
    refine lv_aload_n hx hb dX5_reads_41 rfl (lv_at hl 1 rfl) ?_
    refine cz_getR X hM ff_X5_0 ka lk_X5_7 dX5_reads_42 (fun hk23 => ?_)
    refine lv_iload_n hx hb dX5_reads_45 rfl (lv_at hl 3 rfl) ?_
    refine lv_iconst (v := nI 2) hx hb dX5_reads_46 (by decide) ?_
    obtain ⟨v24, hq, h⟩ := cz_bd_t h
    refine cz_runS (rest := [.ref (a + 1)]) (As := [.int x2, .int (nI 2)]) X hM hl.1 (c_X5_at (l := l) (g := g) (b := b)  hq) mv_X5_at ml_X5_42 ⟨Nat.le_trans (Nat.le_of_ble_eq_true rfl) hRf, Nat.le_trans (Nat.le_of_ble_eq_true rfl) hRl⟩ rfl rfl (Nat.le_of_ble_eq_true rfl) dX5_reads_47 (fun H locs hM => ?_)
    refine lv_iconst (v := nI 3) hx hb dX5_reads_50 (by decide) ?_
    refine cz_iast (n := 551) X hM h hk23 (by decide) dX5_reads_51 (fun M25 H locs h hM => ?_)
    refine lv_aload_n hx hb dX5_reads_52 rfl (lv_at hl 1 rfl) ?_
    refine cz_getR X hM ff_X5_0 ka lk_X5_7 dX5_reads_53 (fun hk26 => ?_)
    refine lv_iload_n hx hb dX5_reads_56 rfl (lv_at hl 3 rfl) ?_
    refine lv_iconst (v := nI 5) hx hb dX5_reads_57 (by decide) ?_
    obtain ⟨v27, hq, h⟩ := cz_bd_t h
    refine cz_runS (rest := [.ref (a + 1)]) (As := [.int x2, .int (nI 5)]) X hM hl.1 (c_X5_at (l := l) (g := g) (b := b)  hq) mv_X5_at ml_X5_42 ⟨Nat.le_trans (Nat.le_of_ble_eq_true rfl) hRf, Nat.le_trans (Nat.le_of_ble_eq_true rfl) hRl⟩ rfl rfl (Nat.le_of_ble_eq_true rfl) dX5_reads_58 (fun H locs hM => ?_)
    refine lv_iload_n hx hb dX5_reads_61 rfl (lv_at hl 0 rfl) ?_
    refine cz_iast (n := 551) X hM h hk26 (by decide) dX5_reads_62 (fun M28 H locs h hM => ?_)
    refine lv_aload_n hx hb dX5_reads_63 rfl (lv_at hl 1 rfl) ?_
    refine cz_getR X hM ff_X5_0 ka lk_X5_7 dX5_reads_64 (fun hk29 => ?_)
    refine lv_iload_n hx hb dX5_reads_67 rfl (lv_at hl 3 rfl) ?_
    refine lv_bipush (v := nI 7) hx hb dX5_reads_68 (by decide) ?_
    obtain ⟨v30, hq, h⟩ := cz_bd_t h
    refine cz_runS (rest := [.ref (a + 1)]) (As := [.int x2, .int (nI 7)]) X hM hl.1 (c_X5_at (l := l) (g := g) (b := b)  hq) mv_X5_at ml_X5_42 ⟨Nat.le_trans (Nat.le_of_ble_eq_true rfl) hRf, Nat.le_trans (Nat.le_of_ble_eq_true rfl) hRl⟩ rfl rfl (Nat.le_of_ble_eq_true rfl) dX5_reads_70 (fun H locs hM => ?_)
    refine lv_iload_n hx hb dX5_reads_73 rfl (lv_at hl 2 rfl) ?_
    refine cz_iast (n := 551) X hM h hk29 (by decide) dX5_reads_74 (fun M31 H locs h hM => ?_)
    refine lv_aload_n hx hb dX5_reads_75 rfl (lv_at hl 1 rfl) ?_
    refine cz_getR X hM ff_X5_0 ka lk_X5_7 dX5_reads_76 (fun hk32 => ?_)
    refine lv_iload_n hx hb dX5_reads_79 rfl (lv_at hl 2 rfl) ?_
    refine lv_iconst (v := nI 2) hx hb dX5_reads_80 (by decide) ?_
    obtain ⟨v33, hq, h⟩ := cz_bd_t h
    refine cz_runS (rest := [.ref (a + 1)]) (As := [.int x1, .int (nI 2)]) X hM hl.1 (c_X5_ofCensor (l := l) (g := g) (b := b)  hq) mv_X5_ofCensor ml_X5_53 ⟨Nat.le_trans (Nat.le_of_ble_eq_true rfl) hRf, Nat.le_trans (Nat.le_of_ble_eq_true rfl) hRl⟩ rfl rfl (Nat.le_of_ble_eq_true rfl) dX5_reads_81 (fun H locs hM => ?_)
    refine lv_dup2_11 hx hb dX5_reads_84 rfl rfl ?_
    refine cz_iald (n := 551) X hM h hk32 (by decide) dX5_reads_85 (fun h => ?_)
    refine lv_iload_n hx hb dX5_reads_86 rfl (lv_at hl 0 rfl) ?_
    obtain ⟨v34, hq, h⟩ := cz_bd_t h
    refine cz_runS (rest := [.int (M31.1 (a + 1) (Int32.toNatClampNeg v33)), .int v33, .ref (a + 1)]) (As := [.int v1]) X hM hl.1 (c_X5_bits (l := l) (g := g) (b := b)  hq) mv_X5_bits ml_X5_62 ⟨Nat.le_trans (Nat.le_of_ble_eq_true rfl) hRf, Nat.le_trans (Nat.le_of_ble_eq_true rfl) hRl⟩ rfl rfl (Nat.le_of_ble_eq_true rfl) dX5_reads_87 (fun H locs hM => ?_)
    refine lv_iadd hx hb dX5_reads_90 ?_
    refine cz_iast (n := 551) X hM h hk32 (by decide) dX5_reads_91 (fun M35 H locs h hM => ?_)
    refine lv_goto (tgt := 155) hx hb dX5_reads_92 (by decide) ?_
    exact cz_retv X hM h dX5_reads_155
theorem mv_X5_goesThrough : cz_MV yX5_goesThrough cX5_goesThrough 9 none RX5 1 := ⟨mi_X5_goesThrough, ms_X5_goesThrough, mc_X5_goesThrough, ini_X5, by decide +kernel⟩
set_option maxHeartbeats 4000000 in
set_option maxRecDepth 100000 in
theorem w_X5_goesThrough_L22 {p : Program} {l : Launch} {e : Env} {R : Room} {s : State} {m : MethodId} {args : Array Value} {below : List Frame} {meth : Method} {c : Code} {g : cz_G} {b : Nat} (X : cz_X p s m args meth c cX5_goesThrough 9 RX5 g b none) (hRf : 5 ≤ R.frames) (hRl : 114 ≤ R.locals) {M9 : cz_M} {a0 : Nat} {x1 : Int32} {x2 : Int32} {x3 : Int32} (ka0 : cz_K b a0 5)
    (K : Int32 → Int32 → cz_M → Option (cz_M)) (hX : ∀ (x4 : Int32) (x5 : Int32) (M : cz_M) (H : Heap) (locs : List Loc) (ls : Array Slot), K x4 x5 M = some M9 → cz_WS g b M s H locs → lv_has ls 9 [(0, .ref a0), (1, .int x1), (2, .int x2), (3, .int x3), (4, .int x4), (5, .int x5)] → W p l e R s m args below meth c H locs 0 0 (MQ below (cz_Q g b none M9) args s 0 0 (fun q => b ≤ q)) (F0 m 77 ls [])) :
    ∀ (n : Nat) (x4 : Int32) (x5 : Int32) (M : cz_M) (H : Heap) (locs : List Loc) (ls : Array Slot), cz_it3 (f_X5_goesThrough_L22 a0 x1 x2 x3 K) n x4 x5 M = some M9 → cz_WS g b M s H locs → lv_has ls 9 [(0, .ref a0), (1, .int x1), (2, .int x2), (3, .int x3), (4, .int x4), (5, .int x5)] → W p l e R s m args below meth c H locs 0 0 (MQ below (cz_Q g b none M9) args s 0 0 (fun q => b ≤ q)) (F0 m 22 ls []) := by
  obtain ⟨hx, hb, -, ho, ht, -⟩ := id X
  intro n
  induction n with
  | zero => intro x4 x5 M H locs ls h; cases (show none = some _ from h)
  | succ n ih =>
    intro x4 x5 M H locs ls h hM hl
    have h : f_X5_goesThrough_L22 a0 x1 x2 x3 K (cz_it3 (f_X5_goesThrough_L22 a0 x1 x2 x3 K) n) x4 x5 M = some M9 := h
    rw [f_X5_goesThrough_L22] at h
    refine lv_iload hx hb dX5_goesThrough_22 (lv_at hl 5 rfl) ?_
    refine lv_iload_n hx hb dX5_goesThrough_24 rfl (lv_at hl 3 rfl) ?_
    refine lv_icmp_ge (tgt := 77) hx hb dX5_goesThrough_25 (by decide) (fun c4 => ?_) (fun c4 => ?_)
    · have h := cz_ite_t c4 h
      exact hX _ _ _ _ _ _ h hM (lv_sub hl [0, 1, 2, 3, 4, 5] rfl)
    · have h := cz_ite_f c4 h
      refine lv_aload_n hx hb dX5_goesThrough_28 rfl (lv_at hl 0 rfl) ?_
      refine cz_getR X hM ff_X5_0 ka0 lk_X5_7 dX5_goesThrough_29 (fun hk5 => ?_)
      refine lv_iload_n hx hb dX5_goesThrough_32 rfl (lv_at hl 1 rfl) ?_
      refine lv_iload hx hb dX5_goesThrough_33 (lv_at hl 5 rfl) ?_
      obtain ⟨v6, hq, h⟩ := cz_bd_t h
      refine cz_runS (rest := [.ref (a0 + 1)]) (As := [.int x1, .int x5]) X hM hl.1 (c_X5_inRow (l := l) (g := g) (b := b)  hq) mv_X5_inRow ml_X5_69 ⟨Nat.le_trans (Nat.le_of_ble_eq_true rfl) hRf, Nat.le_trans (Nat.le_of_ble_eq_true rfl) hRl⟩ rfl rfl (Nat.le_of_ble_eq_true rfl) dX5_goesThrough_35 (fun H locs hM => ?_)
      refine cz_iald (n := 551) X hM h hk5 (by decide) dX5_goesThrough_38 (fun h => ?_)
      refine cz_nmi h (fun v7 h => ?_)
      refine lv_istore (lv' := [(6, .int v7), (0, .ref a0), (1, .int x1), (2, .int x2), (3, .int x3), (4, .int x4), (5, .int x5)]) hx hb dX5_goesThrough_39 hl (by decide) rfl (fun ls hl => ?_)
      refine lv_iload hx hb dX5_goesThrough_41 (lv_at hl 5 rfl) ?_
      refine lv_aload_n hx hb dX5_goesThrough_43 rfl (lv_at hl 1 rfl) ?_
      refine cz_getR X hM ff_X5_0 ka0 lk_X5_7 dX5_goesThrough_44 (fun hk8 => ?_)
      refine lv_iconst (v := nI 0) hx hb dX5_goesThrough_47 (by decide) ?_
      refine cz_iald (n := 551) X hM h hk8 (by decide) dX5_goesThrough_48 (fun h => ?_)
      refine lv_icmp_ge (tgt := 71) hx hb dX5_goesThrough_49 (by decide) (fun c9 => ?_) (fun c9 => ?_)
      · have h := cz_ite_t c9 h
        refine cz_nmL (v := x5 + nI 1) h (fun v10 e11 h => ?_)
        refine lv_iinc (v := v10) (lv' := [(5, .int v10), (6, .int v7), (0, .ref a0), (1, .int x1), (2, .int x2), (3, .int x3), (4, .int x4)]) hx hb dX5_goesThrough_71 hl (k := 6) rfl (by rw [e11]; rfl) (by decide) rfl (fun ls hl => ?_)
        refine lv_goto (tgt := 22) hx hb dX5_goesThrough_74 (by decide) ?_
        exact ih _ _ _ _ _ _ h hM (lv_sub hl [2, 3, 4, 5, 6, 0] rfl)
      · have h := cz_ite_f c9 h
        refine lv_aload_n hx hb dX5_goesThrough_52 rfl (lv_at hl 1 rfl) ?_
        refine lv_iload hx hb dX5_goesThrough_53 (lv_at hl 0 rfl) ?_
        obtain ⟨v12, hq, h⟩ := cz_bd_t h
        refine cz_runV (rest := []) (As := [.int v7]) (T := TX5) (N0 := 12) X hM hl.1 (c_X5_isBarred (l := l) (g := g) (b := b) ka0 hq) mv_X5_isBarred rfl (by decide) ka0 ml_X5_72 ⟨Nat.le_trans (Nat.le_of_ble_eq_true rfl) hRf, Nat.le_trans (Nat.le_of_ble_eq_true rfl) hRl⟩ rfl rfl (Nat.le_of_ble_eq_true rfl) dX5_goesThrough_55 (fun H locs hM => ?_)
        refine lv_if_ne (tgt := 71) hx hb dX5_goesThrough_58 (by decide) (fun c13 => ?_) (fun c13 => ?_)
        · have h := cz_ite_f c13 h
          refine cz_nmL (v := x5 + nI 1) h (fun v14 e15 h => ?_)
          refine lv_iinc (v := v14) (lv' := [(5, .int v14), (6, .int v7), (0, .ref a0), (1, .int x1), (2, .int x2), (3, .int x3), (4, .int x4)]) hx hb dX5_goesThrough_71 hl (k := 6) rfl (by rw [e15]; rfl) (by decide) rfl (fun ls hl => ?_)
          refine lv_goto (tgt := 22) hx hb dX5_goesThrough_74 (by decide) ?_
          exact ih _ _ _ _ _ _ h hM (lv_sub hl [2, 3, 4, 5, 6, 0] rfl)
        · have h := cz_ite_t c13 h
          refine lv_aload_n hx hb dX5_goesThrough_61 rfl (lv_at hl 1 rfl) ?_
          refine lv_iload_n hx hb dX5_goesThrough_62 rfl (lv_at hl 3 rfl) ?_
          refine lv_iload hx hb dX5_goesThrough_63 (lv_at hl 0 rfl) ?_
          obtain ⟨M16, hq, h⟩ := cz_bd_t h
          refine cz_runV (rest := []) (As := [.int x2, .int v7]) (T := TX5) (N0 := 12) X hM hl.1 (c_X5_reads (l := l) (g := g) (b := b) ka0 hq) mv_X5_reads rfl (by decide) ka0 ml_X5_76 ⟨Nat.le_trans (Nat.le_of_ble_eq_true rfl) hRf, Nat.le_trans (Nat.le_of_ble_eq_true rfl) hRl⟩ rfl rfl (Nat.le_of_ble_eq_true rfl) dX5_goesThrough_65 (fun H locs hM => ?_)
          refine cz_nmL (v := x4 + nI 1) h (fun v17 e18 h => ?_)
          refine lv_iinc (v := v17) (lv' := [(4, .int v17), (6, .int v7), (0, .ref a0), (1, .int x1), (2, .int x2), (3, .int x3), (5, .int x5)]) hx hb dX5_goesThrough_68 hl (k := 5) rfl (by rw [e18]; rfl) (by decide) rfl (fun ls hl => ?_)
          refine cz_nmL (v := x5 + nI 1) h (fun v19 e20 h => ?_)
          refine lv_iinc (v := v19) (lv' := [(5, .int v19), (4, .int v17), (6, .int v7), (0, .ref a0), (1, .int x1), (2, .int x2), (3, .int x3)]) hx hb dX5_goesThrough_71 hl (k := 6) rfl (by rw [e20]; rfl) (by decide) rfl (fun ls hl => ?_)
          refine lv_goto (tgt := 22) hx hb dX5_goesThrough_74 (by decide) ?_
          exact ih _ _ _ _ _ _ h hM (lv_sub hl [3, 4, 5, 6, 1, 0] rfl)
set_option maxHeartbeats 4000000 in
set_option maxRecDepth 100000 in
theorem w_X5_goesThrough_L92 {p : Program} {l : Launch} {e : Env} {R : Room} {s : State} {m : MethodId} {args : Array Value} {below : List Frame} {meth : Method} {c : Code} {g : cz_G} {b : Nat} (X : cz_X p s m args meth c cX5_goesThrough 9 RX5 g b none) (hRf : 5 ≤ R.frames) (hRl : 114 ≤ R.locals) {M9 : cz_M} {a0 : Nat} {x1 : Int32} {x3 : Int32} {x6 : Int32} (ka0 : cz_K b a0 5)
    (K : Int32 → Int32 → cz_M → Option (cz_M)) (hX : ∀ (x5 : Int32) (x7 : Int32) (M : cz_M) (H : Heap) (locs : List Loc) (ls : Array Slot), K x5 x7 M = some M9 → cz_WS g b M s H locs → lv_has ls 9 [(0, .ref a0), (1, .int x1), (3, .int x3), (5, .int x5), (6, .int x6), (7, .int x7)] → W p l e R s m args below meth c H locs 0 0 (MQ below (cz_Q g b none M9) args s 0 0 (fun q => b ≤ q)) (F0 m 160 ls [])) :
    ∀ (n : Nat) (x5 : Int32) (x7 : Int32) (M : cz_M) (H : Heap) (locs : List Loc) (ls : Array Slot), cz_it3 (f_X5_goesThrough_L92 a0 x1 x3 x6 K) n x5 x7 M = some M9 → cz_WS g b M s H locs → lv_has ls 9 [(0, .ref a0), (1, .int x1), (3, .int x3), (5, .int x5), (6, .int x6), (7, .int x7)] → W p l e R s m args below meth c H locs 0 0 (MQ below (cz_Q g b none M9) args s 0 0 (fun q => b ≤ q)) (F0 m 92 ls []) := by
  obtain ⟨hx, hb, -, ho, ht, -⟩ := id X
  intro n
  induction n with
  | zero => intro x5 x7 M H locs ls h; cases (show none = some _ from h)
  | succ n ih =>
    intro x5 x7 M H locs ls h hM hl
    have h : f_X5_goesThrough_L92 a0 x1 x3 x6 K (cz_it3 (f_X5_goesThrough_L92 a0 x1 x3 x6 K) n) x5 x7 M = some M9 := h
    rw [f_X5_goesThrough_L92] at h
    refine lv_iload hx hb dX5_goesThrough_92 (lv_at hl 5 rfl) ?_
    refine lv_iload_n hx hb dX5_goesThrough_94 rfl (lv_at hl 2 rfl) ?_
    refine lv_icmp_ge (tgt := 160) hx hb dX5_goesThrough_95 (by decide) (fun c25 => ?_) (fun c25 => ?_)
    · have h := cz_ite_t c25 h
      exact hX _ _ _ _ _ _ h hM (lv_sub hl [0, 1, 2, 3, 4, 5] rfl)
    · have h := cz_ite_f c25 h
      refine lv_aload_n hx hb dX5_goesThrough_98 rfl (lv_at hl 0 rfl) ?_
      refine cz_getR X hM ff_X5_0 ka0 lk_X5_7 dX5_goesThrough_99 (fun hk26 => ?_)
      refine lv_iload_n hx hb dX5_goesThrough_102 rfl (lv_at hl 1 rfl) ?_
      refine lv_iload hx hb dX5_goesThrough_103 (lv_at hl 5 rfl) ?_
      obtain ⟨v27, hq, h⟩ := cz_bd_t h
      refine cz_runS (rest := [.ref (a0 + 1)]) (As := [.int x1, .int x7]) X hM hl.1 (c_X5_inRow (l := l) (g := g) (b := b)  hq) mv_X5_inRow ml_X5_69 ⟨Nat.le_trans (Nat.le_of_ble_eq_true rfl) hRf, Nat.le_trans (Nat.le_of_ble_eq_true rfl) hRl⟩ rfl rfl (Nat.le_of_ble_eq_true rfl) dX5_goesThrough_105 (fun H locs hM => ?_)
      refine cz_iald (n := 551) X hM h hk26 (by decide) dX5_goesThrough_108 (fun h => ?_)
      refine cz_nmi h (fun v28 h => ?_)
      refine lv_istore (lv' := [(8, .int v28), (0, .ref a0), (1, .int x1), (3, .int x3), (5, .int x5), (6, .int x6), (7, .int x7)]) hx hb dX5_goesThrough_109 hl (by decide) rfl (fun ls hl => ?_)
      refine lv_aload_n hx hb dX5_goesThrough_111 rfl (lv_at hl 1 rfl) ?_
      refine lv_iload hx hb dX5_goesThrough_112 (lv_at hl 0 rfl) ?_
      refine lv_iconst (v := nI 2) hx hb dX5_goesThrough_114 (by decide) ?_
      obtain ⟨v29, hq, h⟩ := cz_bd_t h
      refine cz_runV (rest := []) (As := [.int v28, .int (nI 2)]) (T := TX5) (N0 := 12) X hM hl.1 (c_X5_of (l := l) (g := g) (b := b) ka0 hq) mv_X5_of rfl (by decide) ka0 ml_X5_50 ⟨Nat.le_trans (Nat.le_of_ble_eq_true rfl) hRf, Nat.le_trans (Nat.le_of_ble_eq_true rfl) hRl⟩ rfl rfl (Nat.le_of_ble_eq_true rfl) dX5_goesThrough_115 (fun H locs hM => ?_)
      refine lv_if_ne (tgt := 154) hx hb dX5_goesThrough_118 (by decide) (fun c30 => ?_) (fun c30 => ?_)
      · have h := cz_ite_f c30 h
        refine cz_nmL (v := x7 + nI 1) h (fun v31 e32 h => ?_)
        refine lv_iinc (v := v31) (lv' := [(7, .int v31), (8, .int v28), (0, .ref a0), (1, .int x1), (3, .int x3), (5, .int x5), (6, .int x6)]) hx hb dX5_goesThrough_154 hl (k := 6) rfl (by rw [e32]; rfl) (by decide) rfl (fun ls hl => ?_)
        refine lv_goto (tgt := 92) hx hb dX5_goesThrough_157 (by decide) ?_
        exact ih _ _ _ _ _ _ h hM (lv_sub hl [2, 3, 4, 5, 6, 0] rfl)
      · have h := cz_ite_t c30 h
        refine lv_aload_n hx hb dX5_goesThrough_121 rfl (lv_at hl 1 rfl) ?_
        refine cz_getR X hM ff_X5_9 ka0 lk_X5_32 dX5_goesThrough_122 (fun hk33 => ?_)
        refine lv_iload hx hb dX5_goesThrough_125 (lv_at hl 0 rfl) ?_
        refine cz_zald (n := 40) X hM h hk33 dX5_goesThrough_127 (fun h => ?_)
        refine lv_iload hx hb dX5_goesThrough_128 (lv_at hl 5 rfl) ?_
        refine lv_iconst (v := nI 1) hx hb dX5_goesThrough_130 (by decide) ?_
        refine lv_icmp_ne (tgt := 138) hx hb dX5_goesThrough_131 (by decide) (fun c34 => ?_) (fun c34 => ?_)
        · have h := cz_ite_f c34 h
          refine lv_iconst (v := nI 0) hx hb dX5_goesThrough_138 (by decide) ?_
          refine lv_icmp_ne (tgt := 154) hx hb dX5_goesThrough_139 (by decide) (fun c35 => ?_) (fun c35 => ?_)
          · have h := cz_ite_f c35 h
            refine cz_nmL (v := x7 + nI 1) h (fun v36 e37 h => ?_)
            refine lv_iinc (v := v36) (lv' := [(7, .int v36), (8, .int v28), (0, .ref a0), (1, .int x1), (3, .int x3), (5, .int x5), (6, .int x6)]) hx hb dX5_goesThrough_154 hl (k := 6) rfl (by rw [e37]; rfl) (by decide) rfl (fun ls hl => ?_)
            refine lv_goto (tgt := 92) hx hb dX5_goesThrough_157 (by decide) ?_
            exact ih _ _ _ _ _ _ h hM (lv_sub hl [2, 3, 4, 5, 6, 0] rfl)
          · have h := cz_ite_t c35 h
            refine lv_aload_n hx hb dX5_goesThrough_142 rfl (lv_at hl 1 rfl) ?_
            refine cz_getR X hM ff_X5_10 ka0 lk_X5_35 dX5_goesThrough_143 (fun hk38 => ?_)
            refine lv_iload hx hb dX5_goesThrough_146 (lv_at hl 4 rfl) ?_
            refine lv_iload hx hb dX5_goesThrough_148 (lv_at hl 0 rfl) ?_
            refine cz_iast (n := 40) X hM h hk38 (by decide) dX5_goesThrough_150 (fun M39 H locs h hM => ?_)
            refine cz_nmL (v := x5 + nI 1) h (fun v40 e41 h => ?_)
            refine lv_iinc (v := v40) (lv' := [(5, .int v40), (8, .int v28), (0, .ref a0), (1, .int x1), (3, .int x3), (6, .int x6), (7, .int x7)]) hx hb dX5_goesThrough_151 hl (k := 4) rfl (by rw [e41]; rfl) (by decide) rfl (fun ls hl => ?_)
            refine cz_nmL (v := x7 + nI 1) h (fun v42 e43 h => ?_)
            refine lv_iinc (v := v42) (lv' := [(7, .int v42), (5, .int v40), (8, .int v28), (0, .ref a0), (1, .int x1), (3, .int x3), (6, .int x6)]) hx hb dX5_goesThrough_154 hl (k := 6) rfl (by rw [e43]; rfl) (by decide) rfl (fun ls hl => ?_)
            refine lv_goto (tgt := 92) hx hb dX5_goesThrough_157 (by decide) ?_
            exact ih _ _ _ _ _ _ h hM (lv_sub hl [3, 4, 5, 1, 6, 0] rfl)
        · have h := cz_ite_t c34 h
          refine lv_iconst (v := nI 1) hx hb dX5_goesThrough_134 (by decide) ?_
          refine lv_goto (tgt := 139) hx hb dX5_goesThrough_135 (by decide) ?_
          refine lv_icmp_ne (tgt := 154) hx hb dX5_goesThrough_139 (by decide) (fun c44 => ?_) (fun c44 => ?_)
          · have h := cz_ite_f c44 h
            refine cz_nmL (v := x7 + nI 1) h (fun v45 e46 h => ?_)
            refine lv_iinc (v := v45) (lv' := [(7, .int v45), (8, .int v28), (0, .ref a0), (1, .int x1), (3, .int x3), (5, .int x5), (6, .int x6)]) hx hb dX5_goesThrough_154 hl (k := 6) rfl (by rw [e46]; rfl) (by decide) rfl (fun ls hl => ?_)
            refine lv_goto (tgt := 92) hx hb dX5_goesThrough_157 (by decide) ?_
            exact ih _ _ _ _ _ _ h hM (lv_sub hl [2, 3, 4, 5, 6, 0] rfl)
          · have h := cz_ite_t c44 h
            refine lv_aload_n hx hb dX5_goesThrough_142 rfl (lv_at hl 1 rfl) ?_
            refine cz_getR X hM ff_X5_10 ka0 lk_X5_35 dX5_goesThrough_143 (fun hk47 => ?_)
            refine lv_iload hx hb dX5_goesThrough_146 (lv_at hl 4 rfl) ?_
            refine lv_iload hx hb dX5_goesThrough_148 (lv_at hl 0 rfl) ?_
            refine cz_iast (n := 40) X hM h hk47 (by decide) dX5_goesThrough_150 (fun M48 H locs h hM => ?_)
            refine cz_nmL (v := x5 + nI 1) h (fun v49 e50 h => ?_)
            refine lv_iinc (v := v49) (lv' := [(5, .int v49), (8, .int v28), (0, .ref a0), (1, .int x1), (3, .int x3), (6, .int x6), (7, .int x7)]) hx hb dX5_goesThrough_151 hl (k := 4) rfl (by rw [e50]; rfl) (by decide) rfl (fun ls hl => ?_)
            refine cz_nmL (v := x7 + nI 1) h (fun v51 e52 h => ?_)
            refine lv_iinc (v := v51) (lv' := [(7, .int v51), (5, .int v49), (8, .int v28), (0, .ref a0), (1, .int x1), (3, .int x3), (6, .int x6)]) hx hb dX5_goesThrough_154 hl (k := 6) rfl (by rw [e52]; rfl) (by decide) rfl (fun ls hl => ?_)
            refine lv_goto (tgt := 92) hx hb dX5_goesThrough_157 (by decide) ?_
            exact ih _ _ _ _ _ _ h hM (lv_sub hl [3, 4, 5, 1, 6, 0] rfl)
set_option maxHeartbeats 4000000 in
set_option maxRecDepth 100000 in
theorem w_X5_goesThrough_L83 {p : Program} {l : Launch} {e : Env} {R : Room} {s : State} {m : MethodId} {args : Array Value} {below : List Frame} {meth : Method} {c : Code} {g : cz_G} {b : Nat} (X : cz_X p s m args meth c cX5_goesThrough 9 RX5 g b none) (hRf : 5 ≤ R.frames) (hRl : 114 ≤ R.locals) {M9 : cz_M} {a0 : Nat} {x1 : Int32} {x3 : Int32} (ka0 : cz_K b a0 5)
    (K : Int32 → Int32 → cz_M → Option (cz_M)) (hX : ∀ (x5 : Int32) (x6 : Int32) (M : cz_M) (H : Heap) (locs : List Loc) (ls : Array Slot), K x5 x6 M = some M9 → cz_WS g b M s H locs → lv_has ls 9 [(0, .ref a0), (1, .int x1), (3, .int x3), (5, .int x5), (6, .int x6)] → W p l e R s m args below meth c H locs 0 0 (MQ below (cz_Q g b none M9) args s 0 0 (fun q => b ≤ q)) (F0 m 166 ls [])) :
    ∀ (n : Nat) (x5 : Int32) (x6 : Int32) (M : cz_M) (H : Heap) (locs : List Loc) (ls : Array Slot), cz_it3 (f_X5_goesThrough_L83 a0 x1 x3 K) n x5 x6 M = some M9 → cz_WS g b M s H locs → lv_has ls 9 [(0, .ref a0), (1, .int x1), (3, .int x3), (5, .int x5), (6, .int x6)] → W p l e R s m args below meth c H locs 0 0 (MQ below (cz_Q g b none M9) args s 0 0 (fun q => b ≤ q)) (F0 m 83 ls []) := by
  obtain ⟨hx, hb, -, ho, ht, -⟩ := id X
  intro n
  induction n with
  | zero => intro x5 x6 M H locs ls h; cases (show none = some _ from h)
  | succ n ih =>
    intro x5 x6 M H locs ls h hM hl
    have h : f_X5_goesThrough_L83 a0 x1 x3 K (cz_it3 (f_X5_goesThrough_L83 a0 x1 x3 K) n) x5 x6 M = some M9 := h
    rw [f_X5_goesThrough_L83] at h
    refine lv_iload hx hb dX5_goesThrough_83 (lv_at hl 4 rfl) ?_
    refine lv_iconst (v := nI 2) hx hb dX5_goesThrough_85 (by decide) ?_
    refine lv_icmp_ge (tgt := 166) hx hb dX5_goesThrough_86 (by decide) (fun c24 => ?_) (fun c24 => ?_)
    · have h := cz_ite_t c24 h
      exact hX _ _ _ _ _ _ h hM (lv_sub hl [0, 1, 2, 3, 4] rfl)
    · have h := cz_ite_f c24 h
      refine lv_iconst (v := nI 0) hx hb dX5_goesThrough_89 (by decide) ?_
      refine lv_istore (lv' := [(7, .int (nI 0)), (0, .ref a0), (1, .int x1), (3, .int x3), (5, .int x5), (6, .int x6)]) hx hb dX5_goesThrough_90 hl (by decide) rfl (fun ls hl => ?_)
      refine w_X5_goesThrough_L92 X hRf hRl ka0 _ (fun x53 x54 M55 H locs ls h hM hl => ?_) _ _ _ _ _ _ _ h hM (lv_sub hl [1, 2, 3, 4, 5, 0] rfl)
      refine cz_nmL (v := x6 + nI 1) h (fun v56 e57 h => ?_)
      refine lv_iinc (v := v56) (lv' := [(6, .int v56), (0, .ref a0), (1, .int x1), (3, .int x3), (5, .int x53), (7, .int x54)]) hx hb dX5_goesThrough_160 hl (k := 4) rfl (by rw [e57]; rfl) (by decide) rfl (fun ls hl => ?_)
      refine lv_goto (tgt := 83) hx hb dX5_goesThrough_163 (by decide) ?_
      exact ih _ _ _ _ _ _ h hM (lv_sub hl [1, 2, 3, 4, 0] rfl)
set_option maxHeartbeats 4000000 in
set_option maxRecDepth 100000 in
theorem w_X5_goesThrough_L169 {p : Program} {l : Launch} {e : Env} {R : Room} {s : State} {m : MethodId} {args : Array Value} {below : List Frame} {meth : Method} {c : Code} {g : cz_G} {b : Nat} (X : cz_X p s m args meth c cX5_goesThrough 9 RX5 g b none) (hRf : 5 ≤ R.frames) (hRl : 114 ≤ R.locals) {M9 : cz_M} {a0 : Nat} {x1 : Int32} {x3 : Int32} {x5 : Int32} (ka0 : cz_K b a0 5)
    (K : Int32 → cz_M → Option (cz_M)) (hX : ∀ (x6 : Int32) (M : cz_M) (H : Heap) (locs : List Loc) (ls : Array Slot), K x6 M = some M9 → cz_WS g b M s H locs → lv_has ls 9 [(0, .ref a0), (1, .int x1), (3, .int x3), (5, .int x5), (6, .int x6)] → W p l e R s m args below meth c H locs 0 0 (MQ below (cz_Q g b none M9) args s 0 0 (fun q => b ≤ q)) (F0 m 210 ls [])) :
    ∀ (n : Nat) (x6 : Int32) (M : cz_M) (H : Heap) (locs : List Loc) (ls : Array Slot), cz_it2 (f_X5_goesThrough_L169 a0 x1 x3 x5 K) n x6 M = some M9 → cz_WS g b M s H locs → lv_has ls 9 [(0, .ref a0), (1, .int x1), (3, .int x3), (5, .int x5), (6, .int x6)] → W p l e R s m args below meth c H locs 0 0 (MQ below (cz_Q g b none M9) args s 0 0 (fun q => b ≤ q)) (F0 m 169 ls []) := by
  obtain ⟨hx, hb, -, ho, ht, -⟩ := id X
  intro n
  induction n with
  | zero => intro x6 M H locs ls h; cases (show none = some _ from h)
  | succ n ih =>
    intro x6 M H locs ls h hM hl
    have h : f_X5_goesThrough_L169 a0 x1 x3 x5 K (cz_it2 (f_X5_goesThrough_L169 a0 x1 x3 x5 K) n) x6 M = some M9 := h
    rw [f_X5_goesThrough_L169] at h
    refine lv_iload hx hb dX5_goesThrough_169 (lv_at hl 4 rfl) ?_
    refine lv_iload_n hx hb dX5_goesThrough_171 rfl (lv_at hl 2 rfl) ?_
    refine lv_icmp_ge (tgt := 210) hx hb dX5_goesThrough_172 (by decide) (fun c61 => ?_) (fun c61 => ?_)
    · have h := cz_ite_t c61 h
      exact hX _ _ _ _ _ h hM (lv_sub hl [0, 1, 2, 3, 4] rfl)
    · have h := cz_ite_f c61 h
      refine lv_aload_n hx hb dX5_goesThrough_175 rfl (lv_at hl 0 rfl) ?_
      refine cz_getR X hM ff_X5_0 ka0 lk_X5_7 dX5_goesThrough_176 (fun hk62 => ?_)
      refine lv_iload_n hx hb dX5_goesThrough_179 rfl (lv_at hl 1 rfl) ?_
      refine lv_iload hx hb dX5_goesThrough_180 (lv_at hl 4 rfl) ?_
      obtain ⟨v63, hq, h⟩ := cz_bd_t h
      refine cz_runS (rest := [.ref (a0 + 1)]) (As := [.int x1, .int x6]) X hM hl.1 (c_X5_inRow (l := l) (g := g) (b := b)  hq) mv_X5_inRow ml_X5_69 ⟨Nat.le_trans (Nat.le_of_ble_eq_true rfl) hRf, Nat.le_trans (Nat.le_of_ble_eq_true rfl) hRl⟩ rfl rfl (Nat.le_of_ble_eq_true rfl) dX5_goesThrough_182 (fun H locs hM => ?_)
      refine lv_iload hx hb dX5_goesThrough_185 (lv_at hl 4 rfl) ?_
      refine lv_iload hx hb dX5_goesThrough_187 (lv_at hl 3 rfl) ?_
      refine lv_icmp_ge (tgt := 202) hx hb dX5_goesThrough_189 (by decide) (fun c64 => ?_) (fun c64 => ?_)
      · have h := cz_ite_t c64 h
        refine lv_iconst (v := nI 0) hx hb dX5_goesThrough_202 (by decide) ?_
        refine cz_iast (n := 551) X hM h hk62 (by decide) dX5_goesThrough_203 (fun M65 H locs h hM => ?_)
        refine cz_nmL (v := x6 + nI 1) h (fun v66 e67 h => ?_)
        refine lv_iinc (v := v66) (lv' := [(6, .int v66), (0, .ref a0), (1, .int x1), (3, .int x3), (5, .int x5)]) hx hb dX5_goesThrough_204 hl (k := 4) rfl (by rw [e67]; rfl) (by decide) rfl (fun ls hl => ?_)
        refine lv_goto (tgt := 169) hx hb dX5_goesThrough_207 (by decide) ?_
        exact ih _ _ _ _ _ h hM (lv_sub hl [1, 2, 3, 4, 0] rfl)
      · have h := cz_ite_f c64 h
        refine lv_aload_n hx hb dX5_goesThrough_192 rfl (lv_at hl 0 rfl) ?_
        refine cz_getR X hM ff_X5_10 ka0 lk_X5_35 dX5_goesThrough_193 (fun hk68 => ?_)
        refine lv_iload hx hb dX5_goesThrough_196 (lv_at hl 4 rfl) ?_
        refine cz_iald (n := 40) X hM h hk68 (by decide) dX5_goesThrough_198 (fun h => ?_)
        refine lv_goto (tgt := 203) hx hb dX5_goesThrough_199 (by decide) ?_
        refine cz_iast (n := 551) X hM h hk62 (by decide) dX5_goesThrough_203 (fun M69 H locs h hM => ?_)
        refine cz_nmL (v := x6 + nI 1) h (fun v70 e71 h => ?_)
        refine lv_iinc (v := v70) (lv' := [(6, .int v70), (0, .ref a0), (1, .int x1), (3, .int x3), (5, .int x5)]) hx hb dX5_goesThrough_204 hl (k := 4) rfl (by rw [e71]; rfl) (by decide) rfl (fun ls hl => ?_)
        refine lv_goto (tgt := 169) hx hb dX5_goesThrough_207 (by decide) ?_
        exact ih _ _ _ _ _ h hM (lv_sub hl [1, 2, 3, 4, 0] rfl)
set_option maxHeartbeats 4000000 in
set_option maxRecDepth 100000 in
theorem c_X5_goesThrough {l : Launch} {g : cz_G} {b : Nat} {M : cz_M} {M9 : cz_M} {a : Nat} {x1 : Int32} (ka : cz_K b a 5) (h : f_X5_goesThrough M a x1 = some M9) : cz_C l yX5_goesThrough cX5_goesThrough 9 none 5 114 g b [.ref a, .int x1] M none M9 := by
  refine cz_start (by decide) (Nat.le_of_ble_eq_true rfl) (fun p e s m args below meth c X H ls hM hl => ?_)
  have X : cz_X p s m args meth c cX5_goesThrough 9 RX5 g b none := X
  obtain ⟨hx, hb, -, ho, ht, -⟩ := id X
  have hRf : 5 ≤ ({ frames := 5, cells := 0, slots := 0, locals := 114 } : Room).frames := Nat.le_refl _
  have hRl : 114 ≤ ({ frames := 5, cells := 0, slots := 0, locals := 114 } : Room).locals := Nat.le_refl _
  have hl : lv_has ls 9 [(0, .ref a), (1, .int x1)] := hl
  rw [f_X5_goesThrough] at h
  refine lv_aload_n hx hb dX5_goesThrough_0 rfl (lv_at hl 0 rfl) ?_
  refine lv_iload_n hx hb dX5_goesThrough_1 rfl (lv_at hl 1 rfl) ?_
  obtain ⟨v1, hq, h⟩ := cz_bd_t h
  refine cz_runV (rest := []) (As := [.int x1]) (T := TX5) (N0 := 12) X hM hl.1 (c_X5_shiftNow (l := l) (g := g) (b := b) ka hq) mv_X5_shiftNow rfl (by decide) ka ml_X5_66 ⟨Nat.le_trans (Nat.le_of_ble_eq_true rfl) hRf, Nat.le_trans (Nat.le_of_ble_eq_true rfl) hRl⟩ rfl rfl (Nat.le_of_ble_eq_true rfl) dX5_goesThrough_2 (fun H locs hM => ?_)
  refine lv_istore_n (lv' := [(2, .int v1), (0, .ref a), (1, .int x1)]) hx hb dX5_goesThrough_5 rfl hl (by decide) rfl (fun ls hl => ?_)
  refine lv_aload_n hx hb dX5_goesThrough_6 rfl (lv_at hl 1 rfl) ?_
  refine cz_getR X hM ff_X5_0 ka lk_X5_7 dX5_goesThrough_7 (fun hk2 => ?_)
  refine lv_bipush (v := nI 29) hx hb dX5_goesThrough_10 (by decide) ?_
  refine lv_iload_n hx hb dX5_goesThrough_12 rfl (lv_at hl 2 rfl) ?_
  refine lv_iadd hx hb dX5_goesThrough_13 ?_
  refine cz_iald (n := 551) X hM h hk2 (by decide) dX5_goesThrough_14 (fun h => ?_)
  refine cz_nmi h (fun v3 h => ?_)
  refine lv_istore_n (lv' := [(3, .int v3), (2, .int v1), (0, .ref a), (1, .int x1)]) hx hb dX5_goesThrough_15 rfl hl (by decide) rfl (fun ls hl => ?_)
  refine lv_iconst (v := nI 0) hx hb dX5_goesThrough_16 (by decide) ?_
  refine lv_istore (lv' := [(4, .int (nI 0)), (3, .int v3), (2, .int v1), (0, .ref a), (1, .int x1)]) hx hb dX5_goesThrough_17 hl (by decide) rfl (fun ls hl => ?_)
  refine lv_iconst (v := nI 0) hx hb dX5_goesThrough_19 (by decide) ?_
  refine lv_istore (lv' := [(5, .int (nI 0)), (4, .int (nI 0)), (3, .int v3), (2, .int v1), (0, .ref a), (1, .int x1)]) hx hb dX5_goesThrough_20 hl (by decide) rfl (fun ls hl => ?_)
  refine w_X5_goesThrough_L22 X hRf hRl ka _ (fun x21 x22 M23 H locs ls h hM hl => ?_) _ _ _ _ _ _ _ h hM (lv_sub hl [4, 5, 3, 2, 1, 0] rfl)
  refine lv_iconst (v := nI 0) hx hb dX5_goesThrough_77 (by decide) ?_
  refine lv_istore (lv' := [(5, .int (nI 0)), (0, .ref a), (1, .int x1), (2, .int v1), (3, .int v3), (4, .int x21)]) hx hb dX5_goesThrough_78 hl (by decide) rfl (fun ls hl => ?_)
  refine lv_iconst (v := nI 0) hx hb dX5_goesThrough_80 (by decide) ?_
  refine lv_istore (lv' := [(6, .int (nI 0)), (5, .int (nI 0)), (0, .ref a), (1, .int x1), (2, .int v1), (3, .int v3), (4, .int x21)]) hx hb dX5_goesThrough_81 hl (by decide) rfl (fun ls hl => ?_)
  refine w_X5_goesThrough_L83 X hRf hRl ka _ (fun x58 x59 M60 H locs ls h hM hl => ?_) _ _ _ _ _ _ _ h hM (lv_sub hl [2, 3, 5, 1, 0] rfl)
  refine lv_iconst (v := nI 0) hx hb dX5_goesThrough_166 (by decide) ?_
  refine lv_istore (lv' := [(6, .int (nI 0)), (0, .ref a), (1, .int x1), (3, .int v3), (5, .int x58)]) hx hb dX5_goesThrough_167 hl (by decide) rfl (fun ls hl => ?_)
  refine w_X5_goesThrough_L169 X hRf hRl ka _ (fun x72 M73 H locs ls h hM hl => ?_) _ _ _ _ _ _ h hM (lv_sub hl [1, 2, 3, 4, 0] rfl)
  refine lv_aload_n hx hb dX5_goesThrough_210 rfl (lv_at hl 0 rfl) ?_
  refine cz_getR X hM ff_X5_0 ka lk_X5_7 dX5_goesThrough_211 (fun hk74 => ?_)
  refine lv_bipush (v := nI 29) hx hb dX5_goesThrough_214 (by decide) ?_
  refine lv_iload_n hx hb dX5_goesThrough_216 rfl (lv_at hl 1 rfl) ?_
  refine lv_iadd hx hb dX5_goesThrough_217 ?_
  refine lv_iload hx hb dX5_goesThrough_218 (lv_at hl 3 rfl) ?_
  refine cz_iast (n := 551) X hM h hk74 (by decide) dX5_goesThrough_220 (fun M75 H locs h hM => ?_)
  exact cz_retv X hM h dX5_goesThrough_221
theorem mv_X5_week : cz_MV yX5_week cX5_week 3 (some .int) RX5 0 := ⟨mi_X5_week, ms_X5_week, mc_X5_week, ini_X5, by decide +kernel⟩
set_option maxHeartbeats 4000000 in
set_option maxRecDepth 100000 in
theorem w_X5_week_L2 {p : Program} {l : Launch} {e : Env} {R : Room} {s : State} {m : MethodId} {args : Array Value} {below : List Frame} {meth : Method} {c : Code} {g : cz_G} {b : Nat} (X : cz_X p s m args meth c cX5_week 3 RX5 g b (some .int)) (hRf : 6 ≤ R.frames) (hRl : 142 ≤ R.locals) {r0 : Int32} {M9 : cz_M} {a0 : Nat} (ka0 : cz_K b a0 5)
    (K : Int32 → cz_M → Option (Int32 × cz_M)) (hX : ∀ (x1 : Int32) (M : cz_M) (H : Heap) (locs : List Loc) (ls : Array Slot), K x1 M = some (r0, M9) → cz_WS g b M s H locs → lv_has ls 3 [(0, .ref a0), (1, .int x1)] → W p l e R s m args below meth c H locs 0 0 (MQ below (cz_Q g b (some (.int r0)) M9) args s 0 0 (fun q => b ≤ q)) (F0 m 45 ls [])) :
    ∀ (n : Nat) (x1 : Int32) (M : cz_M) (H : Heap) (locs : List Loc) (ls : Array Slot), cz_it2 (f_X5_week_L2 a0 K) n x1 M = some (r0, M9) → cz_WS g b M s H locs → lv_has ls 3 [(0, .ref a0), (1, .int x1)] → W p l e R s m args below meth c H locs 0 0 (MQ below (cz_Q g b (some (.int r0)) M9) args s 0 0 (fun q => b ≤ q)) (F0 m 2 ls []) := by
  obtain ⟨hx, hb, -, ho, ht, -⟩ := id X
  intro n
  induction n with
  | zero => intro x1 M H locs ls h; cases (show none = some _ from h)
  | succ n ih =>
    intro x1 M H locs ls h hM hl
    have h : f_X5_week_L2 a0 K (cz_it2 (f_X5_week_L2 a0 K) n) x1 M = some (r0, M9) := h
    rw [f_X5_week_L2] at h
    refine lv_iload_n hx hb dX5_week_2 rfl (lv_at hl 1 rfl) ?_
    refine lv_aload_n hx hb dX5_week_3 rfl (lv_at hl 0 rfl) ?_
    refine cz_getR X hM ff_X5_0 ka0 lk_X5_7 dX5_week_4 (fun hk1 => ?_)
    refine lv_iconst (v := nI 4) hx hb dX5_week_7 (by decide) ?_
    refine cz_iald (n := 551) X hM h hk1 (by decide) dX5_week_8 (fun h => ?_)
    refine lv_icmp_ge (tgt := 45) hx hb dX5_week_9 (by decide) (fun c2 => ?_) (fun c2 => ?_)
    · have h := cz_ite_t c2 h
      exact hX _ _ _ _ _ h hM (lv_sub hl [0, 1] rfl)
    · have h := cz_ite_f c2 h
      refine lv_aload_n hx hb dX5_week_12 rfl (lv_at hl 0 rfl) ?_
      refine cz_getR X hM ff_X5_8 ka0 lk_X5_29 dX5_week_13 (fun hk3 => ?_)
      refine lv_iload_n hx hb dX5_week_16 rfl (lv_at hl 1 rfl) ?_
      refine lv_aload_n hx hb dX5_week_17 rfl (lv_at hl 0 rfl) ?_
      refine lv_iload_n hx hb dX5_week_18 rfl (lv_at hl 1 rfl) ?_
      refine lv_iconst (v := nI 2) hx hb dX5_week_19 (by decide) ?_
      obtain ⟨v4, hq, h⟩ := cz_bd_t h
      refine cz_runV (rest := [.int x1, .ref (a0 + 7)]) (As := [.int x1, .int (nI 2)]) (T := TX5) (N0 := 12) X hM hl.1 (c_X5_of (l := l) (g := g) (b := b) ka0 hq) mv_X5_of rfl (by decide) ka0 ml_X5_50 ⟨Nat.le_trans (Nat.le_of_ble_eq_true rfl) hRf, Nat.le_trans (Nat.le_of_ble_eq_true rfl) hRl⟩ rfl rfl (Nat.le_of_ble_eq_true rfl) dX5_week_20 (fun H locs hM => ?_)
      refine lv_if_ne (tgt := 30) hx hb dX5_week_23 (by decide) (fun c5 => ?_) (fun c5 => ?_)
      · have h := cz_ite_f c5 h
        refine lv_iconst (v := nI 0) hx hb dX5_week_30 (by decide) ?_
        refine cz_zast (n := 40) X hM h hk3 dX5_week_31 (fun M6 H locs h hM => ?_)
        refine lv_aload_n hx hb dX5_week_32 rfl (lv_at hl 0 rfl) ?_
        refine cz_getR X hM ff_X5_9 ka0 lk_X5_32 dX5_week_33 (fun hk7 => ?_)
        refine lv_iload_n hx hb dX5_week_36 rfl (lv_at hl 1 rfl) ?_
        refine lv_iconst (v := nI 0) hx hb dX5_week_37 (by decide) ?_
        refine cz_zast (n := 40) X hM h hk7 dX5_week_38 (fun M8 H locs h hM => ?_)
        refine cz_nmL (v := x1 + nI 1) h (fun v9 e10 h => ?_)
        refine lv_iinc (v := v9) (lv' := [(1, .int v9), (0, .ref a0)]) hx hb dX5_week_39 hl (k := 1) rfl (by rw [e10]; rfl) (by decide) rfl (fun ls hl => ?_)
        refine lv_goto (tgt := 2) hx hb dX5_week_42 (by decide) ?_
        exact ih _ _ _ _ _ h hM (lv_sub hl [1, 0] rfl)
      · have h := cz_ite_t c5 h
        refine lv_iconst (v := nI 1) hx hb dX5_week_26 (by decide) ?_
        refine lv_goto (tgt := 31) hx hb dX5_week_27 (by decide) ?_
        refine cz_zast (n := 40) X hM h hk3 dX5_week_31 (fun M11 H locs h hM => ?_)
        refine lv_aload_n hx hb dX5_week_32 rfl (lv_at hl 0 rfl) ?_
        refine cz_getR X hM ff_X5_9 ka0 lk_X5_32 dX5_week_33 (fun hk12 => ?_)
        refine lv_iload_n hx hb dX5_week_36 rfl (lv_at hl 1 rfl) ?_
        refine lv_iconst (v := nI 0) hx hb dX5_week_37 (by decide) ?_
        refine cz_zast (n := 40) X hM h hk12 dX5_week_38 (fun M13 H locs h hM => ?_)
        refine cz_nmL (v := x1 + nI 1) h (fun v14 e15 h => ?_)
        refine lv_iinc (v := v14) (lv' := [(1, .int v14), (0, .ref a0)]) hx hb dX5_week_39 hl (k := 1) rfl (by rw [e15]; rfl) (by decide) rfl (fun ls hl => ?_)
        refine lv_goto (tgt := 2) hx hb dX5_week_42 (by decide) ?_
        exact ih _ _ _ _ _ h hM (lv_sub hl [1, 0] rfl)
set_option maxHeartbeats 4000000 in
set_option maxRecDepth 100000 in
theorem w_X5_week_L69 {p : Program} {l : Launch} {e : Env} {R : Room} {s : State} {m : MethodId} {args : Array Value} {below : List Frame} {meth : Method} {c : Code} {g : cz_G} {b : Nat} (X : cz_X p s m args meth c cX5_week 3 RX5 g b (some .int)) (hRf : 6 ≤ R.frames) (hRl : 142 ≤ R.locals) {r0 : Int32} {M9 : cz_M} {a0 : Nat} (ka0 : cz_K b a0 5)
    (K : Int32 → Int32 → cz_M → Option (Int32 × cz_M)) (hX : ∀ (x1 : Int32) (x2 : Int32) (M : cz_M) (H : Heap) (locs : List Loc) (ls : Array Slot), K x1 x2 M = some (r0, M9) → cz_WS g b M s H locs → lv_has ls 3 [(0, .ref a0), (1, .int x1), (2, .int x2)] → W p l e R s m args below meth c H locs 0 0 (MQ below (cz_Q g b (some (.int r0)) M9) args s 0 0 (fun q => b ≤ q)) (F0 m 132 ls [])) :
    ∀ (n : Nat) (x1 : Int32) (x2 : Int32) (M : cz_M) (H : Heap) (locs : List Loc) (ls : Array Slot), cz_it3 (f_X5_week_L69 a0 K) n x1 x2 M = some (r0, M9) → cz_WS g b M s H locs → lv_has ls 3 [(0, .ref a0), (1, .int x1), (2, .int x2)] → W p l e R s m args below meth c H locs 0 0 (MQ below (cz_Q g b (some (.int r0)) M9) args s 0 0 (fun q => b ≤ q)) (F0 m 69 ls []) := by
  obtain ⟨hx, hb, -, ho, ht, -⟩ := id X
  intro n
  induction n with
  | zero => intro x1 x2 M H locs ls h; cases (show none = some _ from h)
  | succ n ih =>
    intro x1 x2 M H locs ls h hM hl
    have h : f_X5_week_L69 a0 K (cz_it3 (f_X5_week_L69 a0 K) n) x1 x2 M = some (r0, M9) := h
    rw [f_X5_week_L69] at h
    refine lv_iload_n hx hb dX5_week_69 rfl (lv_at hl 2 rfl) ?_
    refine lv_aload_n hx hb dX5_week_70 rfl (lv_at hl 0 rfl) ?_
    refine cz_getR X hM ff_X5_0 ka0 lk_X5_7 dX5_week_71 (fun hk22 => ?_)
    refine lv_iconst (v := nI 4) hx hb dX5_week_74 (by decide) ?_
    refine cz_iald (n := 551) X hM h hk22 (by decide) dX5_week_75 (fun h => ?_)
    refine lv_icmp_ge (tgt := 132) hx hb dX5_week_76 (by decide) (fun c23 => ?_) (fun c23 => ?_)
    · have h := cz_ite_t c23 h
      exact hX _ _ _ _ _ _ h hM (lv_sub hl [0, 1, 2] rfl)
    · have h := cz_ite_f c23 h
      refine lv_aload_n hx hb dX5_week_79 rfl (lv_at hl 0 rfl) ?_
      refine lv_iload_n hx hb dX5_week_80 rfl (lv_at hl 2 rfl) ?_
      refine lv_iconst (v := nI 2) hx hb dX5_week_81 (by decide) ?_
      obtain ⟨v24, hq, h⟩ := cz_bd_t h
      refine cz_runV (rest := []) (As := [.int x2, .int (nI 2)]) (T := TX5) (N0 := 12) X hM hl.1 (c_X5_of (l := l) (g := g) (b := b) ka0 hq) mv_X5_of rfl (by decide) ka0 ml_X5_50 ⟨Nat.le_trans (Nat.le_of_ble_eq_true rfl) hRf, Nat.le_trans (Nat.le_of_ble_eq_true rfl) hRl⟩ rfl rfl (Nat.le_of_ble_eq_true rfl) dX5_week_82 (fun H locs hM => ?_)
      refine lv_iconst (v := nI 3) hx hb dX5_week_85 (by decide) ?_
      refine lv_icmp_ne (tgt := 126) hx hb dX5_week_86 (by decide) (fun c25 => ?_) (fun c25 => ?_)
      · have h := cz_ite_f c25 h
        refine cz_nmL (v := x2 + nI 1) h (fun v26 e27 h => ?_)
        refine lv_iinc (v := v26) (lv' := [(2, .int v26), (0, .ref a0), (1, .int x1)]) hx hb dX5_week_126 hl (k := 2) rfl (by rw [e27]; rfl) (by decide) rfl (fun ls hl => ?_)
        refine lv_goto (tgt := 69) hx hb dX5_week_129 (by decide) ?_
        exact ih _ _ _ _ _ _ h hM (lv_sub hl [1, 2, 0] rfl)
      · have h := cz_ite_t c25 h
        refine lv_aload_n hx hb dX5_week_89 rfl (lv_at hl 0 rfl) ?_
        refine cz_getR X hM ff_X5_0 ka0 lk_X5_7 dX5_week_90 (fun hk28 => ?_)
        refine lv_iload_n hx hb dX5_week_93 rfl (lv_at hl 2 rfl) ?_
        refine lv_iconst (v := nI 2) hx hb dX5_week_94 (by decide) ?_
        obtain ⟨v29, hq, h⟩ := cz_bd_t h
        refine cz_runS (rest := [.ref (a0 + 1)]) (As := [.int x2, .int (nI 2)]) X hM hl.1 (c_X5_at (l := l) (g := g) (b := b)  hq) mv_X5_at ml_X5_42 ⟨Nat.le_trans (Nat.le_of_ble_eq_true rfl) hRf, Nat.le_trans (Nat.le_of_ble_eq_true rfl) hRl⟩ rfl rfl (Nat.le_of_ble_eq_true rfl) dX5_week_95 (fun H locs hM => ?_)
        refine lv_iconst (v := nI 1) hx hb dX5_week_98 (by decide) ?_
        refine cz_iast (n := 551) X hM h hk28 (by decide) dX5_week_99 (fun M30 H locs h hM => ?_)
        refine lv_aload_n hx hb dX5_week_100 rfl (lv_at hl 0 rfl) ?_
        refine cz_getR X hM ff_X5_0 ka0 lk_X5_7 dX5_week_101 (fun hk31 => ?_)
        refine lv_iload_n hx hb dX5_week_104 rfl (lv_at hl 2 rfl) ?_
        refine lv_iconst (v := nI 4) hx hb dX5_week_105 (by decide) ?_
        obtain ⟨v32, hq, h⟩ := cz_bd_t h
        refine cz_runS (rest := [.ref (a0 + 1)]) (As := [.int x2, .int (nI 4)]) X hM hl.1 (c_X5_at (l := l) (g := g) (b := b)  hq) mv_X5_at ml_X5_42 ⟨Nat.le_trans (Nat.le_of_ble_eq_true rfl) hRf, Nat.le_trans (Nat.le_of_ble_eq_true rfl) hRl⟩ rfl rfl (Nat.le_of_ble_eq_true rfl) dX5_week_106 (fun H locs hM => ?_)
        refine lv_aload_n hx hb dX5_week_109 rfl (lv_at hl 0 rfl) ?_
        refine cz_getR X hM ff_X5_0 ka0 lk_X5_7 dX5_week_110 (fun hk33 => ?_)
        refine lv_iconst (v := nI 3) hx hb dX5_week_113 (by decide) ?_
        refine cz_iald (n := 551) X hM h hk33 (by decide) dX5_week_114 (fun h => ?_)
        refine lv_aload_n hx hb dX5_week_115 rfl (lv_at hl 0 rfl) ?_
        refine lv_iload_n hx hb dX5_week_116 rfl (lv_at hl 2 rfl) ?_
        refine lv_iconst (v := nI 3) hx hb dX5_week_117 (by decide) ?_
        obtain ⟨v34, hq, h⟩ := cz_bd_t h
        refine cz_runV (rest := [.int (M30.1 (a0 + 1) (Int32.toNatClampNeg (nI 3))), .int v32, .ref (a0 + 1)]) (As := [.int x2, .int (nI 3)]) (T := TX5) (N0 := 12) X hM hl.1 (c_X5_of (l := l) (g := g) (b := b) ka0 hq) mv_X5_of rfl (by decide) ka0 ml_X5_50 ⟨Nat.le_trans (Nat.le_of_ble_eq_true rfl) hRf, Nat.le_trans (Nat.le_of_ble_eq_true rfl) hRl⟩ rfl rfl (Nat.le_of_ble_eq_true rfl) dX5_week_118 (fun H locs hM => ?_)
        refine lv_isub hx hb dX5_week_121 ?_
        refine cz_iast (n := 551) X hM h hk31 (by decide) dX5_week_122 (fun M35 H locs h hM => ?_)
        refine cz_nmL (v := x1 + nI 1) h (fun v36 e37 h => ?_)
        refine lv_iinc (v := v36) (lv' := [(1, .int v36), (0, .ref a0), (2, .int x2)]) hx hb dX5_week_123 hl (k := 1) rfl (by rw [e37]; rfl) (by decide) rfl (fun ls hl => ?_)
        refine cz_nmL (v := x2 + nI 1) h (fun v38 e39 h => ?_)
        refine lv_iinc (v := v38) (lv' := [(2, .int v38), (1, .int v36), (0, .ref a0)]) hx hb dX5_week_126 hl (k := 2) rfl (by rw [e39]; rfl) (by decide) rfl (fun ls hl => ?_)
        refine lv_goto (tgt := 69) hx hb dX5_week_129 (by decide) ?_
        exact ih _ _ _ _ _ _ h hM (lv_sub hl [2, 1, 0] rfl)
set_option maxHeartbeats 4000000 in
set_option maxRecDepth 100000 in
theorem c_X5_week {l : Launch} {g : cz_G} {b : Nat} {M : cz_M} {r0 : Int32} {M9 : cz_M} {a : Nat} (ka : cz_K b a 5) (h : f_X5_week M a = some (r0, M9)) : cz_C l yX5_week cX5_week 3 (some .int) 6 142 g b [.ref a] M (some (.int r0)) M9 := by
  refine cz_start (by decide) (Nat.le_of_ble_eq_true rfl) (fun p e s m args below meth c X H ls hM hl => ?_)
  have X : cz_X p s m args meth c cX5_week 3 RX5 g b (some .int) := X
  obtain ⟨hx, hb, -, ho, ht, -⟩ := id X
  have hRf : 6 ≤ ({ frames := 6, cells := 0, slots := 0, locals := 142 } : Room).frames := Nat.le_refl _
  have hRl : 142 ≤ ({ frames := 6, cells := 0, slots := 0, locals := 142 } : Room).locals := Nat.le_refl _
  have hl : lv_has ls 3 [(0, .ref a)] := hl
  rw [f_X5_week] at h
  refine lv_iconst (v := nI 0) hx hb dX5_week_0 (by decide) ?_
  refine lv_istore_n (lv' := [(1, .int (nI 0)), (0, .ref a)]) hx hb dX5_week_1 rfl hl (by decide) rfl (fun ls hl => ?_)
  refine w_X5_week_L2 X hRf hRl ka _ (fun x16 M17 H locs ls h hM hl => ?_) _ _ _ _ _ _ h hM (lv_sub hl [1, 0] rfl)
  refine lv_aload_n hx hb dX5_week_45 rfl (lv_at hl 0 rfl) ?_
  refine lv_iconst (v := nI 0) hx hb dX5_week_46 (by decide) ?_
  obtain ⟨M18, hq, h⟩ := cz_bd_t h
  refine cz_runV (rest := []) (As := [.int (nI 0)]) (T := TX5) (N0 := 12) X hM hl.1 (c_X5_goesThrough (l := l) (g := g) (b := b) ka hq) mv_X5_goesThrough rfl (by decide) ka ml_X5_80 ⟨Nat.le_trans (Nat.le_of_ble_eq_true rfl) hRf, Nat.le_trans (Nat.le_of_ble_eq_true rfl) hRl⟩ rfl rfl (Nat.le_of_ble_eq_true rfl) dX5_week_47 (fun H locs hM => ?_)
  refine lv_aload_n hx hb dX5_week_50 rfl (lv_at hl 0 rfl) ?_
  refine lv_iconst (v := nI 1) hx hb dX5_week_51 (by decide) ?_
  obtain ⟨M19, hq, h⟩ := cz_bd_t h
  refine cz_runV (rest := []) (As := [.int (nI 1)]) (T := TX5) (N0 := 12) X hM hl.1 (c_X5_goesThrough (l := l) (g := g) (b := b) ka hq) mv_X5_goesThrough rfl (by decide) ka ml_X5_80 ⟨Nat.le_trans (Nat.le_of_ble_eq_true rfl) hRf, Nat.le_trans (Nat.le_of_ble_eq_true rfl) hRl⟩ rfl rfl (Nat.le_of_ble_eq_true rfl) dX5_week_52 (fun H locs hM => ?_)
  refine lv_aload_n hx hb dX5_week_55 rfl (lv_at hl 0 rfl) ?_
  refine cz_getR X hM ff_X5_0 ka lk_X5_7 dX5_week_56 (fun hk20 => ?_)
  refine lv_iconst (v := nI 3) hx hb dX5_week_59 (by decide) ?_
  refine lv_dup2_11 hx hb dX5_week_60 rfl rfl ?_
  refine cz_iald (n := 551) X hM h hk20 (by decide) dX5_week_61 (fun h => ?_)
  refine lv_iconst (v := nI 1) hx hb dX5_week_62 (by decide) ?_
  refine lv_iadd hx hb dX5_week_63 ?_
  refine cz_iast (n := 551) X hM h hk20 (by decide) dX5_week_64 (fun M21 H locs h hM => ?_)
  refine lv_iconst (v := nI 0) hx hb dX5_week_65 (by decide) ?_
  refine lv_istore_n (lv' := [(1, .int (nI 0)), (0, .ref a)]) hx hb dX5_week_66 rfl hl (by decide) rfl (fun ls hl => ?_)
  refine lv_iconst (v := nI 0) hx hb dX5_week_67 (by decide) ?_
  refine lv_istore_n (lv' := [(2, .int (nI 0)), (1, .int (nI 0)), (0, .ref a)]) hx hb dX5_week_68 rfl hl (by decide) rfl (fun ls hl => ?_)
  refine w_X5_week_L69 X hRf hRl ka _ (fun x40 x41 M42 H locs ls h hM hl => ?_) _ _ _ _ _ _ _ h hM (lv_sub hl [2, 1, 0] rfl)
  refine lv_iload_n hx hb dX5_week_132 rfl (lv_at hl 1 rfl) ?_
  exact cz_reti X hM h rfl dX5_week_133
theorem mv_X5_passes : cz_MV yX5_passes cX5_passes 4 (some .int) RX5 1 := ⟨mi_X5_passes, ms_X5_passes, mc_X5_passes, ini_X5, by decide +kernel⟩
set_option maxHeartbeats 4000000 in
set_option maxRecDepth 100000 in
theorem w_X5_passes_L4 {p : Program} {l : Launch} {e : Env} {R : Room} {s : State} {m : MethodId} {args : Array Value} {below : List Frame} {meth : Method} {c : Code} {g : cz_G} {b : Nat} (X : cz_X p s m args meth c cX5_passes 4 RX5 g b (some .int)) (hRf : 7 ≤ R.frames) (hRl : 164 ≤ R.locals) {r0 : Int32} {M9 : cz_M} {a0 : Nat} {x1 : Int32} (ka0 : cz_K b a0 5)
    (K : Int32 → Int32 → cz_M → Option (Int32 × cz_M)) (hX : ∀ (x2 : Int32) (x3 : Int32) (M : cz_M) (H : Heap) (locs : List Loc) (ls : Array Slot), K x2 x3 M = some (r0, M9) → cz_WS g b M s H locs → lv_has ls 4 [(0, .ref a0), (1, .int x1), (2, .int x2), (3, .int x3)] → W p l e R s m args below meth c H locs 0 0 (MQ below (cz_Q g b (some (.int r0)) M9) args s 0 0 (fun q => b ≤ q)) (F0 m 22 ls [])) :
    ∀ (n : Nat) (x2 : Int32) (x3 : Int32) (M : cz_M) (H : Heap) (locs : List Loc) (ls : Array Slot), cz_it3 (f_X5_passes_L4 a0 x1 K) n x2 x3 M = some (r0, M9) → cz_WS g b M s H locs → lv_has ls 4 [(0, .ref a0), (1, .int x1), (2, .int x2), (3, .int x3)] → W p l e R s m args below meth c H locs 0 0 (MQ below (cz_Q g b (some (.int r0)) M9) args s 0 0 (fun q => b ≤ q)) (F0 m 4 ls []) := by
  obtain ⟨hx, hb, -, ho, ht, -⟩ := id X
  intro n
  induction n with
  | zero => intro x2 x3 M H locs ls h; cases (show none = some _ from h)
  | succ n ih =>
    intro x2 x3 M H locs ls h hM hl
    have h : f_X5_passes_L4 a0 x1 K (cz_it3 (f_X5_passes_L4 a0 x1 K) n) x2 x3 M = some (r0, M9) := h
    rw [f_X5_passes_L4] at h
    refine lv_iload_n hx hb dX5_passes_4 rfl (lv_at hl 3 rfl) ?_
    refine lv_iload_n hx hb dX5_passes_5 rfl (lv_at hl 1 rfl) ?_
    refine lv_icmp_ge (tgt := 22) hx hb dX5_passes_6 (by decide) (fun c1 => ?_) (fun c1 => ?_)
    · have h := cz_ite_t c1 h
      exact hX _ _ _ _ _ _ h hM (lv_sub hl [0, 1, 2, 3] rfl)
    · have h := cz_ite_f c1 h
      refine lv_iload_n hx hb dX5_passes_9 rfl (lv_at hl 2 rfl) ?_
      refine lv_aload_n hx hb dX5_passes_10 rfl (lv_at hl 0 rfl) ?_
      obtain ⟨v3, M2, hq, h⟩ := cz_b2_t h
      refine cz_runV (rest := [.int x2]) (As := []) (T := TX5) (N0 := 12) X hM hl.1 (c_X5_week (l := l) (g := g) (b := b) ka0 hq) mv_X5_week rfl (by decide) ka0 ml_X5_84 ⟨Nat.le_trans (Nat.le_of_ble_eq_true rfl) hRf, Nat.le_trans (Nat.le_of_ble_eq_true rfl) hRl⟩ rfl rfl (Nat.le_of_ble_eq_true rfl) dX5_passes_11 (fun H locs hM => ?_)
      refine lv_iadd hx hb dX5_passes_14 ?_
      refine cz_nmi h (fun v4 h => ?_)
      refine lv_istore_n (lv' := [(2, .int v4), (0, .ref a0), (1, .int x1), (3, .int x3)]) hx hb dX5_passes_15 rfl hl (by decide) rfl (fun ls hl => ?_)
      refine cz_nmL (v := x3 + nI 1) h (fun v5 e6 h => ?_)
      refine lv_iinc (v := v5) (lv' := [(3, .int v5), (2, .int v4), (0, .ref a0), (1, .int x1)]) hx hb dX5_passes_16 hl (k := 3) rfl (by rw [e6]; rfl) (by decide) rfl (fun ls hl => ?_)
      refine lv_goto (tgt := 4) hx hb dX5_passes_19 (by decide) ?_
      exact ih _ _ _ _ _ _ h hM (lv_sub hl [2, 3, 1, 0] rfl)
set_option maxHeartbeats 4000000 in
set_option maxRecDepth 100000 in
theorem c_X5_passes {l : Launch} {g : cz_G} {b : Nat} {M : cz_M} {r0 : Int32} {M9 : cz_M} {a : Nat} {x1 : Int32} (ka : cz_K b a 5) (h : f_X5_passes M a x1 = some (r0, M9)) : cz_C l yX5_passes cX5_passes 4 (some .int) 7 164 g b [.ref a, .int x1] M (some (.int r0)) M9 := by
  refine cz_start (by decide) (Nat.le_of_ble_eq_true rfl) (fun p e s m args below meth c X H ls hM hl => ?_)
  have X : cz_X p s m args meth c cX5_passes 4 RX5 g b (some .int) := X
  obtain ⟨hx, hb, -, ho, ht, -⟩ := id X
  have hRf : 7 ≤ ({ frames := 7, cells := 0, slots := 0, locals := 164 } : Room).frames := Nat.le_refl _
  have hRl : 164 ≤ ({ frames := 7, cells := 0, slots := 0, locals := 164 } : Room).locals := Nat.le_refl _
  have hl : lv_has ls 4 [(0, .ref a), (1, .int x1)] := hl
  rw [f_X5_passes] at h
  refine lv_iconst (v := nI 0) hx hb dX5_passes_0 (by decide) ?_
  refine lv_istore_n (lv' := [(2, .int (nI 0)), (0, .ref a), (1, .int x1)]) hx hb dX5_passes_1 rfl hl (by decide) rfl (fun ls hl => ?_)
  refine lv_iconst (v := nI 0) hx hb dX5_passes_2 (by decide) ?_
  refine lv_istore_n (lv' := [(3, .int (nI 0)), (2, .int (nI 0)), (0, .ref a), (1, .int x1)]) hx hb dX5_passes_3 rfl hl (by decide) rfl (fun ls hl => ?_)
  refine w_X5_passes_L4 X hRf hRl ka _ (fun x7 x8 M9 H locs ls h hM hl => ?_) _ _ _ _ _ _ _ h hM (lv_sub hl [2, 3, 1, 0] rfl)
  refine lv_iload_n hx hb dX5_passes_22 rfl (lv_at hl 2 rfl) ?_
  exact cz_reti X hM h rfl dX5_passes_23
theorem mv_X5_many : cz_MV yX5_many cX5_many 4 (some .int) RX5 1 := ⟨mi_X5_many, ms_X5_many, mc_X5_many, ini_X5, by decide +kernel⟩
set_option maxHeartbeats 4000000 in
set_option maxRecDepth 100000 in
theorem w_X5_many_L4 {p : Program} {l : Launch} {e : Env} {R : Room} {s : State} {m : MethodId} {args : Array Value} {below : List Frame} {meth : Method} {c : Code} {g : cz_G} {b : Nat} (X : cz_X p s m args meth c cX5_many 4 RX5 g b (some .int)) (hRf : 2 ≤ R.frames) (hRl : 43 ≤ R.locals) {r0 : Int32} {a0 : Nat} {x1 : Int32} {M : cz_M} (ka0 : cz_K b a0 5)
    (K : Int32 → Int32 → Option (Int32)) (hX : ∀ (x2 : Int32) (x3 : Int32) (H : Heap) (locs : List Loc) (ls : Array Slot), K x2 x3 = some r0 → cz_WS g b M s H locs → lv_has ls 4 [(0, .ref a0), (1, .int x1), (2, .int x2), (3, .int x3)] → W p l e R s m args below meth c H locs 0 0 (MQ below (cz_Q g b (some (.int r0)) M) args s 0 0 (fun q => b ≤ q)) (F0 m 38 ls [])) :
    ∀ (n : Nat) (x2 : Int32) (x3 : Int32) (H : Heap) (locs : List Loc) (ls : Array Slot), cz_it2 (f_X5_many_L4 a0 x1 M K) n x2 x3 = some r0 → cz_WS g b M s H locs → lv_has ls 4 [(0, .ref a0), (1, .int x1), (2, .int x2), (3, .int x3)] → W p l e R s m args below meth c H locs 0 0 (MQ below (cz_Q g b (some (.int r0)) M) args s 0 0 (fun q => b ≤ q)) (F0 m 4 ls []) := by
  obtain ⟨hx, hb, -, ho, ht, -⟩ := id X
  intro n
  induction n with
  | zero => intro x2 x3 H locs ls h; cases (show none = some _ from h)
  | succ n ih =>
    intro x2 x3 H locs ls h hM hl
    have h : f_X5_many_L4 a0 x1 M K (cz_it2 (f_X5_many_L4 a0 x1 M K) n) x2 x3 = some r0 := h
    rw [f_X5_many_L4] at h
    refine lv_iload_n hx hb dX5_many_4 rfl (lv_at hl 3 rfl) ?_
    refine lv_aload_n hx hb dX5_many_5 rfl (lv_at hl 0 rfl) ?_
    refine cz_getR X hM ff_X5_0 ka0 lk_X5_7 dX5_many_6 (fun hk1 => ?_)
    refine lv_iconst (v := nI 4) hx hb dX5_many_9 (by decide) ?_
    refine cz_iald (n := 551) X hM h hk1 (by decide) dX5_many_10 (fun h => ?_)
    refine lv_icmp_ge (tgt := 38) hx hb dX5_many_11 (by decide) (fun c2 => ?_) (fun c2 => ?_)
    · have h := cz_ite_t c2 h
      exact hX _ _ _ _ _ h hM (lv_sub hl [0, 1, 2, 3] rfl)
    · have h := cz_ite_f c2 h
      refine lv_iload_n hx hb dX5_many_14 rfl (lv_at hl 2 rfl) ?_
      refine lv_aload_n hx hb dX5_many_15 rfl (lv_at hl 0 rfl) ?_
      refine lv_iload_n hx hb dX5_many_16 rfl (lv_at hl 3 rfl) ?_
      refine lv_iconst (v := nI 2) hx hb dX5_many_17 (by decide) ?_
      obtain ⟨v3, hq, h⟩ := cz_bd_t h
      refine cz_runV (rest := [.int x2]) (As := [.int x3, .int (nI 2)]) (T := TX5) (N0 := 12) X hM hl.1 (c_X5_of (l := l) (g := g) (b := b) ka0 hq) mv_X5_of rfl (by decide) ka0 ml_X5_50 ⟨Nat.le_trans (Nat.le_of_ble_eq_true rfl) hRf, Nat.le_trans (Nat.le_of_ble_eq_true rfl) hRl⟩ rfl rfl (Nat.le_of_ble_eq_true rfl) dX5_many_18 (fun H locs hM => ?_)
      refine lv_iload_n hx hb dX5_many_21 rfl (lv_at hl 1 rfl) ?_
      refine lv_icmp_ne (tgt := 29) hx hb dX5_many_22 (by decide) (fun c4 => ?_) (fun c4 => ?_)
      · have h := cz_ite_f c4 h
        refine lv_iconst (v := nI 0) hx hb dX5_many_29 (by decide) ?_
        refine lv_iadd hx hb dX5_many_30 ?_
        refine cz_nmi h (fun v5 h => ?_)
        refine lv_istore_n (lv' := [(2, .int v5), (0, .ref a0), (1, .int x1), (3, .int x3)]) hx hb dX5_many_31 rfl hl (by decide) rfl (fun ls hl => ?_)
        refine cz_nmL (v := x3 + nI 1) h (fun v6 e7 h => ?_)
        refine lv_iinc (v := v6) (lv' := [(3, .int v6), (2, .int v5), (0, .ref a0), (1, .int x1)]) hx hb dX5_many_32 hl (k := 3) rfl (by rw [e7]; rfl) (by decide) rfl (fun ls hl => ?_)
        refine lv_goto (tgt := 4) hx hb dX5_many_35 (by decide) ?_
        exact ih _ _ _ _ _ h hM (lv_sub hl [2, 3, 1, 0] rfl)
      · have h := cz_ite_t c4 h
        refine lv_iconst (v := nI 1) hx hb dX5_many_25 (by decide) ?_
        refine lv_goto (tgt := 30) hx hb dX5_many_26 (by decide) ?_
        refine lv_iadd hx hb dX5_many_30 ?_
        refine cz_nmi h (fun v8 h => ?_)
        refine lv_istore_n (lv' := [(2, .int v8), (0, .ref a0), (1, .int x1), (3, .int x3)]) hx hb dX5_many_31 rfl hl (by decide) rfl (fun ls hl => ?_)
        refine cz_nmL (v := x3 + nI 1) h (fun v9 e10 h => ?_)
        refine lv_iinc (v := v9) (lv' := [(3, .int v9), (2, .int v8), (0, .ref a0), (1, .int x1)]) hx hb dX5_many_32 hl (k := 3) rfl (by rw [e10]; rfl) (by decide) rfl (fun ls hl => ?_)
        refine lv_goto (tgt := 4) hx hb dX5_many_35 (by decide) ?_
        exact ih _ _ _ _ _ h hM (lv_sub hl [2, 3, 1, 0] rfl)
set_option maxHeartbeats 4000000 in
set_option maxRecDepth 100000 in
theorem c_X5_many {l : Launch} {g : cz_G} {b : Nat} {M : cz_M} {r0 : Int32} {a : Nat} {x1 : Int32} (ka : cz_K b a 5) (h : f_X5_many M a x1 = some r0) : cz_C l yX5_many cX5_many 4 (some .int) 2 43 g b [.ref a, .int x1] M (some (.int r0)) M := by
  refine cz_start (by decide) (Nat.le_of_ble_eq_true rfl) (fun p e s m args below meth c X H ls hM hl => ?_)
  have X : cz_X p s m args meth c cX5_many 4 RX5 g b (some .int) := X
  obtain ⟨hx, hb, -, ho, ht, -⟩ := id X
  have hRf : 2 ≤ ({ frames := 2, cells := 0, slots := 0, locals := 43 } : Room).frames := Nat.le_refl _
  have hRl : 43 ≤ ({ frames := 2, cells := 0, slots := 0, locals := 43 } : Room).locals := Nat.le_refl _
  have hl : lv_has ls 4 [(0, .ref a), (1, .int x1)] := hl
  rw [f_X5_many] at h
  refine lv_iconst (v := nI 0) hx hb dX5_many_0 (by decide) ?_
  refine lv_istore_n (lv' := [(2, .int (nI 0)), (0, .ref a), (1, .int x1)]) hx hb dX5_many_1 rfl hl (by decide) rfl (fun ls hl => ?_)
  refine lv_iconst (v := nI 0) hx hb dX5_many_2 (by decide) ?_
  refine lv_istore_n (lv' := [(3, .int (nI 0)), (2, .int (nI 0)), (0, .ref a), (1, .int x1)]) hx hb dX5_many_3 rfl hl (by decide) rfl (fun ls hl => ?_)
  refine w_X5_many_L4 X hRf hRl ka _ (fun x11 x12 H locs ls h hM hl => ?_) _ _ _ _ _ _ h hM (lv_sub hl [2, 3, 1, 0] rfl)
  refine lv_iload_n hx hb dX5_many_38 rfl (lv_at hl 2 rfl) ?_
  exact cz_retp X hM h rfl dX5_many_39
theorem mv_X5_struckWords : cz_MV yX5_struckWords cX5_struckWords 3 (some .int) RX5 0 := ⟨mi_X5_struckWords, ms_X5_struckWords, mc_X5_struckWords, ini_X5, by decide +kernel⟩
set_option maxHeartbeats 4000000 in
set_option maxRecDepth 100000 in
theorem w_X5_struckWords_L4 {p : Program} {l : Launch} {e : Env} {R : Room} {s : State} {m : MethodId} {args : Array Value} {below : List Frame} {meth : Method} {c : Code} {g : cz_G} {b : Nat} (X : cz_X p s m args meth c cX5_struckWords 3 RX5 g b (some .int)) (hRf : 2 ≤ R.frames) (hRl : 43 ≤ R.locals) {r0 : Int32} {a0 : Nat} {M : cz_M} (ka0 : cz_K b a0 5)
    (K : Int32 → Int32 → Option (Int32)) (hX : ∀ (x1 : Int32) (x2 : Int32) (H : Heap) (locs : List Loc) (ls : Array Slot), K x1 x2 = some r0 → cz_WS g b M s H locs → lv_has ls 3 [(0, .ref a0), (1, .int x1), (2, .int x2)] → W p l e R s m args below meth c H locs 0 0 (MQ below (cz_Q g b (some (.int r0)) M) args s 0 0 (fun q => b ≤ q)) (F0 m 46 ls [])) :
    ∀ (n : Nat) (x1 : Int32) (x2 : Int32) (H : Heap) (locs : List Loc) (ls : Array Slot), cz_it2 (f_X5_struckWords_L4 a0 M K) n x1 x2 = some r0 → cz_WS g b M s H locs → lv_has ls 3 [(0, .ref a0), (1, .int x1), (2, .int x2)] → W p l e R s m args below meth c H locs 0 0 (MQ below (cz_Q g b (some (.int r0)) M) args s 0 0 (fun q => b ≤ q)) (F0 m 4 ls []) := by
  obtain ⟨hx, hb, -, ho, ht, -⟩ := id X
  intro n
  induction n with
  | zero => intro x1 x2 H locs ls h; cases (show none = some _ from h)
  | succ n ih =>
    intro x1 x2 H locs ls h hM hl
    have h : f_X5_struckWords_L4 a0 M K (cz_it2 (f_X5_struckWords_L4 a0 M K) n) x1 x2 = some r0 := h
    rw [f_X5_struckWords_L4] at h
    refine lv_iload_n hx hb dX5_struckWords_4 rfl (lv_at hl 2 rfl) ?_
    refine lv_aload_n hx hb dX5_struckWords_5 rfl (lv_at hl 0 rfl) ?_
    refine cz_getR X hM ff_X5_0 ka0 lk_X5_7 dX5_struckWords_6 (fun hk1 => ?_)
    refine lv_iconst (v := nI 4) hx hb dX5_struckWords_9 (by decide) ?_
    refine cz_iald (n := 551) X hM h hk1 (by decide) dX5_struckWords_10 (fun h => ?_)
    refine lv_icmp_ge (tgt := 46) hx hb dX5_struckWords_11 (by decide) (fun c2 => ?_) (fun c2 => ?_)
    · have h := cz_ite_t c2 h
      exact hX _ _ _ _ _ h hM (lv_sub hl [0, 1, 2] rfl)
    · have h := cz_ite_f c2 h
      refine lv_iload_n hx hb dX5_struckWords_14 rfl (lv_at hl 1 rfl) ?_
      refine lv_aload_n hx hb dX5_struckWords_15 rfl (lv_at hl 0 rfl) ?_
      refine lv_iload_n hx hb dX5_struckWords_16 rfl (lv_at hl 2 rfl) ?_
      refine lv_iconst (v := nI 2) hx hb dX5_struckWords_17 (by decide) ?_
      obtain ⟨v3, hq, h⟩ := cz_bd_t h
      refine cz_runV (rest := [.int x1]) (As := [.int x2, .int (nI 2)]) (T := TX5) (N0 := 12) X hM hl.1 (c_X5_of (l := l) (g := g) (b := b) ka0 hq) mv_X5_of rfl (by decide) ka0 ml_X5_50 ⟨Nat.le_trans (Nat.le_of_ble_eq_true rfl) hRf, Nat.le_trans (Nat.le_of_ble_eq_true rfl) hRl⟩ rfl rfl (Nat.le_of_ble_eq_true rfl) dX5_struckWords_18 (fun H locs hM => ?_)
      refine lv_iconst (v := nI 1) hx hb dX5_struckWords_21 (by decide) ?_
      refine lv_icmp_ne (tgt := 37) hx hb dX5_struckWords_22 (by decide) (fun c4 => ?_) (fun c4 => ?_)
      · have h := cz_ite_f c4 h
        refine lv_iconst (v := nI 0) hx hb dX5_struckWords_37 (by decide) ?_
        refine lv_iadd hx hb dX5_struckWords_38 ?_
        refine cz_nmi h (fun v5 h => ?_)
        refine lv_istore_n (lv' := [(1, .int v5), (0, .ref a0), (2, .int x2)]) hx hb dX5_struckWords_39 rfl hl (by decide) rfl (fun ls hl => ?_)
        refine cz_nmL (v := x2 + nI 1) h (fun v6 e7 h => ?_)
        refine lv_iinc (v := v6) (lv' := [(2, .int v6), (1, .int v5), (0, .ref a0)]) hx hb dX5_struckWords_40 hl (k := 2) rfl (by rw [e7]; rfl) (by decide) rfl (fun ls hl => ?_)
        refine lv_goto (tgt := 4) hx hb dX5_struckWords_43 (by decide) ?_
        exact ih _ _ _ _ _ h hM (lv_sub hl [2, 1, 0] rfl)
      · have h := cz_ite_t c4 h
        refine lv_aload_n hx hb dX5_struckWords_25 rfl (lv_at hl 0 rfl) ?_
        refine lv_iload_n hx hb dX5_struckWords_26 rfl (lv_at hl 2 rfl) ?_
        refine lv_iconst (v := nI 5) hx hb dX5_struckWords_27 (by decide) ?_
        obtain ⟨v8, hq, h⟩ := cz_bd_t h
        refine cz_runV (rest := [.int x1]) (As := [.int x2, .int (nI 5)]) (T := TX5) (N0 := 12) X hM hl.1 (c_X5_of (l := l) (g := g) (b := b) ka0 hq) mv_X5_of rfl (by decide) ka0 ml_X5_50 ⟨Nat.le_trans (Nat.le_of_ble_eq_true rfl) hRf, Nat.le_trans (Nat.le_of_ble_eq_true rfl) hRl⟩ rfl rfl (Nat.le_of_ble_eq_true rfl) dX5_struckWords_28 (fun H locs hM => ?_)
        obtain ⟨v9, hq, h⟩ := cz_bd_t h
        refine cz_runS (rest := [.int x1]) (As := [.int v8]) X hM hl.1 (c_X5_bits (l := l) (g := g) (b := b)  hq) mv_X5_bits ml_X5_62 ⟨Nat.le_trans (Nat.le_of_ble_eq_true rfl) hRf, Nat.le_trans (Nat.le_of_ble_eq_true rfl) hRl⟩ rfl rfl (Nat.le_of_ble_eq_true rfl) dX5_struckWords_31 (fun H locs hM => ?_)
        refine lv_goto (tgt := 38) hx hb dX5_struckWords_34 (by decide) ?_
        refine lv_iadd hx hb dX5_struckWords_38 ?_
        refine cz_nmi h (fun v10 h => ?_)
        refine lv_istore_n (lv' := [(1, .int v10), (0, .ref a0), (2, .int x2)]) hx hb dX5_struckWords_39 rfl hl (by decide) rfl (fun ls hl => ?_)
        refine cz_nmL (v := x2 + nI 1) h (fun v11 e12 h => ?_)
        refine lv_iinc (v := v11) (lv' := [(2, .int v11), (1, .int v10), (0, .ref a0)]) hx hb dX5_struckWords_40 hl (k := 2) rfl (by rw [e12]; rfl) (by decide) rfl (fun ls hl => ?_)
        refine lv_goto (tgt := 4) hx hb dX5_struckWords_43 (by decide) ?_
        exact ih _ _ _ _ _ h hM (lv_sub hl [2, 1, 0] rfl)
set_option maxHeartbeats 4000000 in
set_option maxRecDepth 100000 in
theorem c_X5_struckWords {l : Launch} {g : cz_G} {b : Nat} {M : cz_M} {r0 : Int32} {a : Nat} (ka : cz_K b a 5) (h : f_X5_struckWords M a = some r0) : cz_C l yX5_struckWords cX5_struckWords 3 (some .int) 2 43 g b [.ref a] M (some (.int r0)) M := by
  refine cz_start (by decide) (Nat.le_of_ble_eq_true rfl) (fun p e s m args below meth c X H ls hM hl => ?_)
  have X : cz_X p s m args meth c cX5_struckWords 3 RX5 g b (some .int) := X
  obtain ⟨hx, hb, -, ho, ht, -⟩ := id X
  have hRf : 2 ≤ ({ frames := 2, cells := 0, slots := 0, locals := 43 } : Room).frames := Nat.le_refl _
  have hRl : 43 ≤ ({ frames := 2, cells := 0, slots := 0, locals := 43 } : Room).locals := Nat.le_refl _
  have hl : lv_has ls 3 [(0, .ref a)] := hl
  rw [f_X5_struckWords] at h
  refine lv_iconst (v := nI 0) hx hb dX5_struckWords_0 (by decide) ?_
  refine lv_istore_n (lv' := [(1, .int (nI 0)), (0, .ref a)]) hx hb dX5_struckWords_1 rfl hl (by decide) rfl (fun ls hl => ?_)
  refine lv_iconst (v := nI 0) hx hb dX5_struckWords_2 (by decide) ?_
  refine lv_istore_n (lv' := [(2, .int (nI 0)), (1, .int (nI 0)), (0, .ref a)]) hx hb dX5_struckWords_3 rfl hl (by decide) rfl (fun ls hl => ?_)
  refine w_X5_struckWords_L4 X hRf hRl ka _ (fun x13 x14 H locs ls h hM hl => ?_) _ _ _ _ _ _ h hM (lv_sub hl [2, 1, 0] rfl)
  refine lv_iload_n hx hb dX5_struckWords_46 rfl (lv_at hl 1 rfl) ?_
  exact cz_retp X hM h rfl dX5_struckWords_47
theorem mv_X5_turnedBack : cz_MV yX5_turnedBack cX5_turnedBack 1 (some .int) RX5 0 := ⟨mi_X5_turnedBack, ms_X5_turnedBack, mc_X5_turnedBack, ini_X5, by decide +kernel⟩
set_option maxHeartbeats 4000000 in
set_option maxRecDepth 100000 in
theorem c_X5_turnedBack {l : Launch} {g : cz_G} {b : Nat} {M : cz_M} {r0 : Int32} {a : Nat} (ka : cz_K b a 5) (h : f_X5_turnedBack M a = some r0) : cz_C l yX5_turnedBack cX5_turnedBack 1 (some .int) 1 21 g b [.ref a] M (some (.int r0)) M := by
  refine cz_start (by decide) (Nat.le_of_ble_eq_true rfl) (fun p e s m args below meth c X H ls hM hl => ?_)
  have X : cz_X p s m args meth c cX5_turnedBack 1 RX5 g b (some .int) := X
  obtain ⟨hx, hb, -, ho, ht, -⟩ := id X
  have hRf : 1 ≤ ({ frames := 1, cells := 0, slots := 0, locals := 21 } : Room).frames := Nat.le_refl _
  have hRl : 21 ≤ ({ frames := 1, cells := 0, slots := 0, locals := 21 } : Room).locals := Nat.le_refl _
  have hl : lv_has ls 1 [(0, .ref a)] := hl
  rw [f_X5_turnedBack] at h
  refine lv_aload_n hx hb dX5_turnedBack_0 rfl (lv_at hl 0 rfl) ?_
  refine cz_getR X hM ff_X5_0 ka lk_X5_7 dX5_turnedBack_1 (fun hk1 => ?_)
  refine lv_iconst (v := nI 0) hx hb dX5_turnedBack_4 (by decide) ?_
  refine lv_iconst (v := nI 3) hx hb dX5_turnedBack_5 (by decide) ?_
  obtain ⟨v2, hq, h⟩ := cz_bd_t h
  refine cz_runS (rest := [.ref (a + 1)]) (As := [.int (nI 0), .int (nI 3)]) X hM hl.1 (c_X5_ofCensor (l := l) (g := g) (b := b)  hq) mv_X5_ofCensor ml_X5_53 ⟨Nat.le_trans (Nat.le_of_ble_eq_true rfl) hRf, Nat.le_trans (Nat.le_of_ble_eq_true rfl) hRl⟩ rfl rfl (Nat.le_of_ble_eq_true rfl) dX5_turnedBack_6 (fun H locs hM => ?_)
  refine cz_iald (n := 551) X hM h hk1 (by decide) dX5_turnedBack_9 (fun h => ?_)
  refine lv_aload_n hx hb dX5_turnedBack_10 rfl (lv_at hl 0 rfl) ?_
  refine cz_getR X hM ff_X5_0 ka lk_X5_7 dX5_turnedBack_11 (fun hk3 => ?_)
  refine lv_iconst (v := nI 1) hx hb dX5_turnedBack_14 (by decide) ?_
  refine lv_iconst (v := nI 3) hx hb dX5_turnedBack_15 (by decide) ?_
  obtain ⟨v4, hq, h⟩ := cz_bd_t h
  refine cz_runS (rest := [.ref (a + 1), .int (M.1 (a + 1) (Int32.toNatClampNeg v2))]) (As := [.int (nI 1), .int (nI 3)]) X hM hl.1 (c_X5_ofCensor (l := l) (g := g) (b := b)  hq) mv_X5_ofCensor ml_X5_53 ⟨Nat.le_trans (Nat.le_of_ble_eq_true rfl) hRf, Nat.le_trans (Nat.le_of_ble_eq_true rfl) hRl⟩ rfl rfl (Nat.le_of_ble_eq_true rfl) dX5_turnedBack_16 (fun H locs hM => ?_)
  refine cz_iald (n := 551) X hM h hk3 (by decide) dX5_turnedBack_19 (fun h => ?_)
  refine lv_iadd hx hb dX5_turnedBack_20 ?_
  refine lv_aload_n hx hb dX5_turnedBack_21 rfl (lv_at hl 0 rfl) ?_
  refine cz_getR X hM ff_X5_0 ka lk_X5_7 dX5_turnedBack_22 (fun hk5 => ?_)
  refine lv_iconst (v := nI 2) hx hb dX5_turnedBack_25 (by decide) ?_
  refine lv_iconst (v := nI 3) hx hb dX5_turnedBack_26 (by decide) ?_
  obtain ⟨v6, hq, h⟩ := cz_bd_t h
  refine cz_runS (rest := [.ref (a + 1), .int ((M.1 (a + 1) (Int32.toNatClampNeg v2)) + (M.1 (a + 1) (Int32.toNatClampNeg v4)))]) (As := [.int (nI 2), .int (nI 3)]) X hM hl.1 (c_X5_ofCensor (l := l) (g := g) (b := b)  hq) mv_X5_ofCensor ml_X5_53 ⟨Nat.le_trans (Nat.le_of_ble_eq_true rfl) hRf, Nat.le_trans (Nat.le_of_ble_eq_true rfl) hRl⟩ rfl rfl (Nat.le_of_ble_eq_true rfl) dX5_turnedBack_27 (fun H locs hM => ?_)
  refine cz_iald (n := 551) X hM h hk5 (by decide) dX5_turnedBack_30 (fun h => ?_)
  refine lv_iadd hx hb dX5_turnedBack_31 ?_
  refine lv_aload_n hx hb dX5_turnedBack_32 rfl (lv_at hl 0 rfl) ?_
  refine cz_getR X hM ff_X5_0 ka lk_X5_7 dX5_turnedBack_33 (fun hk7 => ?_)
  refine lv_iconst (v := nI 3) hx hb dX5_turnedBack_36 (by decide) ?_
  refine lv_iconst (v := nI 3) hx hb dX5_turnedBack_37 (by decide) ?_
  obtain ⟨v8, hq, h⟩ := cz_bd_t h
  refine cz_runS (rest := [.ref (a + 1), .int (((M.1 (a + 1) (Int32.toNatClampNeg v2)) + (M.1 (a + 1) (Int32.toNatClampNeg v4))) + (M.1 (a + 1) (Int32.toNatClampNeg v6)))]) (As := [.int (nI 3), .int (nI 3)]) X hM hl.1 (c_X5_ofCensor (l := l) (g := g) (b := b)  hq) mv_X5_ofCensor ml_X5_53 ⟨Nat.le_trans (Nat.le_of_ble_eq_true rfl) hRf, Nat.le_trans (Nat.le_of_ble_eq_true rfl) hRl⟩ rfl rfl (Nat.le_of_ble_eq_true rfl) dX5_turnedBack_38 (fun H locs hM => ?_)
  refine cz_iald (n := 551) X hM h hk7 (by decide) dX5_turnedBack_41 (fun h => ?_)
  refine lv_iadd hx hb dX5_turnedBack_42 ?_
  exact cz_retp X hM h rfl dX5_turnedBack_43
theorem mv_X5_lays : cz_MV yX5_lays cX5_lays 4 (some .int) RX5 2 := ⟨mi_X5_lays, ms_X5_lays, mc_X5_lays, ini_X5, by decide +kernel⟩
set_option maxHeartbeats 4000000 in
set_option maxRecDepth 100000 in
theorem c_X5_lays {l : Launch} {g : cz_G} {b : Nat} {M : cz_M} {r0 : Int32} {M9 : cz_M} {a : Nat} {x1 : Int32} {x2 : Int32} (ka : cz_K b a 5) (h : f_X5_lays M a x1 x2 = some (r0, M9)) : cz_C l yX5_lays cX5_lays 4 (some .int) 1 21 g b [.ref a, .int x1, .int x2] M (some (.int r0)) M9 := by
  refine cz_start (by decide) (Nat.le_of_ble_eq_true rfl) (fun p e s m args below meth c X H ls hM hl => ?_)
  have X : cz_X p s m args meth c cX5_lays 4 RX5 g b (some .int) := X
  obtain ⟨hx, hb, -, ho, ht, -⟩ := id X
  have hRf : 1 ≤ ({ frames := 1, cells := 0, slots := 0, locals := 21 } : Room).frames := Nat.le_refl _
  have hRl : 21 ≤ ({ frames := 1, cells := 0, slots := 0, locals := 21 } : Room).locals := Nat.le_refl _
  have hl : lv_has ls 4 [(0, .ref a), (1, .int x1), (2, .int x2)] := hl
  rw [f_X5_lays] at h
  refine lv_aload_n hx hb dX5_lays_0 rfl (lv_at hl 0 rfl) ?_
  obtain ⟨M1, hq, h⟩ := cz_bd_t h
  refine cz_runV (rest := []) (As := []) (T := TX5) (N0 := 12) X hM hl.1 (c_X5_record (l := l) (g := g) (b := b) ka hq) mv_X5_record rfl (by decide) ka ml_X5_88 ⟨Nat.le_trans (Nat.le_of_ble_eq_true rfl) hRf, Nat.le_trans (Nat.le_of_ble_eq_true rfl) hRl⟩ rfl rfl (Nat.le_of_ble_eq_true rfl) dX5_lays_1 (fun H locs hM => ?_)
  refine lv_aload_n hx hb dX5_lays_4 rfl (lv_at hl 0 rfl) ?_
  refine cz_getR X hM ff_X5_0 ka lk_X5_7 dX5_lays_5 (fun hk2 => ?_)
  refine lv_iload_n hx hb dX5_lays_8 rfl (lv_at hl 1 rfl) ?_
  refine cz_iald (n := 551) X hM h hk2 (by decide) dX5_lays_9 (fun h => ?_)
  refine cz_nmi h (fun v3 h => ?_)
  refine lv_istore_n (lv' := [(3, .int v3), (0, .ref a), (1, .int x1), (2, .int x2)]) hx hb dX5_lays_10 rfl hl (by decide) rfl (fun ls hl => ?_)
  refine lv_aload_n hx hb dX5_lays_11 rfl (lv_at hl 1 rfl) ?_
  refine cz_getR X hM ff_X5_0 ka lk_X5_7 dX5_lays_12 (fun hk4 => ?_)
  refine lv_iload_n hx hb dX5_lays_15 rfl (lv_at hl 2 rfl) ?_
  refine lv_iload_n hx hb dX5_lays_16 rfl (lv_at hl 3 rfl) ?_
  refine cz_iast (n := 551) X hM h hk4 (by decide) dX5_lays_17 (fun M5 H locs h hM => ?_)
  refine lv_iload_n hx hb dX5_lays_18 rfl (lv_at hl 0 rfl) ?_
  exact cz_reti X hM h rfl dX5_lays_19
theorem mv_X5_set : cz_MV yX5_set cX5_set 4 (some .int) RX5 2 := ⟨mi_X5_set, ms_X5_set, mc_X5_set, ini_X5, by decide +kernel⟩
set_option maxHeartbeats 4000000 in
set_option maxRecDepth 100000 in
theorem c_X5_set {l : Launch} {g : cz_G} {b : Nat} {M : cz_M} {r0 : Int32} {M9 : cz_M} {a : Nat} {x1 : Int32} {x2 : Int32} (ka : cz_K b a 5) (h : f_X5_set M a x1 x2 = some (r0, M9)) : cz_C l yX5_set cX5_set 4 (some .int) 2 44 g b [.ref a, .int x1, .int x2] M (some (.int r0)) M9 := by
  refine cz_start (by decide) (Nat.le_of_ble_eq_true rfl) (fun p e s m args below meth c X H ls hM hl => ?_)
  have X : cz_X p s m args meth c cX5_set 4 RX5 g b (some .int) := X
  obtain ⟨hx, hb, -, ho, ht, -⟩ := id X
  have hRf : 2 ≤ ({ frames := 2, cells := 0, slots := 0, locals := 44 } : Room).frames := Nat.le_refl _
  have hRl : 44 ≤ ({ frames := 2, cells := 0, slots := 0, locals := 44 } : Room).locals := Nat.le_refl _
  have hl : lv_has ls 4 [(0, .ref a), (1, .int x1), (2, .int x2)] := hl
  rw [f_X5_set] at h
  refine lv_iload_n hx hb dX5_set_0 rfl (lv_at hl 1 rfl) ?_
  refine lv_if_ne (tgt := 14) hx hb dX5_set_1 (by decide) (fun c1 => ?_) (fun c1 => ?_)
  · have h := cz_ite_f c1 h
    refine lv_iload_n hx hb dX5_set_14 rfl (lv_at hl 1 rfl) ?_
    refine lv_iconst (v := nI 1) hx hb dX5_set_15 (by decide) ?_
    refine lv_icmp_ne (tgt := 29) hx hb dX5_set_16 (by decide) (fun c2 => ?_) (fun c2 => ?_)
    · have h := cz_ite_f c2 h
      refine lv_iload_n hx hb dX5_set_29 rfl (lv_at hl 1 rfl) ?_
      refine lv_iconst (v := nI 2) hx hb dX5_set_30 (by decide) ?_
      refine lv_icmp_ne (tgt := 47) hx hb dX5_set_31 (by decide) (fun c3 => ?_) (fun c3 => ?_)
      · have h := cz_ite_f c3 h
        refine lv_iconst (v := nI 0) hx hb dX5_set_47 (by decide) ?_
        refine lv_istore_n (lv' := [(3, .int (nI 0)), (0, .ref a), (1, .int x1), (2, .int x2)]) hx hb dX5_set_48 rfl hl (by decide) rfl (fun ls hl => ?_)
        refine lv_iload_n hx hb dX5_set_49 rfl (lv_at hl 0 rfl) ?_
        refine lv_if_eq (tgt := 62) hx hb dX5_set_50 (by decide) (fun c4 => ?_) (fun c4 => ?_)
        · have h := cz_ite_t c4 h
          refine lv_bipush (v := -2) hx hb dX5_set_62 (by decide) ?_
          exact cz_reti X hM h rfl dX5_set_64
        · have h := cz_ite_f c4 h
          refine lv_aload_n hx hb dX5_set_53 rfl (lv_at hl 1 rfl) ?_
          refine lv_iload_n hx hb dX5_set_54 rfl (lv_at hl 2 rfl) ?_
          refine lv_iload_n hx hb dX5_set_55 rfl (lv_at hl 3 rfl) ?_
          obtain ⟨v6, M5, hq, h⟩ := cz_b2_t h
          refine cz_runV (rest := []) (As := [.int x1, .int x2]) (T := TX5) (N0 := 12) X hM hl.1 (c_X5_lays (l := l) (g := g) (b := b) ka hq) mv_X5_lays rfl (by decide) ka ml_X5_91 ⟨Nat.le_trans (Nat.le_of_ble_eq_true rfl) hRf, Nat.le_trans (Nat.le_of_ble_eq_true rfl) hRl⟩ rfl rfl (Nat.le_of_ble_eq_true rfl) dX5_set_56 (fun H locs hM => ?_)
          refine lv_goto (tgt := 64) hx hb dX5_set_59 (by decide) ?_
          exact cz_reti X hM h rfl dX5_set_64
      · have h := cz_ite_t c3 h
        refine lv_iload_n hx hb dX5_set_34 rfl (lv_at hl 2 rfl) ?_
        refine lv_iconst (v := nI 1) hx hb dX5_set_35 (by decide) ?_
        refine lv_iconst (v := nI 5) hx hb dX5_set_36 (by decide) ?_
        obtain ⟨v7, hq, h⟩ := cz_bd_t h
        refine cz_runS (rest := []) (As := [.int x2, .int (nI 1), .int (nI 5)]) X hM hl.1 (c_X5_in (l := l) (g := g) (b := b)  hq) mv_X5_in ml_X5_38 ⟨Nat.le_trans (Nat.le_of_ble_eq_true rfl) hRf, Nat.le_trans (Nat.le_of_ble_eq_true rfl) hRl⟩ rfl rfl (Nat.le_of_ble_eq_true rfl) dX5_set_37 (fun H locs hM => ?_)
        refine lv_if_eq (tgt := 47) hx hb dX5_set_40 (by decide) (fun c8 => ?_) (fun c8 => ?_)
        · have h := cz_ite_t c8 h
          refine lv_iconst (v := nI 0) hx hb dX5_set_47 (by decide) ?_
          refine lv_istore_n (lv' := [(3, .int (nI 0)), (0, .ref a), (1, .int x1), (2, .int x2)]) hx hb dX5_set_48 rfl hl (by decide) rfl (fun ls hl => ?_)
          refine lv_iload_n hx hb dX5_set_49 rfl (lv_at hl 0 rfl) ?_
          refine lv_if_eq (tgt := 62) hx hb dX5_set_50 (by decide) (fun c9 => ?_) (fun c9 => ?_)
          · have h := cz_ite_t c9 h
            refine lv_bipush (v := -2) hx hb dX5_set_62 (by decide) ?_
            exact cz_reti X hM h rfl dX5_set_64
          · have h := cz_ite_f c9 h
            refine lv_aload_n hx hb dX5_set_53 rfl (lv_at hl 1 rfl) ?_
            refine lv_iload_n hx hb dX5_set_54 rfl (lv_at hl 2 rfl) ?_
            refine lv_iload_n hx hb dX5_set_55 rfl (lv_at hl 3 rfl) ?_
            obtain ⟨v11, M10, hq, h⟩ := cz_b2_t h
            refine cz_runV (rest := []) (As := [.int x1, .int x2]) (T := TX5) (N0 := 12) X hM hl.1 (c_X5_lays (l := l) (g := g) (b := b) ka hq) mv_X5_lays rfl (by decide) ka ml_X5_91 ⟨Nat.le_trans (Nat.le_of_ble_eq_true rfl) hRf, Nat.le_trans (Nat.le_of_ble_eq_true rfl) hRl⟩ rfl rfl (Nat.le_of_ble_eq_true rfl) dX5_set_56 (fun H locs hM => ?_)
            refine lv_goto (tgt := 64) hx hb dX5_set_59 (by decide) ?_
            exact cz_reti X hM h rfl dX5_set_64
        · have h := cz_ite_f c8 h
          refine lv_iconst (v := nI 1) hx hb dX5_set_43 (by decide) ?_
          refine lv_goto (tgt := 48) hx hb dX5_set_44 (by decide) ?_
          refine lv_istore_n (lv' := [(3, .int (nI 1)), (0, .ref a), (1, .int x1), (2, .int x2)]) hx hb dX5_set_48 rfl hl (by decide) rfl (fun ls hl => ?_)
          refine lv_iload_n hx hb dX5_set_49 rfl (lv_at hl 0 rfl) ?_
          refine lv_if_eq (tgt := 62) hx hb dX5_set_50 (by decide) (fun c12 => ?_) (fun c12 => ?_)
          · have h := cz_ite_t c12 h
            refine lv_bipush (v := -2) hx hb dX5_set_62 (by decide) ?_
            exact cz_reti X hM h rfl dX5_set_64
          · have h := cz_ite_f c12 h
            refine lv_aload_n hx hb dX5_set_53 rfl (lv_at hl 1 rfl) ?_
            refine lv_iload_n hx hb dX5_set_54 rfl (lv_at hl 2 rfl) ?_
            refine lv_iload_n hx hb dX5_set_55 rfl (lv_at hl 3 rfl) ?_
            obtain ⟨v14, M13, hq, h⟩ := cz_b2_t h
            refine cz_runV (rest := []) (As := [.int x1, .int x2]) (T := TX5) (N0 := 12) X hM hl.1 (c_X5_lays (l := l) (g := g) (b := b) ka hq) mv_X5_lays rfl (by decide) ka ml_X5_91 ⟨Nat.le_trans (Nat.le_of_ble_eq_true rfl) hRf, Nat.le_trans (Nat.le_of_ble_eq_true rfl) hRl⟩ rfl rfl (Nat.le_of_ble_eq_true rfl) dX5_set_56 (fun H locs hM => ?_)
            refine lv_goto (tgt := 64) hx hb dX5_set_59 (by decide) ?_
            exact cz_reti X hM h rfl dX5_set_64
    · have h := cz_ite_t c2 h
      refine lv_iload_n hx hb dX5_set_19 rfl (lv_at hl 2 rfl) ?_
      refine lv_iconst (v := nI 0) hx hb dX5_set_20 (by decide) ?_
      refine lv_bipush (v := nI 8) hx hb dX5_set_21 (by decide) ?_
      obtain ⟨v15, hq, h⟩ := cz_bd_t h
      refine cz_runS (rest := []) (As := [.int x2, .int (nI 0), .int (nI 8)]) X hM hl.1 (c_X5_in (l := l) (g := g) (b := b)  hq) mv_X5_in ml_X5_38 ⟨Nat.le_trans (Nat.le_of_ble_eq_true rfl) hRf, Nat.le_trans (Nat.le_of_ble_eq_true rfl) hRl⟩ rfl rfl (Nat.le_of_ble_eq_true rfl) dX5_set_23 (fun H locs hM => ?_)
      refine lv_goto (tgt := 48) hx hb dX5_set_26 (by decide) ?_
      refine lv_istore_n (lv' := [(3, .int v15), (0, .ref a), (1, .int x1), (2, .int x2)]) hx hb dX5_set_48 rfl hl (by decide) rfl (fun ls hl => ?_)
      refine lv_iload_n hx hb dX5_set_49 rfl (lv_at hl 0 rfl) ?_
      refine lv_if_eq (tgt := 62) hx hb dX5_set_50 (by decide) (fun c16 => ?_) (fun c16 => ?_)
      · have h := cz_ite_t c16 h
        refine lv_bipush (v := -2) hx hb dX5_set_62 (by decide) ?_
        exact cz_reti X hM h rfl dX5_set_64
      · have h := cz_ite_f c16 h
        refine lv_aload_n hx hb dX5_set_53 rfl (lv_at hl 1 rfl) ?_
        refine lv_iload_n hx hb dX5_set_54 rfl (lv_at hl 2 rfl) ?_
        refine lv_iload_n hx hb dX5_set_55 rfl (lv_at hl 3 rfl) ?_
        obtain ⟨v18, M17, hq, h⟩ := cz_b2_t h
        refine cz_runV (rest := []) (As := [.int x1, .int x2]) (T := TX5) (N0 := 12) X hM hl.1 (c_X5_lays (l := l) (g := g) (b := b) ka hq) mv_X5_lays rfl (by decide) ka ml_X5_91 ⟨Nat.le_trans (Nat.le_of_ble_eq_true rfl) hRf, Nat.le_trans (Nat.le_of_ble_eq_true rfl) hRl⟩ rfl rfl (Nat.le_of_ble_eq_true rfl) dX5_set_56 (fun H locs hM => ?_)
        refine lv_goto (tgt := 64) hx hb dX5_set_59 (by decide) ?_
        exact cz_reti X hM h rfl dX5_set_64
  · have h := cz_ite_t c1 h
    refine lv_iload_n hx hb dX5_set_4 rfl (lv_at hl 2 rfl) ?_
    refine lv_iconst (v := nI 1) hx hb dX5_set_5 (by decide) ?_
    refine lv_bipush (v := nI 9) hx hb dX5_set_6 (by decide) ?_
    obtain ⟨v19, hq, h⟩ := cz_bd_t h
    refine cz_runS (rest := []) (As := [.int x2, .int (nI 1), .int (nI 9)]) X hM hl.1 (c_X5_in (l := l) (g := g) (b := b)  hq) mv_X5_in ml_X5_38 ⟨Nat.le_trans (Nat.le_of_ble_eq_true rfl) hRf, Nat.le_trans (Nat.le_of_ble_eq_true rfl) hRl⟩ rfl rfl (Nat.le_of_ble_eq_true rfl) dX5_set_8 (fun H locs hM => ?_)
    refine lv_goto (tgt := 48) hx hb dX5_set_11 (by decide) ?_
    refine lv_istore_n (lv' := [(3, .int v19), (0, .ref a), (1, .int x1), (2, .int x2)]) hx hb dX5_set_48 rfl hl (by decide) rfl (fun ls hl => ?_)
    refine lv_iload_n hx hb dX5_set_49 rfl (lv_at hl 0 rfl) ?_
    refine lv_if_eq (tgt := 62) hx hb dX5_set_50 (by decide) (fun c20 => ?_) (fun c20 => ?_)
    · have h := cz_ite_t c20 h
      refine lv_bipush (v := -2) hx hb dX5_set_62 (by decide) ?_
      exact cz_reti X hM h rfl dX5_set_64
    · have h := cz_ite_f c20 h
      refine lv_aload_n hx hb dX5_set_53 rfl (lv_at hl 1 rfl) ?_
      refine lv_iload_n hx hb dX5_set_54 rfl (lv_at hl 2 rfl) ?_
      refine lv_iload_n hx hb dX5_set_55 rfl (lv_at hl 3 rfl) ?_
      obtain ⟨v22, M21, hq, h⟩ := cz_b2_t h
      refine cz_runV (rest := []) (As := [.int x1, .int x2]) (T := TX5) (N0 := 12) X hM hl.1 (c_X5_lays (l := l) (g := g) (b := b) ka hq) mv_X5_lays rfl (by decide) ka ml_X5_91 ⟨Nat.le_trans (Nat.le_of_ble_eq_true rfl) hRf, Nat.le_trans (Nat.le_of_ble_eq_true rfl) hRl⟩ rfl rfl (Nat.le_of_ble_eq_true rfl) dX5_set_56 (fun H locs hM => ?_)
      refine lv_goto (tgt := 64) hx hb dX5_set_59 (by decide) ?_
      exact cz_reti X hM h rfl dX5_set_64
theorem mv_X5_strike : cz_MV yX5_strike cX5_strike 4 (some .int) RX5 2 := ⟨mi_X5_strike, ms_X5_strike, mc_X5_strike, ini_X5, by decide +kernel⟩
set_option maxHeartbeats 4000000 in
set_option maxRecDepth 100000 in
theorem c_X5_strike {l : Launch} {g : cz_G} {b : Nat} {M : cz_M} {r0 : Int32} {M9 : cz_M} {a : Nat} {x1 : Int32} {x2 : Int32} (ka : cz_K b a 5) (h : f_X5_strike M a x1 x2 = some (r0, M9)) : cz_C l yX5_strike cX5_strike 4 (some .int) 2 44 g b [.ref a, .int x1, .int x2] M (some (.int r0)) M9 := by
  refine cz_start (by decide) (Nat.le_of_ble_eq_true rfl) (fun p e s m args below meth c X H ls hM hl => ?_)
  have X : cz_X p s m args meth c cX5_strike 4 RX5 g b (some .int) := X
  obtain ⟨hx, hb, -, ho, ht, -⟩ := id X
  have hRf : 2 ≤ ({ frames := 2, cells := 0, slots := 0, locals := 44 } : Room).frames := Nat.le_refl _
  have hRl : 44 ≤ ({ frames := 2, cells := 0, slots := 0, locals := 44 } : Room).locals := Nat.le_refl _
  have hl : lv_has ls 4 [(0, .ref a), (1, .int x1), (2, .int x2)] := hl
  rw [f_X5_strike] at h
  refine lv_iload_n hx hb dX5_strike_0 rfl (lv_at hl 1 rfl) ?_
  refine lv_iconst (v := nI 0) hx hb dX5_strike_1 (by decide) ?_
  refine lv_iconst (v := nI 3) hx hb dX5_strike_2 (by decide) ?_
  obtain ⟨v1, hq, h⟩ := cz_bd_t h
  refine cz_runS (rest := []) (As := [.int x1, .int (nI 0), .int (nI 3)]) X hM hl.1 (c_X5_in (l := l) (g := g) (b := b)  hq) mv_X5_in ml_X5_38 ⟨Nat.le_trans (Nat.le_of_ble_eq_true rfl) hRf, Nat.le_trans (Nat.le_of_ble_eq_true rfl) hRl⟩ rfl rfl (Nat.le_of_ble_eq_true rfl) dX5_strike_3 (fun H locs hM => ?_)
  refine lv_if_eq (tgt := 19) hx hb dX5_strike_6 (by decide) (fun c2 => ?_) (fun c2 => ?_)
  · have h := cz_ite_t c2 h
    refine lv_iconst (v := -1) hx hb dX5_strike_19 (by decide) ?_
    exact cz_reti X hM h rfl dX5_strike_20
  · have h := cz_ite_f c2 h
    refine lv_iload_n hx hb dX5_strike_9 rfl (lv_at hl 2 rfl) ?_
    refine lv_iconst (v := nI 0) hx hb dX5_strike_10 (by decide) ?_
    refine lv_bipush (v := nI 25) hx hb dX5_strike_11 (by decide) ?_
    obtain ⟨v3, hq, h⟩ := cz_bd_t h
    refine cz_runS (rest := []) (As := [.int x2, .int (nI 0), .int (nI 25)]) X hM hl.1 (c_X5_in (l := l) (g := g) (b := b)  hq) mv_X5_in ml_X5_38 ⟨Nat.le_trans (Nat.le_of_ble_eq_true rfl) hRf, Nat.le_trans (Nat.le_of_ble_eq_true rfl) hRl⟩ rfl rfl (Nat.le_of_ble_eq_true rfl) dX5_strike_13 (fun H locs hM => ?_)
    refine lv_if_ne (tgt := 21) hx hb dX5_strike_16 (by decide) (fun c4 => ?_) (fun c4 => ?_)
    · have h := cz_ite_f c4 h
      refine lv_aload_n hx hb dX5_strike_21 rfl (lv_at hl 0 rfl) ?_
      refine lv_iload_n hx hb dX5_strike_22 rfl (lv_at hl 1 rfl) ?_
      refine lv_iconst (v := nI 0) hx hb dX5_strike_23 (by decide) ?_
      obtain ⟨v5, hq, h⟩ := cz_bd_t h
      refine cz_runS (rest := [.ref a]) (As := [.int x1, .int (nI 0)]) X hM hl.1 (c_X5_ofCensor (l := l) (g := g) (b := b)  hq) mv_X5_ofCensor ml_X5_53 ⟨Nat.le_trans (Nat.le_of_ble_eq_true rfl) hRf, Nat.le_trans (Nat.le_of_ble_eq_true rfl) hRl⟩ rfl rfl (Nat.le_of_ble_eq_true rfl) dX5_strike_24 (fun H locs hM => ?_)
      refine lv_aload_n hx hb dX5_strike_27 rfl (lv_at hl 0 rfl) ?_
      refine cz_getR X hM ff_X5_0 ka lk_X5_7 dX5_strike_28 (fun hk6 => ?_)
      refine lv_iload_n hx hb dX5_strike_31 rfl (lv_at hl 1 rfl) ?_
      refine lv_iconst (v := nI 0) hx hb dX5_strike_32 (by decide) ?_
      obtain ⟨v7, hq, h⟩ := cz_bd_t h
      refine cz_runS (rest := [.ref (a + 1), .int v5, .ref a]) (As := [.int x1, .int (nI 0)]) X hM hl.1 (c_X5_ofCensor (l := l) (g := g) (b := b)  hq) mv_X5_ofCensor ml_X5_53 ⟨Nat.le_trans (Nat.le_of_ble_eq_true rfl) hRf, Nat.le_trans (Nat.le_of_ble_eq_true rfl) hRl⟩ rfl rfl (Nat.le_of_ble_eq_true rfl) dX5_strike_33 (fun H locs hM => ?_)
      refine cz_iald (n := 551) X hM h hk6 (by decide) dX5_strike_36 (fun h => ?_)
      refine lv_iconst (v := nI 1) hx hb dX5_strike_37 (by decide) ?_
      refine lv_iload_n hx hb dX5_strike_38 rfl (lv_at hl 2 rfl) ?_
      refine lv_ishl hx hb dX5_strike_39 ?_
      refine lv_ixor hx hb dX5_strike_40 ?_
      obtain ⟨v9, M8, hq, h⟩ := cz_b2_t h
      refine cz_runV (rest := []) (As := [.int v5, .int ((M.1 (a + 1) (Int32.toNatClampNeg v7)) ^^^ ((nI 1) <<< (x2 &&& nI 31)))]) (T := TX5) (N0 := 12) X hM hl.1 (c_X5_lays (l := l) (g := g) (b := b) ka hq) mv_X5_lays rfl (by decide) ka ml_X5_91 ⟨Nat.le_trans (Nat.le_of_ble_eq_true rfl) hRf, Nat.le_trans (Nat.le_of_ble_eq_true rfl) hRl⟩ rfl rfl (Nat.le_of_ble_eq_true rfl) dX5_strike_41 (fun H locs hM => ?_)
      refine lv_istore_n (lv' := [(3, .int v9), (0, .ref a), (1, .int x1), (2, .int x2)]) hx hb dX5_strike_44 rfl hl (by decide) rfl (fun ls hl => ?_)
      refine lv_aload_n hx hb dX5_strike_45 rfl (lv_at hl 1 rfl) ?_
      refine cz_getR X hM ff_X5_0 ka lk_X5_7 dX5_strike_46 (fun hk10 => ?_)
      refine lv_iload_n hx hb dX5_strike_49 rfl (lv_at hl 2 rfl) ?_
      refine lv_iconst (v := nI 0) hx hb dX5_strike_50 (by decide) ?_
      obtain ⟨v11, hq, h⟩ := cz_bd_t h
      refine cz_runS (rest := [.ref (a + 1)]) (As := [.int x1, .int (nI 0)]) X hM hl.1 (c_X5_ofCensor (l := l) (g := g) (b := b)  hq) mv_X5_ofCensor ml_X5_53 ⟨Nat.le_trans (Nat.le_of_ble_eq_true rfl) hRf, Nat.le_trans (Nat.le_of_ble_eq_true rfl) hRl⟩ rfl rfl (Nat.le_of_ble_eq_true rfl) dX5_strike_51 (fun H locs hM => ?_)
      refine cz_iald (n := 551) X hM h hk10 (by decide) dX5_strike_54 (fun h => ?_)
      obtain ⟨v12, hq, h⟩ := cz_bd_t h
      refine cz_runS (rest := []) (As := [.int (M8.1 (a + 1) (Int32.toNatClampNeg v11))]) X hM hl.1 (c_X5_bits (l := l) (g := g) (b := b)  hq) mv_X5_bits ml_X5_62 ⟨Nat.le_trans (Nat.le_of_ble_eq_true rfl) hRf, Nat.le_trans (Nat.le_of_ble_eq_true rfl) hRl⟩ rfl rfl (Nat.le_of_ble_eq_true rfl) dX5_strike_55 (fun H locs hM => ?_)
      exact cz_reti X hM h rfl dX5_strike_58
    · have h := cz_ite_t c4 h
      refine lv_iconst (v := -1) hx hb dX5_strike_19 (by decide) ?_
      exact cz_reti X hM h rfl dX5_strike_20
theorem mv_X5_isShift : cz_MS yX5_isShift cX5_isShift 1 (some .boolean) 1 := ⟨mt_X5_isShift, mc_X5_isShift, ini_X5, by decide +kernel⟩
set_option maxHeartbeats 4000000 in
set_option maxRecDepth 100000 in
theorem c_X5_isShift {l : Launch} {g : cz_G} {b : Nat} {M : cz_M} {r0 : Int32} {x0 : Int32}  (h : f_X5_isShift x0 = some r0) : cz_C l yX5_isShift cX5_isShift 1 (some .boolean) 1 22 g b [.int x0] M (some (.int r0)) M := by
  refine cz_start (by decide) (Nat.le_of_ble_eq_true rfl) (fun p e s m args below meth c X H ls hM hl => ?_)
  have X : cz_X p s m args meth c cX5_isShift 1 RX5 g b (some .boolean) := X
  obtain ⟨hx, hb, -, ho, ht, -⟩ := id X
  have hRf : 1 ≤ ({ frames := 1, cells := 0, slots := 0, locals := 22 } : Room).frames := Nat.le_refl _
  have hRl : 22 ≤ ({ frames := 1, cells := 0, slots := 0, locals := 22 } : Room).locals := Nat.le_refl _
  have hl : lv_has ls 1 [(0, .int x0)] := hl
  rw [f_X5_isShift] at h
  refine lv_iload_n hx hb dX5_isShift_0 rfl (lv_at hl 0 rfl) ?_
  refine lv_iconst (v := nI 0) hx hb dX5_isShift_1 (by decide) ?_
  refine lv_bipush (v := nI 7) hx hb dX5_isShift_2 (by decide) ?_
  obtain ⟨v1, hq, h⟩ := cz_bd_t h
  refine cz_runS (rest := []) (As := [.int x0, .int (nI 0), .int (nI 7)]) X hM hl.1 (c_X5_in (l := l) (g := g) (b := b)  hq) mv_X5_in ml_X5_38 ⟨Nat.le_trans (Nat.le_of_ble_eq_true rfl) hRf, Nat.le_trans (Nat.le_of_ble_eq_true rfl) hRl⟩ rfl rfl (Nat.le_of_ble_eq_true rfl) dX5_isShift_4 (fun H locs hM => ?_)
  exact cz_retz X hM h dX5_isShift_7
theorem mv_X5_trades : cz_MV yX5_trades cX5_trades 4 none RX5 2 := ⟨mi_X5_trades, ms_X5_trades, mc_X5_trades, ini_X5, by decide +kernel⟩
set_option maxHeartbeats 4000000 in
set_option maxRecDepth 100000 in
theorem c_X5_trades {l : Launch} {g : cz_G} {b : Nat} {M : cz_M} {M9 : cz_M} {a : Nat} {x1 : Int32} {x2 : Int32} (ka : cz_K b a 5) (h : f_X5_trades M a x1 x2 = some M9) : cz_C l yX5_trades cX5_trades 4 none 0 0 g b [.ref a, .int x1, .int x2] M none M9 := by
  refine cz_start (by decide) (Nat.le_of_ble_eq_true rfl) (fun p e s m args below meth c X H ls hM hl => ?_)
  have X : cz_X p s m args meth c cX5_trades 4 RX5 g b none := X
  obtain ⟨hx, hb, -, ho, ht, -⟩ := id X
  have hRf : 0 ≤ ({ frames := 0, cells := 0, slots := 0, locals := 0 } : Room).frames := Nat.le_refl _
  have hRl : 0 ≤ ({ frames := 0, cells := 0, slots := 0, locals := 0 } : Room).locals := Nat.le_refl _
  have hl : lv_has ls 4 [(0, .ref a), (1, .int x1), (2, .int x2)] := hl
  rw [f_X5_trades] at h
  refine lv_aload_n hx hb dX5_trades_0 rfl (lv_at hl 0 rfl) ?_
  refine cz_getR X hM ff_X5_0 ka lk_X5_7 dX5_trades_1 (fun hk1 => ?_)
  refine lv_iconst (v := nI 5) hx hb dX5_trades_4 (by decide) ?_
  refine lv_iload_n hx hb dX5_trades_5 rfl (lv_at hl 1 rfl) ?_
  refine lv_iadd hx hb dX5_trades_6 ?_
  refine cz_iald (n := 551) X hM h hk1 (by decide) dX5_trades_7 (fun h => ?_)
  refine cz_nmi h (fun v2 h => ?_)
  refine lv_istore_n (lv' := [(3, .int v2), (0, .ref a), (1, .int x1), (2, .int x2)]) hx hb dX5_trades_8 rfl hl (by decide) rfl (fun ls hl => ?_)
  refine lv_aload_n hx hb dX5_trades_9 rfl (lv_at hl 1 rfl) ?_
  refine cz_getR X hM ff_X5_0 ka lk_X5_7 dX5_trades_10 (fun hk3 => ?_)
  refine lv_iconst (v := nI 5) hx hb dX5_trades_13 (by decide) ?_
  refine lv_iload_n hx hb dX5_trades_14 rfl (lv_at hl 2 rfl) ?_
  refine lv_iadd hx hb dX5_trades_15 ?_
  refine lv_aload_n hx hb dX5_trades_16 rfl (lv_at hl 1 rfl) ?_
  refine cz_getR X hM ff_X5_0 ka lk_X5_7 dX5_trades_17 (fun hk4 => ?_)
  refine lv_iconst (v := nI 5) hx hb dX5_trades_20 (by decide) ?_
  refine lv_iload_n hx hb dX5_trades_21 rfl (lv_at hl 3 rfl) ?_
  refine lv_iadd hx hb dX5_trades_22 ?_
  refine cz_iald (n := 551) X hM h hk4 (by decide) dX5_trades_23 (fun h => ?_)
  refine cz_iast (n := 551) X hM h hk3 (by decide) dX5_trades_24 (fun M5 H locs h hM => ?_)
  refine lv_aload_n hx hb dX5_trades_25 rfl (lv_at hl 1 rfl) ?_
  refine cz_getR X hM ff_X5_0 ka lk_X5_7 dX5_trades_26 (fun hk6 => ?_)
  refine lv_iconst (v := nI 5) hx hb dX5_trades_29 (by decide) ?_
  refine lv_iload_n hx hb dX5_trades_30 rfl (lv_at hl 3 rfl) ?_
  refine lv_iadd hx hb dX5_trades_31 ?_
  refine lv_iload_n hx hb dX5_trades_32 rfl (lv_at hl 0 rfl) ?_
  refine cz_iast (n := 551) X hM h hk6 (by decide) dX5_trades_33 (fun M7 H locs h hM => ?_)
  exact cz_retv X hM h dX5_trades_34
