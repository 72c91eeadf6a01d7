theorem mv_X5_trade : cz_MV yX5_trade cX5_trade 3 (some .int) RX5 2 := ⟨mi_X5_trade, ms_X5_trade, mc_X5_trade, ini_X5, by decide +kernel⟩
set_option maxHeartbeats 4000000 in
set_option maxRecDepth 100000 in
theorem c_X5_trade {l : Launch} {g : cz_G} {b : Nat} {M : cz_M} {r0 : Int32} {M9 : cz_M} {a : Nat} {x1 : Int32} {x2 : Int32} (ka : cz_K b a 5) (h : f_X5_trade M a x1 x2 = some (r0, M9)) : cz_C l yX5_trade cX5_trade 3 (some .int) 2 42 g b [.ref a, .int x1, .int x2] M (some (.int r0)) M9 := by
  refine cz_start (by decide) (Nat.le_of_ble_eq_true rfl) (fun p e s m args below meth c X H ls hM hl => ?_)
  have X : cz_X p s m args meth c cX5_trade 3 RX5 g b (some .int) := X
  obtain ⟨hx, hb, -, ho, ht, -⟩ := id X
  have hRf : 2 ≤ ({ frames := 2, cells := 0, slots := 0, locals := 42 } : Room).frames := Nat.le_refl _
  have hRl : 42 ≤ ({ frames := 2, cells := 0, slots := 0, locals := 42 } : Room).locals := Nat.le_refl _
  have hl : lv_has ls 3 [(0, .ref a), (1, .int x1), (2, .int x2)] := hl
  rw [f_X5_trade] at h
  refine lv_iload_n hx hb dX5_trade_0 rfl (lv_at hl 1 rfl) ?_
  obtain ⟨v1, hq, h⟩ := cz_bd_t h
  refine cz_runS (rest := []) (As := [.int x1]) X hM hl.1 (c_X5_isShift (l := l) (g := g) (b := b)  hq) mv_X5_isShift ml_X5_94 ⟨Nat.le_trans (Nat.le_of_ble_eq_true rfl) hRf, Nat.le_trans (Nat.le_of_ble_eq_true rfl) hRl⟩ rfl rfl (Nat.le_of_ble_eq_true rfl) dX5_trade_1 (fun H locs hM => ?_)
  refine lv_if_eq (tgt := 14) hx hb dX5_trade_4 (by decide) (fun c2 => ?_) (fun c2 => ?_)
  · have h := cz_ite_t c2 h
    refine lv_iconst (v := -1) hx hb dX5_trade_14 (by decide) ?_
    exact cz_reti X hM h rfl dX5_trade_15
  · have h := cz_ite_f c2 h
    refine lv_iload_n hx hb dX5_trade_7 rfl (lv_at hl 2 rfl) ?_
    obtain ⟨v3, hq, h⟩ := cz_bd_t h
    refine cz_runS (rest := []) (As := [.int x2]) X hM hl.1 (c_X5_isShift (l := l) (g := g) (b := b)  hq) mv_X5_isShift ml_X5_94 ⟨Nat.le_trans (Nat.le_of_ble_eq_true rfl) hRf, Nat.le_trans (Nat.le_of_ble_eq_true rfl) hRl⟩ rfl rfl (Nat.le_of_ble_eq_true rfl) dX5_trade_8 (fun H locs hM => ?_)
    refine lv_if_ne (tgt := 16) hx hb dX5_trade_11 (by decide) (fun c4 => ?_) (fun c4 => ?_)
    · have h := cz_ite_f c4 h
      refine lv_aload_n hx hb dX5_trade_16 rfl (lv_at hl 0 rfl) ?_
      refine cz_getR X hM ff_X5_0 ka lk_X5_7 dX5_trade_17 (fun hk5 => ?_)
      refine lv_iconst (v := nI 5) hx hb dX5_trade_20 (by decide) ?_
      refine lv_iload_n hx hb dX5_trade_21 rfl (lv_at hl 1 rfl) ?_
      refine lv_iadd hx hb dX5_trade_22 ?_
      refine cz_iald (n := 551) X hM h hk5 (by decide) dX5_trade_23 (fun h => ?_)
      refine lv_aload_n hx hb dX5_trade_24 rfl (lv_at hl 0 rfl) ?_
      refine cz_getR X hM ff_X5_0 ka lk_X5_7 dX5_trade_25 (fun hk6 => ?_)
      refine lv_iconst (v := nI 5) hx hb dX5_trade_28 (by decide) ?_
      refine lv_iload_n hx hb dX5_trade_29 rfl (lv_at hl 2 rfl) ?_
      refine lv_iadd hx hb dX5_trade_30 ?_
      refine cz_iald (n := 551) X hM h hk6 (by decide) dX5_trade_31 (fun h => ?_)
      refine lv_icmp_ne (tgt := 38) hx hb dX5_trade_32 (by decide) (fun c7 => ?_) (fun c7 => ?_)
      · have h := cz_ite_f c7 h
        refine lv_aload_n hx hb dX5_trade_38 rfl (lv_at hl 0 rfl) ?_
        obtain ⟨M8, hq, h⟩ := cz_bd_t h
        refine cz_runV (rest := []) (As := []) (T := TX5) (N0 := 12) X hM hl.1 (c_X5_record (l := l) (g := g) (b := b) ka hq) mv_X5_record rfl (by decide) ka ml_X5_88 ⟨Nat.le_trans (Nat.le_of_ble_eq_true rfl) hRf, Nat.le_trans (Nat.le_of_ble_eq_true rfl) hRl⟩ rfl rfl (Nat.le_of_ble_eq_true rfl) dX5_trade_39 (fun H locs hM => ?_)
        refine lv_aload_n hx hb dX5_trade_42 rfl (lv_at hl 0 rfl) ?_
        refine lv_iload_n hx hb dX5_trade_43 rfl (lv_at hl 1 rfl) ?_
        refine lv_iload_n hx hb dX5_trade_44 rfl (lv_at hl 2 rfl) ?_
        obtain ⟨M9, hq, h⟩ := cz_bd_t h
        refine cz_runV (rest := []) (As := [.int x1, .int x2]) (T := TX5) (N0 := 12) X hM hl.1 (c_X5_trades (l := l) (g := g) (b := b) ka hq) mv_X5_trades rfl (by decide) ka ml_X5_97 ⟨Nat.le_trans (Nat.le_of_ble_eq_true rfl) hRf, Nat.le_trans (Nat.le_of_ble_eq_true rfl) hRl⟩ rfl rfl (Nat.le_of_ble_eq_true rfl) dX5_trade_45 (fun H locs hM => ?_)
        refine lv_aload_n hx hb dX5_trade_48 rfl (lv_at hl 0 rfl) ?_
        refine cz_getR X hM ff_X5_0 ka lk_X5_7 dX5_trade_49 (fun hk10 => ?_)
        refine lv_iconst (v := nI 5) hx hb dX5_trade_52 (by decide) ?_
        refine lv_iload_n hx hb dX5_trade_53 rfl (lv_at hl 1 rfl) ?_
        refine lv_iadd hx hb dX5_trade_54 ?_
        refine cz_iald (n := 551) X hM h hk10 (by decide) dX5_trade_55 (fun h => ?_)
        exact cz_reti X hM h rfl dX5_trade_56
      · have h := cz_ite_t c7 h
        refine lv_bipush (v := -5) hx hb dX5_trade_35 (by decide) ?_
        exact cz_reti X hM h rfl dX5_trade_37
    · have h := cz_ite_t c4 h
      refine lv_iconst (v := -1) hx hb dX5_trade_14 (by decide) ?_
      exact cz_reti X hM h rfl dX5_trade_15
theorem mv_X5_placeOf : cz_MV yX5_placeOf cX5_placeOf 5 (some .int) RX5 1 := ⟨mi_X5_placeOf, ms_X5_placeOf, mc_X5_placeOf, ini_X5, by decide +kernel⟩
set_option maxHeartbeats 4000000 in
set_option maxRecDepth 100000 in
theorem w_X5_placeOf_L13 {p : Program} {l : Launch} {e : Env} {R : Room} {s : State} {m : MethodId} {args : Array Value} {below : List Frame} {meth : Method} {c : Code} {g : cz_G} {b : Nat} (X : cz_X p s m args meth c cX5_placeOf 5 RX5 g b (some .int)) (hRf : 2 ≤ R.frames) (hRl : 43 ≤ R.locals) {r0 : Int32} {a0 : Nat} {x1 : Int32} {x2 : Int32} {M : cz_M} (ka0 : cz_K b a0 5)
    (K : Int32 → Int32 → Option (Int32)) (hX : ∀ (x3 : Int32) (x4 : Int32) (H : Heap) (locs : List Loc) (ls : Array Slot), K x3 x4 = some r0 → cz_WS g b M s H locs → lv_has ls 5 [(0, .ref a0), (1, .int x1), (2, .int x2), (3, .int x3), (4, .int x4)] → W p l e R s m args below meth c H locs 0 0 (MQ below (cz_Q g b (some (.int r0)) M) args s 0 0 (fun q => b ≤ q)) (F0 m 64 ls [])) :
    ∀ (n : Nat) (x3 : Int32) (x4 : Int32) (H : Heap) (locs : List Loc) (ls : Array Slot), cz_it2 (f_X5_placeOf_L13 a0 x1 x2 M K) n x3 x4 = some r0 → cz_WS g b M s H locs → lv_has ls 5 [(0, .ref a0), (1, .int x1), (2, .int x2), (3, .int x3), (4, .int x4)] → W p l e R s m args below meth c H locs 0 0 (MQ below (cz_Q g b (some (.int r0)) M) args s 0 0 (fun q => b ≤ q)) (F0 m 13 ls []) := by
  obtain ⟨hx, hb, -, ho, ht, -⟩ := id X
  intro n
  induction n with
  | zero => intro x3 x4 H locs ls h; cases (show none = some _ from h)
  | succ n ih =>
    intro x3 x4 H locs ls h hM hl
    have h : f_X5_placeOf_L13 a0 x1 x2 M K (cz_it2 (f_X5_placeOf_L13 a0 x1 x2 M K) n) x3 x4 = some r0 := h
    rw [f_X5_placeOf_L13] at h
    refine lv_iload hx hb dX5_placeOf_13 (lv_at hl 4 rfl) ?_
    refine lv_aload_n hx hb dX5_placeOf_15 rfl (lv_at hl 0 rfl) ?_
    refine cz_getR X hM ff_X5_0 ka0 lk_X5_7 dX5_placeOf_16 (fun hk2 => ?_)
    refine lv_bipush (v := nI 29) hx hb dX5_placeOf_19 (by decide) ?_
    refine lv_iload_n hx hb dX5_placeOf_21 rfl (lv_at hl 2 rfl) ?_
    refine lv_iadd hx hb dX5_placeOf_22 ?_
    refine cz_iald (n := 551) X hM h hk2 (by decide) dX5_placeOf_23 (fun h => ?_)
    refine lv_icmp_ge (tgt := 64) hx hb dX5_placeOf_24 (by decide) (fun c3 => ?_) (fun c3 => ?_)
    · have h := cz_ite_t c3 h
      exact hX _ _ _ _ _ h hM (lv_sub hl [0, 1, 2, 3, 4] rfl)
    · have h := cz_ite_f c3 h
      refine lv_aload_n hx hb dX5_placeOf_27 rfl (lv_at hl 0 rfl) ?_
      refine lv_iload_n hx hb dX5_placeOf_28 rfl (lv_at hl 1 rfl) ?_
      refine lv_iconst (v := nI 2) hx hb dX5_placeOf_29 (by decide) ?_
      obtain ⟨v4, hq, h⟩ := cz_bd_t h
      refine cz_runV (rest := []) (As := [.int x1, .int (nI 2)]) (T := TX5) (N0 := 12) X hM hl.1 (c_X5_of (l := l) (g := g) (b := b) ka0 hq) mv_X5_of rfl (by decide) ka0 ml_X5_50 ⟨Nat.le_trans (Nat.le_of_ble_eq_true rfl) hRf, Nat.le_trans (Nat.le_of_ble_eq_true rfl) hRl⟩ rfl rfl (Nat.le_of_ble_eq_true rfl) dX5_placeOf_30 (fun H locs hM => ?_)
      refine lv_if_ne (tgt := 64) hx hb dX5_placeOf_33 (by decide) (fun c5 => ?_) (fun c5 => ?_)
      · have h := cz_ite_f c5 h
        exact hX _ _ _ _ _ h hM (lv_sub hl [0, 1, 2, 3, 4] rfl)
      · have h := cz_ite_t c5 h
        refine lv_aload_n hx hb dX5_placeOf_36 rfl (lv_at hl 0 rfl) ?_
        refine cz_getR X hM ff_X5_0 ka0 lk_X5_7 dX5_placeOf_37 (fun hk6 => ?_)
        refine lv_iload_n hx hb dX5_placeOf_40 rfl (lv_at hl 2 rfl) ?_
        refine lv_iload hx hb dX5_placeOf_41 (lv_at hl 4 rfl) ?_
        obtain ⟨v7, hq, h⟩ := cz_bd_t h
        refine cz_runS (rest := [.ref (a0 + 1)]) (As := [.int x2, .int x4]) X hM hl.1 (c_X5_inRow (l := l) (g := g) (b := b)  hq) mv_X5_inRow ml_X5_69 ⟨Nat.le_trans (Nat.le_of_ble_eq_true rfl) hRf, Nat.le_trans (Nat.le_of_ble_eq_true rfl) hRl⟩ rfl rfl (Nat.le_of_ble_eq_true rfl) dX5_placeOf_43 (fun H locs hM => ?_)
        refine cz_iald (n := 551) X hM h hk6 (by decide) dX5_placeOf_46 (fun h => ?_)
        refine lv_iload_n hx hb dX5_placeOf_47 rfl (lv_at hl 1 rfl) ?_
        refine lv_icmp_ne (tgt := 56) hx hb dX5_placeOf_48 (by decide) (fun c8 => ?_) (fun c8 => ?_)
        · have h := cz_ite_f c8 h
          refine lv_iload_n hx hb dX5_placeOf_56 rfl (lv_at hl 3 rfl) ?_
          refine lv_istore_n (lv' := [(3, .int x3), (0, .ref a0), (1, .int x1), (2, .int x2), (4, .int x4)]) hx hb dX5_placeOf_57 rfl hl (by decide) rfl (fun ls hl => ?_)
          refine cz_nmL (v := x4 + nI 1) h (fun v9 e10 h => ?_)
          refine lv_iinc (v := v9) (lv' := [(4, .int v9), (3, .int x3), (0, .ref a0), (1, .int x1), (2, .int x2)]) hx hb dX5_placeOf_58 hl (k := 4) rfl (by rw [e10]; rfl) (by decide) rfl (fun ls hl => ?_)
          refine lv_goto (tgt := 13) hx hb dX5_placeOf_61 (by decide) ?_
          exact ih _ _ _ _ _ h hM (lv_sub hl [2, 3, 4, 1, 0] rfl)
        · have h := cz_ite_t c8 h
          refine lv_iload hx hb dX5_placeOf_51 (lv_at hl 4 rfl) ?_
          refine lv_goto (tgt := 57) hx hb dX5_placeOf_53 (by decide) ?_
          refine lv_istore_n (lv' := [(3, .int x4), (0, .ref a0), (1, .int x1), (2, .int x2), (4, .int x4)]) hx hb dX5_placeOf_57 rfl hl (by decide) rfl (fun ls hl => ?_)
          refine cz_nmL (v := x4 + nI 1) h (fun v11 e12 h => ?_)
          refine lv_iinc (v := v11) (lv' := [(4, .int v11), (3, .int x4), (0, .ref a0), (1, .int x1), (2, .int x2)]) hx hb dX5_placeOf_58 hl (k := 4) rfl (by rw [e12]; rfl) (by decide) rfl (fun ls hl => ?_)
          refine lv_goto (tgt := 13) hx hb dX5_placeOf_61 (by decide) ?_
          exact ih _ _ _ _ _ h hM (lv_sub hl [2, 3, 4, 1, 0] rfl)
set_option maxHeartbeats 4000000 in
set_option maxRecDepth 100000 in
theorem c_X5_placeOf {l : Launch} {g : cz_G} {b : Nat} {M : cz_M} {r0 : Int32} {a : Nat} {x1 : Int32} (ka : cz_K b a 5) (h : f_X5_placeOf M a x1 = some r0) : cz_C l yX5_placeOf cX5_placeOf 5 (some .int) 2 43 g b [.ref a, .int x1] M (some (.int r0)) M := by
  refine cz_start (by decide) (Nat.le_of_ble_eq_true rfl) (fun p e s m args below meth c X H ls hM hl => ?_)
  have X : cz_X p s m args meth c cX5_placeOf 5 RX5 g b (some .int) := X
  obtain ⟨hx, hb, -, ho, ht, -⟩ := id X
  have hRf : 2 ≤ ({ frames := 2, cells := 0, slots := 0, locals := 43 } : Room).frames := Nat.le_refl _
  have hRl : 43 ≤ ({ frames := 2, cells := 0, slots := 0, locals := 43 } : Room).locals := Nat.le_refl _
  have hl : lv_has ls 5 [(0, .ref a), (1, .int x1)] := hl
  rw [f_X5_placeOf] at h
  refine lv_aload_n hx hb dX5_placeOf_0 rfl (lv_at hl 0 rfl) ?_
  refine lv_iload_n hx hb dX5_placeOf_1 rfl (lv_at hl 1 rfl) ?_
  refine lv_iconst (v := nI 1) hx hb dX5_placeOf_2 (by decide) ?_
  obtain ⟨v1, hq, h⟩ := cz_bd_t h
  refine cz_runV (rest := []) (As := [.int x1, .int (nI 1)]) (T := TX5) (N0 := 12) X hM hl.1 (c_X5_of (l := l) (g := g) (b := b) ka hq) mv_X5_of rfl (by decide) ka ml_X5_50 ⟨Nat.le_trans (Nat.le_of_ble_eq_true rfl) hRf, Nat.le_trans (Nat.le_of_ble_eq_true rfl) hRl⟩ rfl rfl (Nat.le_of_ble_eq_true rfl) dX5_placeOf_3 (fun H locs hM => ?_)
  refine lv_istore_n (lv' := [(2, .int v1), (0, .ref a), (1, .int x1)]) hx hb dX5_placeOf_6 rfl hl (by decide) rfl (fun ls hl => ?_)
  refine lv_bipush (v := -6) hx hb dX5_placeOf_7 (by decide) ?_
  refine lv_istore_n (lv' := [(3, .int (-6 : Int32)), (2, .int v1), (0, .ref a), (1, .int x1)]) hx hb dX5_placeOf_9 rfl hl (by decide) rfl (fun ls hl => ?_)
  refine lv_iconst (v := nI 0) hx hb dX5_placeOf_10 (by decide) ?_
  refine lv_istore (lv' := [(4, .int (nI 0)), (3, .int (-6 : Int32)), (2, .int v1), (0, .ref a), (1, .int x1)]) hx hb dX5_placeOf_11 hl (by decide) rfl (fun ls hl => ?_)
  refine w_X5_placeOf_L13 X hRf hRl ka _ (fun x13 x14 H locs ls h hM hl => ?_) _ _ _ _ _ _ h hM (lv_sub hl [3, 4, 2, 1, 0] rfl)
  refine lv_iload_n hx hb dX5_placeOf_64 rfl (lv_at hl 3 rfl) ?_
  exact cz_retp X hM h rfl dX5_placeOf_65
theorem mv_X5_burn : cz_MV yX5_burn cX5_burn 5 (some .int) RX5 1 := ⟨mi_X5_burn, ms_X5_burn, mc_X5_burn, ini_X5, by decide +kernel⟩
set_option maxHeartbeats 4000000 in
set_option maxRecDepth 100000 in
theorem w_X5_burn_L66 {p : Program} {l : Launch} {e : Env} {R : Room} {s : State} {m : MethodId} {args : Array Value} {below : List Frame} {meth : Method} {c : Code} {g : cz_G} {b : Nat} (X : cz_X p s m args meth c cX5_burn 5 RX5 g b (some .int)) (hRf : 3 ≤ R.frames) (hRl : 67 ≤ R.locals) {r0 : Int32} {M9 : cz_M} {a0 : Nat} {x1 : Int32} {x2 : Int32} (ka0 : cz_K b a0 5)
    (K : Int32 → cz_M → Option (Int32 × cz_M)) (hX : ∀ (x4 : Int32) (M : cz_M) (H : Heap) (locs : List Loc) (ls : Array Slot), K x4 M = some (r0, M9) → cz_WS g b M s H locs → lv_has ls 5 [(0, .ref a0), (1, .int x1), (2, .int x2), (4, .int x4)] → W p l e R s m args below meth c H locs 0 0 (MQ below (cz_Q g b (some (.int r0)) M9) args s 0 0 (fun q => b ≤ q)) (F0 m 110 ls [])) :
    ∀ (n : Nat) (x4 : Int32) (M : cz_M) (H : Heap) (locs : List Loc) (ls : Array Slot), cz_it2 (f_X5_burn_L66 a0 x1 x2 K) n x4 M = some (r0, M9) → cz_WS g b M s H locs → lv_has ls 5 [(0, .ref a0), (1, .int x1), (2, .int x2), (4, .int x4)] → W p l e R s m args below meth c H locs 0 0 (MQ below (cz_Q g b (some (.int r0)) M9) args s 0 0 (fun q => b ≤ q)) (F0 m 66 ls []) := by
  obtain ⟨hx, hb, -, ho, ht, -⟩ := id X
  intro n
  induction n with
  | zero => intro x4 M H locs ls h; cases (show none = some _ from h)
  | succ n ih =>
    intro x4 M H locs ls h hM hl
    have h : f_X5_burn_L66 a0 x1 x2 K (cz_it2 (f_X5_burn_L66 a0 x1 x2 K) n) x4 M = some (r0, M9) := h
    rw [f_X5_burn_L66] at h
    refine lv_iload hx hb dX5_burn_66 (lv_at hl 3 rfl) ?_
    refine lv_aload_n hx hb dX5_burn_68 rfl (lv_at hl 0 rfl) ?_
    refine cz_getR X hM ff_X5_0 ka0 lk_X5_7 dX5_burn_69 (fun hk13 => ?_)
    refine lv_bipush (v := nI 29) hx hb dX5_burn_72 (by decide) ?_
    refine lv_iload_n hx hb dX5_burn_74 rfl (lv_at hl 2 rfl) ?_
    refine lv_iadd hx hb dX5_burn_75 ?_
    refine cz_iald (n := 551) X hM h hk13 (by decide) dX5_burn_76 (fun h => ?_)
    refine lv_icmp_ge (tgt := 110) hx hb dX5_burn_77 (by decide) (fun c14 => ?_) (fun c14 => ?_)
    · have h := cz_ite_t c14 h
      exact hX _ _ _ _ _ h hM (lv_sub hl [0, 1, 2, 3] rfl)
    · have h := cz_ite_f c14 h
      refine lv_aload_n hx hb dX5_burn_80 rfl (lv_at hl 0 rfl) ?_
      refine cz_getR X hM ff_X5_0 ka0 lk_X5_7 dX5_burn_81 (fun hk15 => ?_)
      refine lv_iload_n hx hb dX5_burn_84 rfl (lv_at hl 2 rfl) ?_
      refine lv_iload hx hb dX5_burn_85 (lv_at hl 3 rfl) ?_
      obtain ⟨v16, hq, h⟩ := cz_bd_t h
      refine cz_runS (rest := [.ref (a0 + 1)]) (As := [.int x2, .int x4]) X hM hl.1 (c_X5_inRow (l := l) (g := g) (b := b)  hq) mv_X5_inRow ml_X5_69 ⟨Nat.le_trans (Nat.le_of_ble_eq_true rfl) hRf, Nat.le_trans (Nat.le_of_ble_eq_true rfl) hRl⟩ rfl rfl (Nat.le_of_ble_eq_true rfl) dX5_burn_87 (fun H locs hM => ?_)
      refine lv_aload_n hx hb dX5_burn_90 rfl (lv_at hl 0 rfl) ?_
      refine cz_getR X hM ff_X5_0 ka0 lk_X5_7 dX5_burn_91 (fun hk17 => ?_)
      refine lv_iload_n hx hb dX5_burn_94 rfl (lv_at hl 2 rfl) ?_
      refine lv_iload hx hb dX5_burn_95 (lv_at hl 3 rfl) ?_
      refine lv_iconst (v := nI 1) hx hb dX5_burn_97 (by decide) ?_
      refine lv_iadd hx hb dX5_burn_98 ?_
      obtain ⟨v18, hq, h⟩ := cz_bd_t h
      refine cz_runS (rest := [.ref (a0 + 1), .int v16, .ref (a0 + 1)]) (As := [.int x2, .int (x4 + (nI 1))]) X hM hl.1 (c_X5_inRow (l := l) (g := g) (b := b)  hq) mv_X5_inRow ml_X5_69 ⟨Nat.le_trans (Nat.le_of_ble_eq_true rfl) hRf, Nat.le_trans (Nat.le_of_ble_eq_true rfl) hRl⟩ rfl rfl (Nat.le_of_ble_eq_true rfl) dX5_burn_99 (fun H locs hM => ?_)
      refine cz_iald (n := 551) X hM h hk17 (by decide) dX5_burn_102 (fun h => ?_)
      refine cz_iast (n := 551) X hM h hk15 (by decide) dX5_burn_103 (fun M19 H locs h hM => ?_)
      refine cz_nmL (v := x4 + nI 1) h (fun v20 e21 h => ?_)
      refine lv_iinc (v := v20) (lv' := [(4, .int v20), (0, .ref a0), (1, .int x1), (2, .int x2)]) hx hb dX5_burn_104 hl (k := 3) rfl (by rw [e21]; rfl) (by decide) rfl (fun ls hl => ?_)
      refine lv_goto (tgt := 66) hx hb dX5_burn_107 (by decide) ?_
      exact ih _ _ _ _ _ h hM (lv_sub hl [1, 2, 3, 0] rfl)
set_option maxHeartbeats 4000000 in
set_option maxRecDepth 100000 in
theorem c_X5_burn {l : Launch} {g : cz_G} {b : Nat} {M : cz_M} {r0 : Int32} {M9 : cz_M} {a : Nat} {x1 : Int32} (ka : cz_K b a 5) (h : f_X5_burn M a x1 = some (r0, M9)) : cz_C l yX5_burn cX5_burn 5 (some .int) 3 67 g b [.ref a, .int x1] M (some (.int r0)) M9 := by
  refine cz_start (by decide) (Nat.le_of_ble_eq_true rfl) (fun p e s m args below meth c X H ls hM hl => ?_)
  have X : cz_X p s m args meth c cX5_burn 5 RX5 g b (some .int) := X
  obtain ⟨hx, hb, -, ho, ht, -⟩ := id X
  have hRf : 3 ≤ ({ frames := 3, cells := 0, slots := 0, locals := 67 } : Room).frames := Nat.le_refl _
  have hRl : 67 ≤ ({ frames := 3, cells := 0, slots := 0, locals := 67 } : Room).locals := Nat.le_refl _
  have hl : lv_has ls 5 [(0, .ref a), (1, .int x1)] := hl
  rw [f_X5_burn] at h
  refine lv_aload_n hx hb dX5_burn_0 rfl (lv_at hl 0 rfl) ?_
  refine lv_iload_n hx hb dX5_burn_1 rfl (lv_at hl 1 rfl) ?_
  obtain ⟨v1, hq, h⟩ := cz_bd_t h
  refine cz_runV (rest := []) (As := [.int x1]) (T := TX5) (N0 := 12) X hM hl.1 (c_X5_isLetter (l := l) (g := g) (b := b) ka hq) mv_X5_isLetter rfl (by decide) ka ml_X5_100 ⟨Nat.le_trans (Nat.le_of_ble_eq_true rfl) hRf, Nat.le_trans (Nat.le_of_ble_eq_true rfl) hRl⟩ rfl rfl (Nat.le_of_ble_eq_true rfl) dX5_burn_2 (fun H locs hM => ?_)
  refine lv_if_ne (tgt := 10) hx hb dX5_burn_5 (by decide) (fun c2 => ?_) (fun c2 => ?_)
  · have h := cz_ite_f c2 h
    refine lv_aload_n hx hb dX5_burn_10 rfl (lv_at hl 0 rfl) ?_
    refine lv_iload_n hx hb dX5_burn_11 rfl (lv_at hl 1 rfl) ?_
    refine lv_iconst (v := nI 2) hx hb dX5_burn_12 (by decide) ?_
    obtain ⟨v3, hq, h⟩ := cz_bd_t h
    refine cz_runV (rest := []) (As := [.int x1, .int (nI 2)]) (T := TX5) (N0 := 12) X hM hl.1 (c_X5_of (l := l) (g := g) (b := b) ka hq) mv_X5_of rfl (by decide) ka ml_X5_50 ⟨Nat.le_trans (Nat.le_of_ble_eq_true rfl) hRf, Nat.le_trans (Nat.le_of_ble_eq_true rfl) hRl⟩ rfl rfl (Nat.le_of_ble_eq_true rfl) dX5_burn_13 (fun H locs hM => ?_)
    refine lv_if_eq (tgt := 22) hx hb dX5_burn_16 (by decide) (fun c4 => ?_) (fun c4 => ?_)
    · have h := cz_ite_t c4 h
      refine lv_aload_n hx hb dX5_burn_22 rfl (lv_at hl 0 rfl) ?_
      obtain ⟨M5, hq, h⟩ := cz_bd_t h
      refine cz_runV (rest := []) (As := []) (T := TX5) (N0 := 12) X hM hl.1 (c_X5_record (l := l) (g := g) (b := b) ka hq) mv_X5_record rfl (by decide) ka ml_X5_88 ⟨Nat.le_trans (Nat.le_of_ble_eq_true rfl) hRf, Nat.le_trans (Nat.le_of_ble_eq_true rfl) hRl⟩ rfl rfl (Nat.le_of_ble_eq_true rfl) dX5_burn_23 (fun H locs hM => ?_)
      refine lv_aload_n hx hb dX5_burn_26 rfl (lv_at hl 0 rfl) ?_
      refine lv_iload_n hx hb dX5_burn_27 rfl (lv_at hl 1 rfl) ?_
      refine lv_iconst (v := nI 1) hx hb dX5_burn_28 (by decide) ?_
      obtain ⟨v6, hq, h⟩ := cz_bd_t h
      refine cz_runV (rest := []) (As := [.int x1, .int (nI 1)]) (T := TX5) (N0 := 12) X hM hl.1 (c_X5_of (l := l) (g := g) (b := b) ka hq) mv_X5_of rfl (by decide) ka ml_X5_50 ⟨Nat.le_trans (Nat.le_of_ble_eq_true rfl) hRf, Nat.le_trans (Nat.le_of_ble_eq_true rfl) hRl⟩ rfl rfl (Nat.le_of_ble_eq_true rfl) dX5_burn_29 (fun H locs hM => ?_)
      refine lv_istore_n (lv' := [(2, .int v6), (0, .ref a), (1, .int x1)]) hx hb dX5_burn_32 rfl hl (by decide) rfl (fun ls hl => ?_)
      refine lv_aload_n hx hb dX5_burn_33 rfl (lv_at hl 1 rfl) ?_
      refine lv_iload_n hx hb dX5_burn_34 rfl (lv_at hl 2 rfl) ?_
      obtain ⟨v7, hq, h⟩ := cz_bd_t h
      refine cz_runV (rest := []) (As := [.int x1]) (T := TX5) (N0 := 12) X hM hl.1 (c_X5_placeOf (l := l) (g := g) (b := b) ka hq) mv_X5_placeOf rfl (by decide) ka ml_X5_103 ⟨Nat.le_trans (Nat.le_of_ble_eq_true rfl) hRf, Nat.le_trans (Nat.le_of_ble_eq_true rfl) hRl⟩ rfl rfl (Nat.le_of_ble_eq_true rfl) dX5_burn_35 (fun H locs hM => ?_)
      refine lv_istore_n (lv' := [(3, .int v7), (2, .int v6), (0, .ref a), (1, .int x1)]) hx hb dX5_burn_38 rfl hl (by decide) rfl (fun ls hl => ?_)
      refine lv_aload_n hx hb dX5_burn_39 rfl (lv_at hl 2 rfl) ?_
      refine cz_getR X hM ff_X5_0 ka lk_X5_7 dX5_burn_40 (fun hk8 => ?_)
      refine lv_iload_n hx hb dX5_burn_43 rfl (lv_at hl 3 rfl) ?_
      refine lv_iconst (v := nI 2) hx hb dX5_burn_44 (by decide) ?_
      obtain ⟨v9, hq, h⟩ := cz_bd_t h
      refine cz_runS (rest := [.ref (a + 1)]) (As := [.int x1, .int (nI 2)]) X hM hl.1 (c_X5_at (l := l) (g := g) (b := b)  hq) mv_X5_at ml_X5_42 ⟨Nat.le_trans (Nat.le_of_ble_eq_true rfl) hRf, Nat.le_trans (Nat.le_of_ble_eq_true rfl) hRl⟩ rfl rfl (Nat.le_of_ble_eq_true rfl) dX5_burn_45 (fun H locs hM => ?_)
      refine lv_iconst (v := nI 2) hx hb dX5_burn_48 (by decide) ?_
      refine cz_iast (n := 551) X hM h hk8 (by decide) dX5_burn_49 (fun M10 H locs h hM => ?_)
      refine lv_aload_n hx hb dX5_burn_50 rfl (lv_at hl 2 rfl) ?_
      refine cz_getR X hM ff_X5_0 ka lk_X5_7 dX5_burn_51 (fun hk11 => ?_)
      refine lv_bipush (v := nI 29) hx hb dX5_burn_54 (by decide) ?_
      refine lv_iload_n hx hb dX5_burn_56 rfl (lv_at hl 1 rfl) ?_
      refine lv_iadd hx hb dX5_burn_57 ?_
      refine lv_dup2_11 hx hb dX5_burn_58 rfl rfl ?_
      refine cz_iald (n := 551) X hM h hk11 (by decide) dX5_burn_59 (fun h => ?_)
      refine lv_iconst (v := nI 1) hx hb dX5_burn_60 (by decide) ?_
      refine lv_isub hx hb dX5_burn_61 ?_
      refine cz_iast (n := 551) X hM h hk11 (by decide) dX5_burn_62 (fun M12 H locs h hM => ?_)
      refine lv_iload_n hx hb dX5_burn_63 rfl (lv_at hl 0 rfl) ?_
      refine lv_istore (lv' := [(4, .int v7), (3, .int v7), (2, .int v6), (0, .ref a), (1, .int x1)]) hx hb dX5_burn_64 hl (by decide) rfl (fun ls hl => ?_)
      refine w_X5_burn_L66 X hRf hRl ka _ (fun x22 M23 H locs ls h hM hl => ?_) _ _ _ _ _ _ h hM (lv_sub hl [3, 4, 2, 0] rfl)
      refine lv_aload_n hx hb dX5_burn_110 rfl (lv_at hl 0 rfl) ?_
      refine cz_getR X hM ff_X5_0 ka lk_X5_7 dX5_burn_111 (fun hk24 => ?_)
      refine lv_iload_n hx hb dX5_burn_114 rfl (lv_at hl 2 rfl) ?_
      refine lv_aload_n hx hb dX5_burn_115 rfl (lv_at hl 0 rfl) ?_
      refine cz_getR X hM ff_X5_0 ka lk_X5_7 dX5_burn_116 (fun hk25 => ?_)
      refine lv_bipush (v := nI 29) hx hb dX5_burn_119 (by decide) ?_
      refine lv_iload_n hx hb dX5_burn_121 rfl (lv_at hl 2 rfl) ?_
      refine lv_iadd hx hb dX5_burn_122 ?_
      refine cz_iald (n := 551) X hM h hk25 (by decide) dX5_burn_123 (fun h => ?_)
      obtain ⟨v26, hq, h⟩ := cz_bd_t h
      refine cz_runS (rest := [.ref (a + 1)]) (As := [.int v6, .int (M23.1 (a + 1) (Int32.toNatClampNeg ((nI 29) + v6)))]) X hM hl.1 (c_X5_inRow (l := l) (g := g) (b := b)  hq) mv_X5_inRow ml_X5_69 ⟨Nat.le_trans (Nat.le_of_ble_eq_true rfl) hRf, Nat.le_trans (Nat.le_of_ble_eq_true rfl) hRl⟩ rfl rfl (Nat.le_of_ble_eq_true rfl) dX5_burn_124 (fun H locs hM => ?_)
      refine lv_iconst (v := nI 0) hx hb dX5_burn_127 (by decide) ?_
      refine cz_iast (n := 551) X hM h hk24 (by decide) dX5_burn_128 (fun M27 H locs h hM => ?_)
      refine lv_aload_n hx hb dX5_burn_129 rfl (lv_at hl 0 rfl) ?_
      refine cz_getR X hM ff_X5_0 ka lk_X5_7 dX5_burn_130 (fun hk28 => ?_)
      refine lv_iconst (v := nI 3) hx hb dX5_burn_133 (by decide) ?_
      refine cz_iald (n := 551) X hM h hk28 (by decide) dX5_burn_134 (fun h => ?_)
      refine lv_aload_n hx hb dX5_burn_135 rfl (lv_at hl 0 rfl) ?_
      refine lv_iload_n hx hb dX5_burn_136 rfl (lv_at hl 1 rfl) ?_
      refine lv_iconst (v := nI 3) hx hb dX5_burn_137 (by decide) ?_
      obtain ⟨v29, hq, h⟩ := cz_bd_t h
      refine cz_runV (rest := [.int (M27.1 (a + 1) (Int32.toNatClampNeg (nI 3)))]) (As := [.int x1, .int (nI 3)]) (T := TX5) (N0 := 12) X hM hl.1 (c_X5_of (l := l) (g := g) (b := b) ka hq) mv_X5_of rfl (by decide) ka ml_X5_50 ⟨Nat.le_trans (Nat.le_of_ble_eq_true rfl) hRf, Nat.le_trans (Nat.le_of_ble_eq_true rfl) hRl⟩ rfl rfl (Nat.le_of_ble_eq_true rfl) dX5_burn_138 (fun H locs hM => ?_)
      refine lv_isub hx hb dX5_burn_141 ?_
      exact cz_reti X hM h rfl dX5_burn_142
    · have h := cz_ite_f c4 h
      refine lv_bipush (v := -5) hx hb dX5_burn_19 (by decide) ?_
      exact cz_reti X hM h rfl dX5_burn_21
  · have h := cz_ite_t c2 h
    refine lv_iconst (v := -1) hx hb dX5_burn_8 (by decide) ?_
    exact cz_reti X hM h rfl dX5_burn_9
theorem mv_X5_pass : cz_MV yX5_pass cX5_pass 2 (some .int) RX5 1 := ⟨mi_X5_pass, ms_X5_pass, mc_X5_pass, ini_X5, by decide +kernel⟩
set_option maxHeartbeats 4000000 in
set_option maxRecDepth 100000 in
theorem c_X5_pass {l : Launch} {g : cz_G} {b : Nat} {M : cz_M} {r0 : Int32} {M9 : cz_M} {a : Nat} {x1 : Int32} (ka : cz_K b a 5) (h : f_X5_pass M a x1 = some (r0, M9)) : cz_C l yX5_pass cX5_pass 2 (some .int) 8 187 g b [.ref a, .int x1] M (some (.int r0)) M9 := by
  refine cz_start (by decide) (Nat.le_of_ble_eq_true rfl) (fun p e s m args below meth c X H ls hM hl => ?_)
  have X : cz_X p s m args meth c cX5_pass 2 RX5 g b (some .int) := X
  obtain ⟨hx, hb, -, ho, ht, -⟩ := id X
  have hRf : 8 ≤ ({ frames := 8, cells := 0, slots := 0, locals := 187 } : Room).frames := Nat.le_refl _
  have hRl : 187 ≤ ({ frames := 8, cells := 0, slots := 0, locals := 187 } : Room).locals := Nat.le_refl _
  have hl : lv_has ls 2 [(0, .ref a), (1, .int x1)] := hl
  rw [f_X5_pass] at h
  refine lv_iload_n hx hb dX5_pass_0 rfl (lv_at hl 1 rfl) ?_
  refine lv_iconst (v := nI 1) hx hb dX5_pass_1 (by decide) ?_
  refine lv_bipush (v := nI 52) hx hb dX5_pass_2 (by decide) ?_
  obtain ⟨v1, hq, h⟩ := cz_bd_t h
  refine cz_runS (rest := []) (As := [.int x1, .int (nI 1), .int (nI 52)]) X hM hl.1 (c_X5_in (l := l) (g := g) (b := b)  hq) mv_X5_in ml_X5_38 ⟨Nat.le_trans (Nat.le_of_ble_eq_true rfl) hRf, Nat.le_trans (Nat.le_of_ble_eq_true rfl) hRl⟩ rfl rfl (Nat.le_of_ble_eq_true rfl) dX5_pass_4 (fun H locs hM => ?_)
  refine lv_if_ne (tgt := 13) hx hb dX5_pass_7 (by decide) (fun c2 => ?_) (fun c2 => ?_)
  · have h := cz_ite_f c2 h
    refine lv_aload_n hx hb dX5_pass_13 rfl (lv_at hl 0 rfl) ?_
    refine cz_getR X hM ff_X5_0 ka lk_X5_7 dX5_pass_14 (fun hk3 => ?_)
    refine lv_iconst (v := nI 3) hx hb dX5_pass_17 (by decide) ?_
    refine cz_iald (n := 551) X hM h hk3 (by decide) dX5_pass_18 (fun h => ?_)
    refine lv_iload_n hx hb dX5_pass_19 rfl (lv_at hl 1 rfl) ?_
    refine lv_iadd hx hb dX5_pass_20 ?_
    refine lv_sipush (v := nI 9999) hx hb dX5_pass_21 (by decide) ?_
    refine lv_icmp_le (tgt := 30) hx hb dX5_pass_24 (by decide) (fun c4 => ?_) (fun c4 => ?_)
    · have h := cz_ite_t c4 h
      refine lv_aload_n hx hb dX5_pass_30 rfl (lv_at hl 0 rfl) ?_
      obtain ⟨M5, hq, h⟩ := cz_bd_t h
      refine cz_runV (rest := []) (As := []) (T := TX5) (N0 := 12) X hM hl.1 (c_X5_record (l := l) (g := g) (b := b) ka hq) mv_X5_record rfl (by decide) ka ml_X5_88 ⟨Nat.le_trans (Nat.le_of_ble_eq_true rfl) hRf, Nat.le_trans (Nat.le_of_ble_eq_true rfl) hRl⟩ rfl rfl (Nat.le_of_ble_eq_true rfl) dX5_pass_31 (fun H locs hM => ?_)
      refine lv_aload_n hx hb dX5_pass_34 rfl (lv_at hl 0 rfl) ?_
      refine lv_iload_n hx hb dX5_pass_35 rfl (lv_at hl 1 rfl) ?_
      obtain ⟨v7, M6, hq, h⟩ := cz_b2_t h
      refine cz_runV (rest := []) (As := [.int x1]) (T := TX5) (N0 := 12) X hM hl.1 (c_X5_passes (l := l) (g := g) (b := b) ka hq) mv_X5_passes rfl (by decide) ka ml_X5_106 ⟨Nat.le_trans (Nat.le_of_ble_eq_true rfl) hRf, Nat.le_trans (Nat.le_of_ble_eq_true rfl) hRl⟩ rfl rfl (Nat.le_of_ble_eq_true rfl) dX5_pass_36 (fun H locs hM => ?_)
      exact cz_reti X hM h rfl dX5_pass_39
    · have h := cz_ite_f c4 h
      refine lv_bipush (v := -4) hx hb dX5_pass_27 (by decide) ?_
      exact cz_reti X hM h rfl dX5_pass_29
  · have h := cz_ite_t c2 h
    refine lv_bipush (v := -2) hx hb dX5_pass_10 (by decide) ?_
    exact cz_reti X hM h rfl dX5_pass_12
theorem mv_X5_aheadOf : cz_MV yX5_aheadOf cX5_aheadOf 4 (some .int) RX5 1 := ⟨mi_X5_aheadOf, ms_X5_aheadOf, mc_X5_aheadOf, ini_X5, by decide +kernel⟩
set_option maxHeartbeats 4000000 in
set_option maxRecDepth 100000 in
theorem w_X5_aheadOf_L5 {p : Program} {l : Launch} {e : Env} {R : Room} {s : State} {m : MethodId} {args : Array Value} {below : List Frame} {meth : Method} {c : Code} {g : cz_G} {b : Nat} (X : cz_X p s m args meth c cX5_aheadOf 4 RX5 g b (some .int)) (hRf : 2 ≤ R.frames) (hRl : 43 ≤ R.locals) {r0 : Int32} {a0 : Nat} {x1 : Int32} {M : cz_M} (ka0 : cz_K b a0 5)
    (K : Int32 → Int32 → Option (Int32)) (hX : ∀ (x2 : Int32) (x3 : Int32) (H : Heap) (locs : List Loc) (ls : Array Slot), K x2 x3 = some r0 → cz_WS g b M s H locs → lv_has ls 4 [(0, .ref a0), (1, .int x1), (2, .int x2), (3, .int x3)] → W p l e R s m args below meth c H locs 0 0 (MQ below (cz_Q g b (some (.int r0)) M) args s 0 0 (fun q => b ≤ q)) (F0 m 37 ls [])) :
    ∀ (n : Nat) (x2 : Int32) (x3 : Int32) (H : Heap) (locs : List Loc) (ls : Array Slot), cz_it2 (f_X5_aheadOf_L5 a0 x1 M K) n x2 x3 = some r0 → cz_WS g b M s H locs → lv_has ls 4 [(0, .ref a0), (1, .int x1), (2, .int x2), (3, .int x3)] → W p l e R s m args below meth c H locs 0 0 (MQ below (cz_Q g b (some (.int r0)) M) args s 0 0 (fun q => b ≤ q)) (F0 m 5 ls []) := by
  obtain ⟨hx, hb, -, ho, ht, -⟩ := id X
  intro n
  induction n with
  | zero => intro x2 x3 H locs ls h; cases (show none = some _ from h)
  | succ n ih =>
    intro x2 x3 H locs ls h hM hl
    have h : f_X5_aheadOf_L5 a0 x1 M K (cz_it2 (f_X5_aheadOf_L5 a0 x1 M K) n) x2 x3 = some r0 := h
    rw [f_X5_aheadOf_L5] at h
    refine lv_iload_n hx hb dX5_aheadOf_5 rfl (lv_at hl 3 rfl) ?_
    refine lv_iload_n hx hb dX5_aheadOf_6 rfl (lv_at hl 1 rfl) ?_
    refine lv_icmp_ge (tgt := 37) hx hb dX5_aheadOf_7 (by decide) (fun c1 => ?_) (fun c1 => ?_)
    · have h := cz_ite_t c1 h
      exact hX _ _ _ _ _ h hM (lv_sub hl [0, 1, 2, 3] rfl)
    · have h := cz_ite_f c1 h
      refine lv_aload_n hx hb dX5_aheadOf_10 rfl (lv_at hl 0 rfl) ?_
      refine lv_iload_n hx hb dX5_aheadOf_11 rfl (lv_at hl 3 rfl) ?_
      refine lv_iconst (v := nI 0) hx hb dX5_aheadOf_12 (by decide) ?_
      obtain ⟨v2, hq, h⟩ := cz_bd_t h
      refine cz_runV (rest := []) (As := [.int x3, .int (nI 0)]) (T := TX5) (N0 := 12) X hM hl.1 (c_X5_of (l := l) (g := g) (b := b) ka0 hq) mv_X5_of rfl (by decide) ka0 ml_X5_50 ⟨Nat.le_trans (Nat.le_of_ble_eq_true rfl) hRf, Nat.le_trans (Nat.le_of_ble_eq_true rfl) hRl⟩ rfl rfl (Nat.le_of_ble_eq_true rfl) dX5_aheadOf_13 (fun H locs hM => ?_)
      refine lv_aload_n hx hb dX5_aheadOf_16 rfl (lv_at hl 0 rfl) ?_
      refine lv_iload_n hx hb dX5_aheadOf_17 rfl (lv_at hl 1 rfl) ?_
      refine lv_iconst (v := nI 0) hx hb dX5_aheadOf_18 (by decide) ?_
      obtain ⟨v3, hq, h⟩ := cz_bd_t h
      refine cz_runV (rest := [.int v2]) (As := [.int x1, .int (nI 0)]) (T := TX5) (N0 := 12) X hM hl.1 (c_X5_of (l := l) (g := g) (b := b) ka0 hq) mv_X5_of rfl (by decide) ka0 ml_X5_50 ⟨Nat.le_trans (Nat.le_of_ble_eq_true rfl) hRf, Nat.le_trans (Nat.le_of_ble_eq_true rfl) hRl⟩ rfl rfl (Nat.le_of_ble_eq_true rfl) dX5_aheadOf_19 (fun H locs hM => ?_)
      refine lv_icmp_ne (tgt := 29) hx hb dX5_aheadOf_22 (by decide) (fun c4 => ?_) (fun c4 => ?_)
      · have h := cz_ite_f c4 h
        refine lv_iload_n hx hb dX5_aheadOf_29 rfl (lv_at hl 2 rfl) ?_
        refine lv_istore_n (lv' := [(2, .int x2), (0, .ref a0), (1, .int x1), (3, .int x3)]) hx hb dX5_aheadOf_30 rfl hl (by decide) rfl (fun ls hl => ?_)
        refine cz_nmL (v := x3 + nI 1) h (fun v5 e6 h => ?_)
        refine lv_iinc (v := v5) (lv' := [(3, .int v5), (2, .int x2), (0, .ref a0), (1, .int x1)]) hx hb dX5_aheadOf_31 hl (k := 3) rfl (by rw [e6]; rfl) (by decide) rfl (fun ls hl => ?_)
        refine lv_goto (tgt := 5) hx hb dX5_aheadOf_34 (by decide) ?_
        exact ih _ _ _ _ _ h hM (lv_sub hl [2, 3, 1, 0] rfl)
      · have h := cz_ite_t c4 h
        refine lv_iload_n hx hb dX5_aheadOf_25 rfl (lv_at hl 3 rfl) ?_
        refine lv_goto (tgt := 30) hx hb dX5_aheadOf_26 (by decide) ?_
        refine lv_istore_n (lv' := [(2, .int x3), (0, .ref a0), (1, .int x1), (3, .int x3)]) hx hb dX5_aheadOf_30 rfl hl (by decide) rfl (fun ls hl => ?_)
        refine cz_nmL (v := x3 + nI 1) h (fun v7 e8 h => ?_)
        refine lv_iinc (v := v7) (lv' := [(3, .int v7), (2, .int x3), (0, .ref a0), (1, .int x1)]) hx hb dX5_aheadOf_31 hl (k := 3) rfl (by rw [e8]; rfl) (by decide) rfl (fun ls hl => ?_)
        refine lv_goto (tgt := 5) hx hb dX5_aheadOf_34 (by decide) ?_
        exact ih _ _ _ _ _ h hM (lv_sub hl [2, 3, 1, 0] rfl)
set_option maxHeartbeats 4000000 in
set_option maxRecDepth 100000 in
theorem c_X5_aheadOf {l : Launch} {g : cz_G} {b : Nat} {M : cz_M} {r0 : Int32} {a : Nat} {x1 : Int32} (ka : cz_K b a 5) (h : f_X5_aheadOf M a x1 = some r0) : cz_C l yX5_aheadOf cX5_aheadOf 4 (some .int) 2 43 g b [.ref a, .int x1] M (some (.int r0)) M := by
  refine cz_start (by decide) (Nat.le_of_ble_eq_true rfl) (fun p e s m args below meth c X H ls hM hl => ?_)
  have X : cz_X p s m args meth c cX5_aheadOf 4 RX5 g b (some .int) := X
  obtain ⟨hx, hb, -, ho, ht, -⟩ := id X
  have hRf : 2 ≤ ({ frames := 2, cells := 0, slots := 0, locals := 43 } : Room).frames := Nat.le_refl _
  have hRl : 43 ≤ ({ frames := 2, cells := 0, slots := 0, locals := 43 } : Room).locals := Nat.le_refl _
  have hl : lv_has ls 4 [(0, .ref a), (1, .int x1)] := hl
  rw [f_X5_aheadOf] at h
  refine lv_bipush (v := -6) hx hb dX5_aheadOf_0 (by decide) ?_
  refine lv_istore_n (lv' := [(2, .int (-6 : Int32)), (0, .ref a), (1, .int x1)]) hx hb dX5_aheadOf_2 rfl hl (by decide) rfl (fun ls hl => ?_)
  refine lv_iconst (v := nI 0) hx hb dX5_aheadOf_3 (by decide) ?_
  refine lv_istore_n (lv' := [(3, .int (nI 0)), (2, .int (-6 : Int32)), (0, .ref a), (1, .int x1)]) hx hb dX5_aheadOf_4 rfl hl (by decide) rfl (fun ls hl => ?_)
  refine w_X5_aheadOf_L5 X hRf hRl ka _ (fun x9 x10 H locs ls h hM hl => ?_) _ _ _ _ _ _ h hM (lv_sub hl [2, 3, 1, 0] rfl)
  refine lv_iload_n hx hb dX5_aheadOf_37 rfl (lv_at hl 2 rfl) ?_
  exact cz_retp X hM h rfl dX5_aheadOf_38
theorem mv_X5_letter : cz_MV yX5_letter cX5_letter 3 (some .int) RX5 2 := ⟨mi_X5_letter, ms_X5_letter, mc_X5_letter, ini_X5, by decide +kernel⟩
set_option maxHeartbeats 4000000 in
set_option maxRecDepth 100000 in
theorem c_X5_letter {l : Launch} {g : cz_G} {b : Nat} {M : cz_M} {r0 : Int32} {a : Nat} {x1 : Int32} {x2 : Int32} (ka : cz_K b a 5) (h : f_X5_letter M a x1 x2 = some r0) : cz_C l yX5_letter cX5_letter 3 (some .int) 3 67 g b [.ref a, .int x1, .int x2] M (some (.int r0)) M := by
  refine cz_start (by decide) (Nat.le_of_ble_eq_true rfl) (fun p e s m args below meth c X H ls hM hl => ?_)
  have X : cz_X p s m args meth c cX5_letter 3 RX5 g b (some .int) := X
  obtain ⟨hx, hb, -, ho, ht, -⟩ := id X
  have hRf : 3 ≤ ({ frames := 3, cells := 0, slots := 0, locals := 67 } : Room).frames := Nat.le_refl _
  have hRl : 67 ≤ ({ frames := 3, cells := 0, slots := 0, locals := 67 } : Room).locals := Nat.le_refl _
  have hl : lv_has ls 3 [(0, .ref a), (1, .int x1), (2, .int x2)] := hl
  rw [f_X5_letter] at h
  refine lv_aload_n hx hb dX5_letter_0 rfl (lv_at hl 0 rfl) ?_
  refine lv_iload_n hx hb dX5_letter_1 rfl (lv_at hl 1 rfl) ?_
  obtain ⟨v1, hq, h⟩ := cz_bd_t h
  refine cz_runV (rest := []) (As := [.int x1]) (T := TX5) (N0 := 12) X hM hl.1 (c_X5_isLetter (l := l) (g := g) (b := b) ka hq) mv_X5_isLetter rfl (by decide) ka ml_X5_100 ⟨Nat.le_trans (Nat.le_of_ble_eq_true rfl) hRf, Nat.le_trans (Nat.le_of_ble_eq_true rfl) hRl⟩ rfl rfl (Nat.le_of_ble_eq_true rfl) dX5_letter_2 (fun H locs hM => ?_)
  refine lv_if_ne (tgt := 10) hx hb dX5_letter_5 (by decide) (fun c2 => ?_) (fun c2 => ?_)
  · have h := cz_ite_f c2 h
    refine lv_iload_n hx hb dX5_letter_10 rfl (lv_at hl 2 rfl) ?_
    by_cases c3 : x2 = (nI 0)
    · have h := cz_ite_t c3 h
      refine lv_tableIn (off := 57) (tgt := 68) hx hb dX5_letter_11 (by rw [c3]; decide) (by rw [c3]; decide) (by rw [c3]; rfl) (by decide) ?_
      refine lv_aload_n hx hb dX5_letter_68 rfl (lv_at hl 0 rfl) ?_
      refine lv_iload_n hx hb dX5_letter_69 rfl (lv_at hl 1 rfl) ?_
      refine lv_iload_n hx hb dX5_letter_70 rfl (lv_at hl 2 rfl) ?_
      obtain ⟨v4, hq, h⟩ := cz_bd_t h
      refine cz_runV (rest := []) (As := [.int x1, .int x2]) (T := TX5) (N0 := 12) X hM hl.1 (c_X5_of (l := l) (g := g) (b := b) ka hq) mv_X5_of rfl (by decide) ka ml_X5_50 ⟨Nat.le_trans (Nat.le_of_ble_eq_true rfl) hRf, Nat.le_trans (Nat.le_of_ble_eq_true rfl) hRl⟩ rfl rfl (Nat.le_of_ble_eq_true rfl) dX5_letter_71 (fun H locs hM => ?_)
      exact cz_retp X hM h rfl dX5_letter_74
    have h := cz_ite_f c3 h
    by_cases c5 : x2 = (nI 1)
    · have h := cz_ite_t c5 h
      refine lv_tableIn (off := 57) (tgt := 68) hx hb dX5_letter_11 (by rw [c5]; decide) (by rw [c5]; decide) (by rw [c5]; rfl) (by decide) ?_
      refine lv_aload_n hx hb dX5_letter_68 rfl (lv_at hl 0 rfl) ?_
      refine lv_iload_n hx hb dX5_letter_69 rfl (lv_at hl 1 rfl) ?_
      refine lv_iload_n hx hb dX5_letter_70 rfl (lv_at hl 2 rfl) ?_
      obtain ⟨v6, hq, h⟩ := cz_bd_t h
      refine cz_runV (rest := []) (As := [.int x1, .int x2]) (T := TX5) (N0 := 12) X hM hl.1 (c_X5_of (l := l) (g := g) (b := b) ka hq) mv_X5_of rfl (by decide) ka ml_X5_50 ⟨Nat.le_trans (Nat.le_of_ble_eq_true rfl) hRf, Nat.le_trans (Nat.le_of_ble_eq_true rfl) hRl⟩ rfl rfl (Nat.le_of_ble_eq_true rfl) dX5_letter_71 (fun H locs hM => ?_)
      exact cz_retp X hM h rfl dX5_letter_74
    have h := cz_ite_f c5 h
    by_cases c7 : x2 = (nI 2)
    · have h := cz_ite_t c7 h
      refine lv_tableIn (off := 57) (tgt := 68) hx hb dX5_letter_11 (by rw [c7]; decide) (by rw [c7]; decide) (by rw [c7]; rfl) (by decide) ?_
      refine lv_aload_n hx hb dX5_letter_68 rfl (lv_at hl 0 rfl) ?_
      refine lv_iload_n hx hb dX5_letter_69 rfl (lv_at hl 1 rfl) ?_
      refine lv_iload_n hx hb dX5_letter_70 rfl (lv_at hl 2 rfl) ?_
      obtain ⟨v8, hq, h⟩ := cz_bd_t h
      refine cz_runV (rest := []) (As := [.int x1, .int x2]) (T := TX5) (N0 := 12) X hM hl.1 (c_X5_of (l := l) (g := g) (b := b) ka hq) mv_X5_of rfl (by decide) ka ml_X5_50 ⟨Nat.le_trans (Nat.le_of_ble_eq_true rfl) hRf, Nat.le_trans (Nat.le_of_ble_eq_true rfl) hRl⟩ rfl rfl (Nat.le_of_ble_eq_true rfl) dX5_letter_71 (fun H locs hM => ?_)
      exact cz_retp X hM h rfl dX5_letter_74
    have h := cz_ite_f c7 h
    by_cases c9 : x2 = (nI 3)
    · have h := cz_ite_t c9 h
      refine lv_tableIn (off := 64) (tgt := 75) hx hb dX5_letter_11 (by rw [c9]; decide) (by rw [c9]; decide) (by rw [c9]; rfl) (by decide) ?_
      refine lv_aload_n hx hb dX5_letter_75 rfl (lv_at hl 0 rfl) ?_
      refine lv_iload_n hx hb dX5_letter_76 rfl (lv_at hl 1 rfl) ?_
      obtain ⟨v10, hq, h⟩ := cz_bd_t h
      refine cz_runV (rest := []) (As := [.int x1]) (T := TX5) (N0 := 12) X hM hl.1 (c_X5_placeOf (l := l) (g := g) (b := b) ka hq) mv_X5_placeOf rfl (by decide) ka ml_X5_103 ⟨Nat.le_trans (Nat.le_of_ble_eq_true rfl) hRf, Nat.le_trans (Nat.le_of_ble_eq_true rfl) hRl⟩ rfl rfl (Nat.le_of_ble_eq_true rfl) dX5_letter_77 (fun H locs hM => ?_)
      exact cz_retp X hM h rfl dX5_letter_80
    have h := cz_ite_f c9 h
    by_cases c11 : x2 = (nI 4)
    · have h := cz_ite_t c11 h
      refine lv_tableIn (off := 70) (tgt := 81) hx hb dX5_letter_11 (by rw [c11]; decide) (by rw [c11]; decide) (by rw [c11]; rfl) (by decide) ?_
      refine lv_aload_n hx hb dX5_letter_81 rfl (lv_at hl 0 rfl) ?_
      refine lv_iload_n hx hb dX5_letter_82 rfl (lv_at hl 1 rfl) ?_
      refine lv_iload_n hx hb dX5_letter_83 rfl (lv_at hl 2 rfl) ?_
      refine lv_iconst (v := nI 1) hx hb dX5_letter_84 (by decide) ?_
      refine lv_isub hx hb dX5_letter_85 ?_
      obtain ⟨v12, hq, h⟩ := cz_bd_t h
      refine cz_runV (rest := []) (As := [.int x1, .int (x2 - (nI 1))]) (T := TX5) (N0 := 12) X hM hl.1 (c_X5_of (l := l) (g := g) (b := b) ka hq) mv_X5_of rfl (by decide) ka ml_X5_50 ⟨Nat.le_trans (Nat.le_of_ble_eq_true rfl) hRf, Nat.le_trans (Nat.le_of_ble_eq_true rfl) hRl⟩ rfl rfl (Nat.le_of_ble_eq_true rfl) dX5_letter_86 (fun H locs hM => ?_)
      exact cz_retp X hM h rfl dX5_letter_89
    have h := cz_ite_f c11 h
    by_cases c13 : x2 = (nI 5)
    · have h := cz_ite_t c13 h
      refine lv_tableIn (off := 70) (tgt := 81) hx hb dX5_letter_11 (by rw [c13]; decide) (by rw [c13]; decide) (by rw [c13]; rfl) (by decide) ?_
      refine lv_aload_n hx hb dX5_letter_81 rfl (lv_at hl 0 rfl) ?_
      refine lv_iload_n hx hb dX5_letter_82 rfl (lv_at hl 1 rfl) ?_
      refine lv_iload_n hx hb dX5_letter_83 rfl (lv_at hl 2 rfl) ?_
      refine lv_iconst (v := nI 1) hx hb dX5_letter_84 (by decide) ?_
      refine lv_isub hx hb dX5_letter_85 ?_
      obtain ⟨v14, hq, h⟩ := cz_bd_t h
      refine cz_runV (rest := []) (As := [.int x1, .int (x2 - (nI 1))]) (T := TX5) (N0 := 12) X hM hl.1 (c_X5_of (l := l) (g := g) (b := b) ka hq) mv_X5_of rfl (by decide) ka ml_X5_50 ⟨Nat.le_trans (Nat.le_of_ble_eq_true rfl) hRf, Nat.le_trans (Nat.le_of_ble_eq_true rfl) hRl⟩ rfl rfl (Nat.le_of_ble_eq_true rfl) dX5_letter_86 (fun H locs hM => ?_)
      exact cz_retp X hM h rfl dX5_letter_89
    have h := cz_ite_f c13 h
    by_cases c15 : x2 = (nI 6)
    · have h := cz_ite_t c15 h
      refine lv_tableIn (off := 79) (tgt := 90) hx hb dX5_letter_11 (by rw [c15]; decide) (by rw [c15]; decide) (by rw [c15]; rfl) (by decide) ?_
      refine lv_aload_n hx hb dX5_letter_90 rfl (lv_at hl 0 rfl) ?_
      refine lv_iload_n hx hb dX5_letter_91 rfl (lv_at hl 1 rfl) ?_
      refine lv_iconst (v := nI 5) hx hb dX5_letter_92 (by decide) ?_
      obtain ⟨v16, hq, h⟩ := cz_bd_t h
      refine cz_runV (rest := []) (As := [.int x1, .int (nI 5)]) (T := TX5) (N0 := 12) X hM hl.1 (c_X5_of (l := l) (g := g) (b := b) ka hq) mv_X5_of rfl (by decide) ka ml_X5_50 ⟨Nat.le_trans (Nat.le_of_ble_eq_true rfl) hRf, Nat.le_trans (Nat.le_of_ble_eq_true rfl) hRl⟩ rfl rfl (Nat.le_of_ble_eq_true rfl) dX5_letter_93 (fun H locs hM => ?_)
      obtain ⟨v17, hq, h⟩ := cz_bd_t h
      refine cz_runS (rest := []) (As := [.int v16]) X hM hl.1 (c_X5_bits (l := l) (g := g) (b := b)  hq) mv_X5_bits ml_X5_62 ⟨Nat.le_trans (Nat.le_of_ble_eq_true rfl) hRf, Nat.le_trans (Nat.le_of_ble_eq_true rfl) hRl⟩ rfl rfl (Nat.le_of_ble_eq_true rfl) dX5_letter_96 (fun H locs hM => ?_)
      exact cz_retp X hM h rfl dX5_letter_99
    have h := cz_ite_f c15 h
    by_cases c18 : x2 = (nI 7)
    · have h := cz_ite_t c18 h
      refine lv_tableIn (off := 89) (tgt := 100) hx hb dX5_letter_11 (by rw [c18]; decide) (by rw [c18]; decide) (by rw [c18]; rfl) (by decide) ?_
      refine lv_aload_n hx hb dX5_letter_100 rfl (lv_at hl 0 rfl) ?_
      refine lv_iload_n hx hb dX5_letter_101 rfl (lv_at hl 1 rfl) ?_
      refine lv_iload_n hx hb dX5_letter_102 rfl (lv_at hl 2 rfl) ?_
      refine lv_iconst (v := nI 1) hx hb dX5_letter_103 (by decide) ?_
      refine lv_isub hx hb dX5_letter_104 ?_
      obtain ⟨v19, hq, h⟩ := cz_bd_t h
      refine cz_runV (rest := []) (As := [.int x1, .int (x2 - (nI 1))]) (T := TX5) (N0 := 12) X hM hl.1 (c_X5_of (l := l) (g := g) (b := b) ka hq) mv_X5_of rfl (by decide) ka ml_X5_50 ⟨Nat.le_trans (Nat.le_of_ble_eq_true rfl) hRf, Nat.le_trans (Nat.le_of_ble_eq_true rfl) hRl⟩ rfl rfl (Nat.le_of_ble_eq_true rfl) dX5_letter_105 (fun H locs hM => ?_)
      exact cz_retp X hM h rfl dX5_letter_108
    have h := cz_ite_f c18 h
    by_cases c20 : x2 = (nI 8)
    · have h := cz_ite_t c20 h
      refine lv_tableIn (off := 89) (tgt := 100) hx hb dX5_letter_11 (by rw [c20]; decide) (by rw [c20]; decide) (by rw [c20]; rfl) (by decide) ?_
      refine lv_aload_n hx hb dX5_letter_100 rfl (lv_at hl 0 rfl) ?_
      refine lv_iload_n hx hb dX5_letter_101 rfl (lv_at hl 1 rfl) ?_
      refine lv_iload_n hx hb dX5_letter_102 rfl (lv_at hl 2 rfl) ?_
      refine lv_iconst (v := nI 1) hx hb dX5_letter_103 (by decide) ?_
      refine lv_isub hx hb dX5_letter_104 ?_
      obtain ⟨v21, hq, h⟩ := cz_bd_t h
      refine cz_runV (rest := []) (As := [.int x1, .int (x2 - (nI 1))]) (T := TX5) (N0 := 12) X hM hl.1 (c_X5_of (l := l) (g := g) (b := b) ka hq) mv_X5_of rfl (by decide) ka ml_X5_50 ⟨Nat.le_trans (Nat.le_of_ble_eq_true rfl) hRf, Nat.le_trans (Nat.le_of_ble_eq_true rfl) hRl⟩ rfl rfl (Nat.le_of_ble_eq_true rfl) dX5_letter_105 (fun H locs hM => ?_)
      exact cz_retp X hM h rfl dX5_letter_108
    have h := cz_ite_f c20 h
    by_cases c22 : x2 = (nI 9)
    · have h := cz_ite_t c22 h
      refine lv_tableIn (off := 98) (tgt := 109) hx hb dX5_letter_11 (by rw [c22]; decide) (by rw [c22]; decide) (by rw [c22]; rfl) (by decide) ?_
      refine lv_aload_n hx hb dX5_letter_109 rfl (lv_at hl 0 rfl) ?_
      refine lv_iload_n hx hb dX5_letter_110 rfl (lv_at hl 1 rfl) ?_
      obtain ⟨v23, hq, h⟩ := cz_bd_t h
      refine cz_runV (rest := []) (As := [.int x1]) (T := TX5) (N0 := 12) X hM hl.1 (c_X5_aheadOf (l := l) (g := g) (b := b) ka hq) mv_X5_aheadOf rfl (by decide) ka ml_X5_109 ⟨Nat.le_trans (Nat.le_of_ble_eq_true rfl) hRf, Nat.le_trans (Nat.le_of_ble_eq_true rfl) hRl⟩ rfl rfl (Nat.le_of_ble_eq_true rfl) dX5_letter_111 (fun H locs hM => ?_)
      exact cz_retp X hM h rfl dX5_letter_114
    have h := cz_ite_f c22 h
    by_cases c24 : x2 = (nI 10)
    · have h := cz_ite_t c24 h
      refine lv_tableIn (off := 104) (tgt := 115) hx hb dX5_letter_11 (by rw [c24]; decide) (by rw [c24]; decide) (by rw [c24]; rfl) (by decide) ?_
      refine lv_aload_n hx hb dX5_letter_115 rfl (lv_at hl 0 rfl) ?_
      refine lv_iload_n hx hb dX5_letter_116 rfl (lv_at hl 1 rfl) ?_
      refine lv_bipush (v := nI 8) hx hb dX5_letter_117 (by decide) ?_
      obtain ⟨v25, hq, h⟩ := cz_bd_t h
      refine cz_runV (rest := []) (As := [.int x1, .int (nI 8)]) (T := TX5) (N0 := 12) X hM hl.1 (c_X5_of (l := l) (g := g) (b := b) ka hq) mv_X5_of rfl (by decide) ka ml_X5_50 ⟨Nat.le_trans (Nat.le_of_ble_eq_true rfl) hRf, Nat.le_trans (Nat.le_of_ble_eq_true rfl) hRl⟩ rfl rfl (Nat.le_of_ble_eq_true rfl) dX5_letter_119 (fun H locs hM => ?_)
      exact cz_retp X hM h rfl dX5_letter_122
    have h := cz_ite_f c24 h
    refine lv_tableOut (tgt := 123) hx hb dX5_letter_11 (by
      have e0 := lv_neT c3 (show ((nI 0) : Int32).toInt = 0 from by decide)
      have e1 := lv_neT c5 (show ((nI 1) : Int32).toInt = 1 from by decide)
      have e2 := lv_neT c7 (show ((nI 2) : Int32).toInt = 2 from by decide)
      have e3 := lv_neT c9 (show ((nI 3) : Int32).toInt = 3 from by decide)
      have e4 := lv_neT c11 (show ((nI 4) : Int32).toInt = 4 from by decide)
      have e5 := lv_neT c13 (show ((nI 5) : Int32).toInt = 5 from by decide)
      have e6 := lv_neT c15 (show ((nI 6) : Int32).toInt = 6 from by decide)
      have e7 := lv_neT c18 (show ((nI 7) : Int32).toInt = 7 from by decide)
      have e8 := lv_neT c20 (show ((nI 8) : Int32).toInt = 8 from by decide)
      have e9 := lv_neT c22 (show ((nI 9) : Int32).toInt = 9 from by decide)
      have e10 := lv_neT c24 (show ((nI 10) : Int32).toInt = 10 from by decide)
      clear h; omega) (by decide) ?_
    refine lv_bipush (v := -2) hx hb dX5_letter_123 (by decide) ?_
    exact cz_retp X hM h rfl dX5_letter_125
  · have h := cz_ite_t c2 h
    refine lv_iconst (v := -1) hx hb dX5_letter_8 (by decide) ?_
    exact cz_retp X hM h rfl dX5_letter_9
theorem mv_X5_word : cz_MV yX5_word cX5_word 3 (some .int) RX5 2 := ⟨mi_X5_word, ms_X5_word, mc_X5_word, ini_X5, by decide +kernel⟩
set_option maxHeartbeats 4000000 in
set_option maxRecDepth 100000 in
theorem c_X5_word {l : Launch} {g : cz_G} {b : Nat} {M : cz_M} {r0 : Int32} {a : Nat} {x1 : Int32} {x2 : Int32} (ka : cz_K b a 5) (h : f_X5_word M a x1 x2 = some r0) : cz_C l yX5_word cX5_word 3 (some .int) 3 67 g b [.ref a, .int x1, .int x2] M (some (.int r0)) M := by
  refine cz_start (by decide) (Nat.le_of_ble_eq_true rfl) (fun p e s m args below meth c X H ls hM hl => ?_)
  have X : cz_X p s m args meth c cX5_word 3 RX5 g b (some .int) := X
  obtain ⟨hx, hb, -, ho, ht, -⟩ := id X
  have hRf : 3 ≤ ({ frames := 3, cells := 0, slots := 0, locals := 67 } : Room).frames := Nat.le_refl _
  have hRl : 67 ≤ ({ frames := 3, cells := 0, slots := 0, locals := 67 } : Room).locals := Nat.le_refl _
  have hl : lv_has ls 3 [(0, .ref a), (1, .int x1), (2, .int x2)] := hl
  rw [f_X5_word] at h
  refine lv_aload_n hx hb dX5_word_0 rfl (lv_at hl 0 rfl) ?_
  refine lv_iload_n hx hb dX5_word_1 rfl (lv_at hl 1 rfl) ?_
  obtain ⟨v1, hq, h⟩ := cz_bd_t h
  refine cz_runV (rest := []) (As := [.int x1]) (T := TX5) (N0 := 12) X hM hl.1 (c_X5_isLetter (l := l) (g := g) (b := b) ka hq) mv_X5_isLetter rfl (by decide) ka ml_X5_100 ⟨Nat.le_trans (Nat.le_of_ble_eq_true rfl) hRf, Nat.le_trans (Nat.le_of_ble_eq_true rfl) hRl⟩ rfl rfl (Nat.le_of_ble_eq_true rfl) dX5_word_2 (fun H locs hM => ?_)
  refine lv_if_eq (tgt := 25) hx hb dX5_word_5 (by decide) (fun c2 => ?_) (fun c2 => ?_)
  · have h := cz_ite_t c2 h
    refine lv_iconst (v := -1) hx hb dX5_word_25 (by decide) ?_
    exact cz_retp X hM h rfl dX5_word_26
  · have h := cz_ite_f c2 h
    refine lv_iload_n hx hb dX5_word_8 rfl (lv_at hl 2 rfl) ?_
    refine lv_iconst (v := nI 0) hx hb dX5_word_9 (by decide) ?_
    refine lv_aload_n hx hb dX5_word_10 rfl (lv_at hl 0 rfl) ?_
    refine lv_iload_n hx hb dX5_word_11 rfl (lv_at hl 1 rfl) ?_
    refine lv_bipush (v := nI 8) hx hb dX5_word_12 (by decide) ?_
    obtain ⟨v3, hq, h⟩ := cz_bd_t h
    refine cz_runV (rest := [.int (nI 0), .int x2]) (As := [.int x1, .int (nI 8)]) (T := TX5) (N0 := 12) X hM hl.1 (c_X5_of (l := l) (g := g) (b := b) ka hq) mv_X5_of rfl (by decide) ka ml_X5_50 ⟨Nat.le_trans (Nat.le_of_ble_eq_true rfl) hRf, Nat.le_trans (Nat.le_of_ble_eq_true rfl) hRl⟩ rfl rfl (Nat.le_of_ble_eq_true rfl) dX5_word_14 (fun H locs hM => ?_)
    refine lv_iconst (v := nI 1) hx hb dX5_word_17 (by decide) ?_
    refine lv_isub hx hb dX5_word_18 ?_
    obtain ⟨v4, hq, h⟩ := cz_bd_t h
    refine cz_runS (rest := []) (As := [.int x2, .int (nI 0), .int (v3 - (nI 1))]) X hM hl.1 (c_X5_in (l := l) (g := g) (b := b)  hq) mv_X5_in ml_X5_38 ⟨Nat.le_trans (Nat.le_of_ble_eq_true rfl) hRf, Nat.le_trans (Nat.le_of_ble_eq_true rfl) hRl⟩ rfl rfl (Nat.le_of_ble_eq_true rfl) dX5_word_19 (fun H locs hM => ?_)
    refine lv_if_ne (tgt := 27) hx hb dX5_word_22 (by decide) (fun c5 => ?_) (fun c5 => ?_)
    · have h := cz_ite_f c5 h
      refine lv_aload_n hx hb dX5_word_27 rfl (lv_at hl 0 rfl) ?_
      refine lv_iload_n hx hb dX5_word_28 rfl (lv_at hl 1 rfl) ?_
      refine lv_iconst (v := nI 5) hx hb dX5_word_29 (by decide) ?_
      obtain ⟨v6, hq, h⟩ := cz_bd_t h
      refine cz_runV (rest := []) (As := [.int x1, .int (nI 5)]) (T := TX5) (N0 := 12) X hM hl.1 (c_X5_of (l := l) (g := g) (b := b) ka hq) mv_X5_of rfl (by decide) ka ml_X5_50 ⟨Nat.le_trans (Nat.le_of_ble_eq_true rfl) hRf, Nat.le_trans (Nat.le_of_ble_eq_true rfl) hRl⟩ rfl rfl (Nat.le_of_ble_eq_true rfl) dX5_word_30 (fun H locs hM => ?_)
      refine lv_iload_n hx hb dX5_word_33 rfl (lv_at hl 2 rfl) ?_
      refine lv_ishr hx hb dX5_word_34 ?_
      refine lv_iconst (v := nI 1) hx hb dX5_word_35 (by decide) ?_
      refine lv_iand hx hb dX5_word_36 ?_
      refine lv_iconst (v := nI 1) hx hb dX5_word_37 (by decide) ?_
      refine lv_icmp_ne (tgt := 46) hx hb dX5_word_38 (by decide) (fun c7 => ?_) (fun c7 => ?_)
      · have h := cz_ite_f c7 h
        refine lv_bipush (v := nI 97) hx hb dX5_word_46 (by decide) ?_
        refine lv_aload_n hx hb dX5_word_48 rfl (lv_at hl 0 rfl) ?_
        refine lv_iload_n hx hb dX5_word_49 rfl (lv_at hl 1 rfl) ?_
        refine lv_iload_n hx hb dX5_word_50 rfl (lv_at hl 2 rfl) ?_
        obtain ⟨v8, hq, h⟩ := cz_bd_t h
        refine cz_runV (rest := [.int (nI 97)]) (As := [.int x1, .int x2]) (T := TX5) (N0 := 12) X hM hl.1 (c_X5_wordOf (l := l) (g := g) (b := b) ka hq) mv_X5_wordOf rfl (by decide) ka ml_X5_56 ⟨Nat.le_trans (Nat.le_of_ble_eq_true rfl) hRf, Nat.le_trans (Nat.le_of_ble_eq_true rfl) hRl⟩ rfl rfl (Nat.le_of_ble_eq_true rfl) dX5_word_51 (fun H locs hM => ?_)
        refine lv_iadd hx hb dX5_word_54 ?_
        exact cz_retp X hM h rfl dX5_word_55
      · have h := cz_ite_t c7 h
        refine lv_bipush (v := nI 42) hx hb dX5_word_41 (by decide) ?_
        refine lv_goto (tgt := 55) hx hb dX5_word_43 (by decide) ?_
        exact cz_retp X hM h rfl dX5_word_55
    · have h := cz_ite_t c5 h
      refine lv_iconst (v := -1) hx hb dX5_word_25 (by decide) ?_
      exact cz_retp X hM h rfl dX5_word_26
theorem mv_X5_why : cz_MV yX5_why cX5_why 5 (some .int) RX5 1 := ⟨mi_X5_why, ms_X5_why, mc_X5_why, ini_X5, by decide +kernel⟩
set_option maxHeartbeats 4000000 in
set_option maxRecDepth 100000 in
theorem c_X5_why {l : Launch} {g : cz_G} {b : Nat} {M : cz_M} {r0 : Int32} {M9 : cz_M} {a : Nat} {x1 : Int32} (ka : cz_K b a 5) (h : f_X5_why M a x1 = some (r0, M9)) : cz_C l yX5_why cX5_why 5 (some .int) 7 164 g b [.ref a, .int x1] M (some (.int r0)) M9 := by
  refine cz_start (by decide) (Nat.le_of_ble_eq_true rfl) (fun p e s m args below meth c X H ls hM hl => ?_)
  have X : cz_X p s m args meth c cX5_why 5 RX5 g b (some .int) := X
  obtain ⟨hx, hb, -, ho, ht, -⟩ := id X
  have hRf : 7 ≤ ({ frames := 7, cells := 0, slots := 0, locals := 164 } : Room).frames := Nat.le_refl _
  have hRl : 164 ≤ ({ frames := 7, cells := 0, slots := 0, locals := 164 } : Room).locals := Nat.le_refl _
  have hl : lv_has ls 5 [(0, .ref a), (1, .int x1)] := hl
  rw [f_X5_why] at h
  refine lv_aload_n hx hb dX5_why_0 rfl (lv_at hl 0 rfl) ?_
  refine lv_iload_n hx hb dX5_why_1 rfl (lv_at hl 1 rfl) ?_
  obtain ⟨v1, hq, h⟩ := cz_bd_t h
  refine cz_runV (rest := []) (As := [.int x1]) (T := TX5) (N0 := 12) X hM hl.1 (c_X5_isLetter (l := l) (g := g) (b := b) ka hq) mv_X5_isLetter rfl (by decide) ka ml_X5_100 ⟨Nat.le_trans (Nat.le_of_ble_eq_true rfl) hRf, Nat.le_trans (Nat.le_of_ble_eq_true rfl) hRl⟩ rfl rfl (Nat.le_of_ble_eq_true rfl) dX5_why_2 (fun H locs hM => ?_)
  refine lv_if_ne (tgt := 10) hx hb dX5_why_5 (by decide) (fun c2 => ?_) (fun c2 => ?_)
  · have h := cz_ite_f c2 h
    refine lv_aload_n hx hb dX5_why_10 rfl (lv_at hl 0 rfl) ?_
    refine lv_iload_n hx hb dX5_why_11 rfl (lv_at hl 1 rfl) ?_
    refine lv_iconst (v := nI 2) hx hb dX5_why_12 (by decide) ?_
    obtain ⟨v3, hq, h⟩ := cz_bd_t h
    refine cz_runV (rest := []) (As := [.int x1, .int (nI 2)]) (T := TX5) (N0 := 12) X hM hl.1 (c_X5_of (l := l) (g := g) (b := b) ka hq) mv_X5_of rfl (by decide) ka ml_X5_50 ⟨Nat.le_trans (Nat.le_of_ble_eq_true rfl) hRf, Nat.le_trans (Nat.le_of_ble_eq_true rfl) hRl⟩ rfl rfl (Nat.le_of_ble_eq_true rfl) dX5_why_13 (fun H locs hM => ?_)
    refine lv_if_eq (tgt := 21) hx hb dX5_why_16 (by decide) (fun c4 => ?_) (fun c4 => ?_)
    · have h := cz_ite_t c4 h
      refine lv_aload_n hx hb dX5_why_21 rfl (lv_at hl 0 rfl) ?_
      obtain ⟨M5, hq, h⟩ := cz_bd_t h
      refine cz_runV (rest := []) (As := []) (T := TX5) (N0 := 12) X hM hl.1 (c_X5_putAside (l := l) (g := g) (b := b) ka hq) mv_X5_putAside rfl (by decide) ka ml_X5_112 ⟨Nat.le_trans (Nat.le_of_ble_eq_true rfl) hRf, Nat.le_trans (Nat.le_of_ble_eq_true rfl) hRl⟩ rfl rfl (Nat.le_of_ble_eq_true rfl) dX5_why_22 (fun H locs hM => ?_)
      refine lv_aload_n hx hb dX5_why_25 rfl (lv_at hl 0 rfl) ?_
      obtain ⟨v7, M6, hq, h⟩ := cz_b2_t h
      refine cz_runV (rest := []) (As := []) (T := TX5) (N0 := 12) X hM hl.1 (c_X5_week (l := l) (g := g) (b := b) ka hq) mv_X5_week rfl (by decide) ka ml_X5_84 ⟨Nat.le_trans (Nat.le_of_ble_eq_true rfl) hRf, Nat.le_trans (Nat.le_of_ble_eq_true rfl) hRl⟩ rfl rfl (Nat.le_of_ble_eq_true rfl) dX5_why_26 (fun H locs hM => ?_)
      refine lv_istore_n (lv' := [(2, .int v7), (0, .ref a), (1, .int x1)]) hx hb dX5_why_29 rfl hl (by decide) rfl (fun ls hl => ?_)
      refine lv_aload_n hx hb dX5_why_30 rfl (lv_at hl 1 rfl) ?_
      refine lv_iload_n hx hb dX5_why_31 rfl (lv_at hl 2 rfl) ?_
      refine lv_iconst (v := nI 2) hx hb dX5_why_32 (by decide) ?_
      obtain ⟨v8, hq, h⟩ := cz_bd_t h
      refine cz_runV (rest := []) (As := [.int x1, .int (nI 2)]) (T := TX5) (N0 := 12) X hM hl.1 (c_X5_of (l := l) (g := g) (b := b) ka hq) mv_X5_of rfl (by decide) ka ml_X5_50 ⟨Nat.le_trans (Nat.le_of_ble_eq_true rfl) hRf, Nat.le_trans (Nat.le_of_ble_eq_true rfl) hRl⟩ rfl rfl (Nat.le_of_ble_eq_true rfl) dX5_why_33 (fun H locs hM => ?_)
      refine lv_istore_n (lv' := [(3, .int v8), (2, .int v7), (0, .ref a), (1, .int x1)]) hx hb dX5_why_36 rfl hl (by decide) rfl (fun ls hl => ?_)
      refine lv_iload_n hx hb dX5_why_37 rfl (lv_at hl 0 rfl) ?_
      refine lv_iconst (v := nI 1) hx hb dX5_why_38 (by decide) ?_
      refine lv_icmp_ne (tgt := 46) hx hb dX5_why_39 (by decide) (fun c9 => ?_) (fun c9 => ?_)
      · have h := cz_ite_f c9 h
        refine lv_aload_n hx hb dX5_why_46 rfl (lv_at hl 2 rfl) ?_
        refine lv_iload_n hx hb dX5_why_47 rfl (lv_at hl 3 rfl) ?_
        obtain ⟨v10, hq, h⟩ := cz_bd_t h
        refine cz_runV (rest := []) (As := [.int x1]) (T := TX5) (N0 := 12) X hM hl.1 (c_X5_isBarred (l := l) (g := g) (b := b) ka hq) mv_X5_isBarred rfl (by decide) ka ml_X5_72 ⟨Nat.le_trans (Nat.le_of_ble_eq_true rfl) hRf, Nat.le_trans (Nat.le_of_ble_eq_true rfl) hRl⟩ rfl rfl (Nat.le_of_ble_eq_true rfl) dX5_why_48 (fun H locs hM => ?_)
        refine lv_if_eq (tgt := 58) hx hb dX5_why_51 (by decide) (fun c11 => ?_) (fun c11 => ?_)
        · have h := cz_ite_t c11 h
          refine lv_aload_n hx hb dX5_why_58 rfl (lv_at hl 2 rfl) ?_
          refine cz_getR X hM ff_X5_9 ka lk_X5_32 dX5_why_59 (fun hk12 => ?_)
          refine lv_iload_n hx hb dX5_why_62 rfl (lv_at hl 3 rfl) ?_
          refine cz_zald (n := 40) X hM h hk12 dX5_why_63 (fun h => ?_)
          refine lv_if_ne (tgt := 71) hx hb dX5_why_64 (by decide) (fun c13 => ?_) (fun c13 => ?_)
          · have h := cz_ite_f c13 h
            refine lv_iload_n hx hb dX5_why_71 rfl (lv_at hl 0 rfl) ?_
            refine lv_if_ne (tgt := 79) hx hb dX5_why_72 (by decide) (fun c14 => ?_) (fun c14 => ?_)
            · have h := cz_ite_f c14 h
              refine lv_iconst (v := nI 5) hx hb dX5_why_79 (by decide) ?_
              refine lv_istore (lv' := [(4, .int (nI 5)), (3, .int v8), (2, .int v7), (0, .ref a), (1, .int x1)]) hx hb dX5_why_80 hl (by decide) rfl (fun ls hl => ?_)
              refine lv_aload_n hx hb dX5_why_82 rfl (lv_at hl 3 rfl) ?_
              obtain ⟨M15, hq, h⟩ := cz_bd_t h
              refine cz_runV (rest := []) (As := []) (T := TX5) (N0 := 12) X hM hl.1 (c_X5_putBack (l := l) (g := g) (b := b) ka hq) mv_X5_putBack rfl (by decide) ka ml_X5_115 ⟨Nat.le_trans (Nat.le_of_ble_eq_true rfl) hRf, Nat.le_trans (Nat.le_of_ble_eq_true rfl) hRl⟩ rfl rfl (Nat.le_of_ble_eq_true rfl) dX5_why_83 (fun H locs hM => ?_)
              refine lv_iload hx hb dX5_why_86 (lv_at hl 0 rfl) ?_
              exact cz_reti X hM h rfl dX5_why_88
            · have h := cz_ite_t c14 h
              refine lv_iconst (v := nI 4) hx hb dX5_why_75 (by decide) ?_
              refine lv_goto (tgt := 80) hx hb dX5_why_76 (by decide) ?_
              refine lv_istore (lv' := [(4, .int (nI 4)), (3, .int v8), (2, .int v7), (0, .ref a), (1, .int x1)]) hx hb dX5_why_80 hl (by decide) rfl (fun ls hl => ?_)
              refine lv_aload_n hx hb dX5_why_82 rfl (lv_at hl 3 rfl) ?_
              obtain ⟨M16, hq, h⟩ := cz_bd_t h
              refine cz_runV (rest := []) (As := []) (T := TX5) (N0 := 12) X hM hl.1 (c_X5_putBack (l := l) (g := g) (b := b) ka hq) mv_X5_putBack rfl (by decide) ka ml_X5_115 ⟨Nat.le_trans (Nat.le_of_ble_eq_true rfl) hRf, Nat.le_trans (Nat.le_of_ble_eq_true rfl) hRl⟩ rfl rfl (Nat.le_of_ble_eq_true rfl) dX5_why_83 (fun H locs hM => ?_)
              refine lv_iload hx hb dX5_why_86 (lv_at hl 0 rfl) ?_
              exact cz_reti X hM h rfl dX5_why_88
          · have h := cz_ite_t c13 h
            refine lv_iconst (v := nI 3) hx hb dX5_why_67 (by decide) ?_
            refine lv_goto (tgt := 80) hx hb dX5_why_68 (by decide) ?_
            refine lv_istore (lv' := [(4, .int (nI 3)), (3, .int v8), (2, .int v7), (0, .ref a), (1, .int x1)]) hx hb dX5_why_80 hl (by decide) rfl (fun ls hl => ?_)
            refine lv_aload_n hx hb dX5_why_82 rfl (lv_at hl 3 rfl) ?_
            obtain ⟨M17, hq, h⟩ := cz_bd_t h
            refine cz_runV (rest := []) (As := []) (T := TX5) (N0 := 12) X hM hl.1 (c_X5_putBack (l := l) (g := g) (b := b) ka hq) mv_X5_putBack rfl (by decide) ka ml_X5_115 ⟨Nat.le_trans (Nat.le_of_ble_eq_true rfl) hRf, Nat.le_trans (Nat.le_of_ble_eq_true rfl) hRl⟩ rfl rfl (Nat.le_of_ble_eq_true rfl) dX5_why_83 (fun H locs hM => ?_)
            refine lv_iload hx hb dX5_why_86 (lv_at hl 0 rfl) ?_
            exact cz_reti X hM h rfl dX5_why_88
        · have h := cz_ite_f c11 h
          refine lv_iconst (v := nI 2) hx hb dX5_why_54 (by decide) ?_
          refine lv_goto (tgt := 80) hx hb dX5_why_55 (by decide) ?_
          refine lv_istore (lv' := [(4, .int (nI 2)), (3, .int v8), (2, .int v7), (0, .ref a), (1, .int x1)]) hx hb dX5_why_80 hl (by decide) rfl (fun ls hl => ?_)
          refine lv_aload_n hx hb dX5_why_82 rfl (lv_at hl 3 rfl) ?_
          obtain ⟨M18, hq, h⟩ := cz_bd_t h
          refine cz_runV (rest := []) (As := []) (T := TX5) (N0 := 12) X hM hl.1 (c_X5_putBack (l := l) (g := g) (b := b) ka hq) mv_X5_putBack rfl (by decide) ka ml_X5_115 ⟨Nat.le_trans (Nat.le_of_ble_eq_true rfl) hRf, Nat.le_trans (Nat.le_of_ble_eq_true rfl) hRl⟩ rfl rfl (Nat.le_of_ble_eq_true rfl) dX5_why_83 (fun H locs hM => ?_)
          refine lv_iload hx hb dX5_why_86 (lv_at hl 0 rfl) ?_
          exact cz_reti X hM h rfl dX5_why_88
      · have h := cz_ite_t c9 h
        refine lv_iconst (v := nI 0) hx hb dX5_why_42 (by decide) ?_
        refine lv_goto (tgt := 80) hx hb dX5_why_43 (by decide) ?_
        refine lv_istore (lv' := [(4, .int (nI 0)), (3, .int v8), (2, .int v7), (0, .ref a), (1, .int x1)]) hx hb dX5_why_80 hl (by decide) rfl (fun ls hl => ?_)
        refine lv_aload_n hx hb dX5_why_82 rfl (lv_at hl 3 rfl) ?_
        obtain ⟨M19, hq, h⟩ := cz_bd_t h
        refine cz_runV (rest := []) (As := []) (T := TX5) (N0 := 12) X hM hl.1 (c_X5_putBack (l := l) (g := g) (b := b) ka hq) mv_X5_putBack rfl (by decide) ka ml_X5_115 ⟨Nat.le_trans (Nat.le_of_ble_eq_true rfl) hRf, Nat.le_trans (Nat.le_of_ble_eq_true rfl) hRl⟩ rfl rfl (Nat.le_of_ble_eq_true rfl) dX5_why_83 (fun H locs hM => ?_)
        refine lv_iload hx hb dX5_why_86 (lv_at hl 0 rfl) ?_
        exact cz_reti X hM h rfl dX5_why_88
    · have h := cz_ite_f c4 h
      refine lv_iconst (v := nI 1) hx hb dX5_why_19 (by decide) ?_
      exact cz_reti X hM h rfl dX5_why_20
  · have h := cz_ite_t c2 h
    refine lv_iconst (v := -1) hx hb dX5_why_8 (by decide) ?_
    exact cz_reti X hM h rfl dX5_why_9
theorem mv_X5_shiftsOf : cz_MV yX5_shiftsOf cX5_shiftsOf 4 (some .int) RX5 1 := ⟨mi_X5_shiftsOf, ms_X5_shiftsOf, mc_X5_shiftsOf, ini_X5, by decide +kernel⟩
set_option maxHeartbeats 4000000 in
set_option maxRecDepth 100000 in
theorem w_X5_shiftsOf_L4 {p : Program} {l : Launch} {e : Env} {R : Room} {s : State} {m : MethodId} {args : Array Value} {below : List Frame} {meth : Method} {c : Code} {g : cz_G} {b : Nat} (X : cz_X p s m args meth c cX5_shiftsOf 4 RX5 g b (some .int)) (hRf : 0 ≤ R.frames) (hRl : 0 ≤ R.locals) {r0 : Int32} {a0 : Nat} {x1 : Int32} {M : cz_M} (ka0 : cz_K b a0 5)
    (K : Int32 → Int32 → Option (Int32)) (hX : ∀ (x2 : Int32) (x3 : Int32) (H : Heap) (locs : List Loc) (ls : Array Slot), K x2 x3 = some r0 → cz_WS g b M s H locs → lv_has ls 4 [(0, .ref a0), (1, .int x1), (2, .int x2), (3, .int x3)] → W p l e R s m args below meth c H locs 0 0 (MQ below (cz_Q g b (some (.int r0)) M) args s 0 0 (fun q => b ≤ q)) (F0 m 36 ls [])) :
    ∀ (n : Nat) (x2 : Int32) (x3 : Int32) (H : Heap) (locs : List Loc) (ls : Array Slot), cz_it2 (f_X5_shiftsOf_L4 a0 x1 M K) n x2 x3 = some r0 → cz_WS g b M s H locs → lv_has ls 4 [(0, .ref a0), (1, .int x1), (2, .int x2), (3, .int x3)] → W p l e R s m args below meth c H locs 0 0 (MQ below (cz_Q g b (some (.int r0)) M) args s 0 0 (fun q => b ≤ q)) (F0 m 4 ls []) := by
  obtain ⟨hx, hb, -, ho, ht, -⟩ := id X
  intro n
  induction n with
  | zero => intro x2 x3 H locs ls h; cases (show none = some _ from h)
  | succ n ih =>
    intro x2 x3 H locs ls h hM hl
    have h : f_X5_shiftsOf_L4 a0 x1 M K (cz_it2 (f_X5_shiftsOf_L4 a0 x1 M K) n) x2 x3 = some r0 := h
    rw [f_X5_shiftsOf_L4] at h
    refine lv_iload_n hx hb dX5_shiftsOf_4 rfl (lv_at hl 3 rfl) ?_
    refine lv_bipush (v := nI 8) hx hb dX5_shiftsOf_5 (by decide) ?_
    refine lv_icmp_ge (tgt := 36) hx hb dX5_shiftsOf_7 (by decide) (fun c1 => ?_) (fun c1 => ?_)
    · have h := cz_ite_t c1 h
      exact hX _ _ _ _ _ h hM (lv_sub hl [0, 1, 2, 3] rfl)
    · have h := cz_ite_f c1 h
      refine lv_iload_n hx hb dX5_shiftsOf_10 rfl (lv_at hl 2 rfl) ?_
      refine lv_aload_n hx hb dX5_shiftsOf_11 rfl (lv_at hl 0 rfl) ?_
      refine cz_getR X hM ff_X5_0 ka0 lk_X5_7 dX5_shiftsOf_12 (fun hk2 => ?_)
      refine lv_iconst (v := nI 5) hx hb dX5_shiftsOf_15 (by decide) ?_
      refine lv_iload_n hx hb dX5_shiftsOf_16 rfl (lv_at hl 3 rfl) ?_
      refine lv_iadd hx hb dX5_shiftsOf_17 ?_
      refine cz_iald (n := 551) X hM h hk2 (by decide) dX5_shiftsOf_18 (fun h => ?_)
      refine lv_iload_n hx hb dX5_shiftsOf_19 rfl (lv_at hl 1 rfl) ?_
      refine lv_icmp_ne (tgt := 27) hx hb dX5_shiftsOf_20 (by decide) (fun c3 => ?_) (fun c3 => ?_)
      · have h := cz_ite_f c3 h
        refine lv_iconst (v := nI 0) hx hb dX5_shiftsOf_27 (by decide) ?_
        refine lv_iadd hx hb dX5_shiftsOf_28 ?_
        refine cz_nmi h (fun v4 h => ?_)
        refine lv_istore_n (lv' := [(2, .int v4), (0, .ref a0), (1, .int x1), (3, .int x3)]) hx hb dX5_shiftsOf_29 rfl hl (by decide) rfl (fun ls hl => ?_)
        refine cz_nmL (v := x3 + nI 1) h (fun v5 e6 h => ?_)
        refine lv_iinc (v := v5) (lv' := [(3, .int v5), (2, .int v4), (0, .ref a0), (1, .int x1)]) hx hb dX5_shiftsOf_30 hl (k := 3) rfl (by rw [e6]; rfl) (by decide) rfl (fun ls hl => ?_)
        refine lv_goto (tgt := 4) hx hb dX5_shiftsOf_33 (by decide) ?_
        exact ih _ _ _ _ _ h hM (lv_sub hl [2, 3, 1, 0] rfl)
      · have h := cz_ite_t c3 h
        refine lv_iconst (v := nI 1) hx hb dX5_shiftsOf_23 (by decide) ?_
        refine lv_goto (tgt := 28) hx hb dX5_shiftsOf_24 (by decide) ?_
        refine lv_iadd hx hb dX5_shiftsOf_28 ?_
        refine cz_nmi h (fun v7 h => ?_)
        refine lv_istore_n (lv' := [(2, .int v7), (0, .ref a0), (1, .int x1), (3, .int x3)]) hx hb dX5_shiftsOf_29 rfl hl (by decide) rfl (fun ls hl => ?_)
        refine cz_nmL (v := x3 + nI 1) h (fun v8 e9 h => ?_)
        refine lv_iinc (v := v8) (lv' := [(3, .int v8), (2, .int v7), (0, .ref a0), (1, .int x1)]) hx hb dX5_shiftsOf_30 hl (k := 3) rfl (by rw [e9]; rfl) (by decide) rfl (fun ls hl => ?_)
        refine lv_goto (tgt := 4) hx hb dX5_shiftsOf_33 (by decide) ?_
        exact ih _ _ _ _ _ h hM (lv_sub hl [2, 3, 1, 0] rfl)
set_option maxHeartbeats 4000000 in
set_option maxRecDepth 100000 in
theorem c_X5_shiftsOf {l : Launch} {g : cz_G} {b : Nat} {M : cz_M} {r0 : Int32} {a : Nat} {x1 : Int32} (ka : cz_K b a 5) (h : f_X5_shiftsOf M a x1 = some r0) : cz_C l yX5_shiftsOf cX5_shiftsOf 4 (some .int) 0 0 g b [.ref a, .int x1] M (some (.int r0)) M := by
  refine cz_start (by decide) (Nat.le_of_ble_eq_true rfl) (fun p e s m args below meth c X H ls hM hl => ?_)
  have X : cz_X p s m args meth c cX5_shiftsOf 4 RX5 g b (some .int) := X
  obtain ⟨hx, hb, -, ho, ht, -⟩ := id X
  have hRf : 0 ≤ ({ frames := 0, cells := 0, slots := 0, locals := 0 } : Room).frames := Nat.le_refl _
  have hRl : 0 ≤ ({ frames := 0, cells := 0, slots := 0, locals := 0 } : Room).locals := Nat.le_refl _
  have hl : lv_has ls 4 [(0, .ref a), (1, .int x1)] := hl
  rw [f_X5_shiftsOf] at h
  refine lv_iconst (v := nI 0) hx hb dX5_shiftsOf_0 (by decide) ?_
  refine lv_istore_n (lv' := [(2, .int (nI 0)), (0, .ref a), (1, .int x1)]) hx hb dX5_shiftsOf_1 rfl hl (by decide) rfl (fun ls hl => ?_)
  refine lv_iconst (v := nI 0) hx hb dX5_shiftsOf_2 (by decide) ?_
  refine lv_istore_n (lv' := [(3, .int (nI 0)), (2, .int (nI 0)), (0, .ref a), (1, .int x1)]) hx hb dX5_shiftsOf_3 rfl hl (by decide) rfl (fun ls hl => ?_)
  refine w_X5_shiftsOf_L4 X hRf hRl ka _ (fun x10 x11 H locs ls h hM hl => ?_) _ _ _ _ _ _ h hM (lv_sub hl [2, 3, 1, 0] rfl)
  refine lv_iload_n hx hb dX5_shiftsOf_36 rfl (lv_at hl 2 rfl) ?_
  exact cz_retp X hM h rfl dX5_shiftsOf_37
theorem mv_X5_censor : cz_MV yX5_censor cX5_censor 3 (some .int) RX5 2 := ⟨mi_X5_censor, ms_X5_censor, mc_X5_censor, ini_X5, by decide +kernel⟩
set_option maxHeartbeats 4000000 in
set_option maxRecDepth 100000 in
theorem c_X5_censor {l : Launch} {g : cz_G} {b : Nat} {M : cz_M} {r0 : Int32} {a : Nat} {x1 : Int32} {x2 : Int32} (ka : cz_K b a 5) (h : f_X5_censor M a x1 x2 = some r0) : cz_C l yX5_censor cX5_censor 3 (some .int) 1 23 g b [.ref a, .int x1, .int x2] M (some (.int r0)) M := by
  refine cz_start (by decide) (Nat.le_of_ble_eq_true rfl) (fun p e s m args below meth c X H ls hM hl => ?_)
  have X : cz_X p s m args meth c cX5_censor 3 RX5 g b (some .int) := X
  obtain ⟨hx, hb, -, ho, ht, -⟩ := id X
  have hRf : 1 ≤ ({ frames := 1, cells := 0, slots := 0, locals := 23 } : Room).frames := Nat.le_refl _
  have hRl : 23 ≤ ({ frames := 1, cells := 0, slots := 0, locals := 23 } : Room).locals := Nat.le_refl _
  have hl : lv_has ls 3 [(0, .ref a), (1, .int x1), (2, .int x2)] := hl
  rw [f_X5_censor] at h
  refine lv_iload_n hx hb dX5_censor_0 rfl (lv_at hl 1 rfl) ?_
  refine lv_iconst (v := nI 0) hx hb dX5_censor_1 (by decide) ?_
  refine lv_iconst (v := nI 3) hx hb dX5_censor_2 (by decide) ?_
  obtain ⟨v1, hq, h⟩ := cz_bd_t h
  refine cz_runS (rest := []) (As := [.int x1, .int (nI 0), .int (nI 3)]) X hM hl.1 (c_X5_in (l := l) (g := g) (b := b)  hq) mv_X5_in ml_X5_38 ⟨Nat.le_trans (Nat.le_of_ble_eq_true rfl) hRf, Nat.le_trans (Nat.le_of_ble_eq_true rfl) hRl⟩ rfl rfl (Nat.le_of_ble_eq_true rfl) dX5_censor_3 (fun H locs hM => ?_)
  refine lv_if_ne (tgt := 11) hx hb dX5_censor_6 (by decide) (fun c2 => ?_) (fun c2 => ?_)
  · have h := cz_ite_f c2 h
    refine lv_iload_n hx hb dX5_censor_11 rfl (lv_at hl 2 rfl) ?_
    refine lv_iconst (v := nI 1) hx hb dX5_censor_12 (by decide) ?_
    refine lv_icmp_ne (tgt := 24) hx hb dX5_censor_13 (by decide) (fun c3 => ?_) (fun c3 => ?_)
    · have h := cz_ite_f c3 h
      refine lv_iload_n hx hb dX5_censor_24 rfl (lv_at hl 2 rfl) ?_
      refine lv_if_ne (tgt := 41) hx hb dX5_censor_25 (by decide) (fun c4 => ?_) (fun c4 => ?_)
      · have h := cz_ite_f c4 h
        refine lv_iload_n hx hb dX5_censor_41 rfl (lv_at hl 2 rfl) ?_
        refine lv_iconst (v := nI 2) hx hb dX5_censor_42 (by decide) ?_
        refine lv_iconst (v := nI 4) hx hb dX5_censor_43 (by decide) ?_
        obtain ⟨v5, hq, h⟩ := cz_bd_t h
        refine cz_runS (rest := []) (As := [.int x2, .int (nI 2), .int (nI 4)]) X hM hl.1 (c_X5_in (l := l) (g := g) (b := b)  hq) mv_X5_in ml_X5_38 ⟨Nat.le_trans (Nat.le_of_ble_eq_true rfl) hRf, Nat.le_trans (Nat.le_of_ble_eq_true rfl) hRl⟩ rfl rfl (Nat.le_of_ble_eq_true rfl) dX5_censor_44 (fun H locs hM => ?_)
        refine lv_if_eq (tgt := 65) hx hb dX5_censor_47 (by decide) (fun c6 => ?_) (fun c6 => ?_)
        · have h := cz_ite_t c6 h
          refine lv_bipush (v := -2) hx hb dX5_censor_65 (by decide) ?_
          exact cz_retp X hM h rfl dX5_censor_67
        · have h := cz_ite_f c6 h
          refine lv_aload_n hx hb dX5_censor_50 rfl (lv_at hl 0 rfl) ?_
          refine cz_getR X hM ff_X5_0 ka lk_X5_7 dX5_censor_51 (fun hk7 => ?_)
          refine lv_iload_n hx hb dX5_censor_54 rfl (lv_at hl 1 rfl) ?_
          refine lv_iload_n hx hb dX5_censor_55 rfl (lv_at hl 2 rfl) ?_
          refine lv_iconst (v := nI 1) hx hb dX5_censor_56 (by decide) ?_
          refine lv_isub hx hb dX5_censor_57 ?_
          obtain ⟨v8, hq, h⟩ := cz_bd_t h
          refine cz_runS (rest := [.ref (a + 1)]) (As := [.int x1, .int (x2 - (nI 1))]) X hM hl.1 (c_X5_ofCensor (l := l) (g := g) (b := b)  hq) mv_X5_ofCensor ml_X5_53 ⟨Nat.le_trans (Nat.le_of_ble_eq_true rfl) hRf, Nat.le_trans (Nat.le_of_ble_eq_true rfl) hRl⟩ rfl rfl (Nat.le_of_ble_eq_true rfl) dX5_censor_58 (fun H locs hM => ?_)
          refine cz_iald (n := 551) X hM h hk7 (by decide) dX5_censor_61 (fun h => ?_)
          refine lv_goto (tgt := 67) hx hb dX5_censor_62 (by decide) ?_
          exact cz_retp X hM h rfl dX5_censor_67
      · have h := cz_ite_t c4 h
        refine lv_aload_n hx hb dX5_censor_28 rfl (lv_at hl 0 rfl) ?_
        refine cz_getR X hM ff_X5_0 ka lk_X5_7 dX5_censor_29 (fun hk9 => ?_)
        refine lv_iload_n hx hb dX5_censor_32 rfl (lv_at hl 1 rfl) ?_
        refine lv_iconst (v := nI 0) hx hb dX5_censor_33 (by decide) ?_
        obtain ⟨v10, hq, h⟩ := cz_bd_t h
        refine cz_runS (rest := [.ref (a + 1)]) (As := [.int x1, .int (nI 0)]) X hM hl.1 (c_X5_ofCensor (l := l) (g := g) (b := b)  hq) mv_X5_ofCensor ml_X5_53 ⟨Nat.le_trans (Nat.le_of_ble_eq_true rfl) hRf, Nat.le_trans (Nat.le_of_ble_eq_true rfl) hRl⟩ rfl rfl (Nat.le_of_ble_eq_true rfl) dX5_censor_34 (fun H locs hM => ?_)
        refine cz_iald (n := 551) X hM h hk9 (by decide) dX5_censor_37 (fun h => ?_)
        refine lv_goto (tgt := 67) hx hb dX5_censor_38 (by decide) ?_
        exact cz_retp X hM h rfl dX5_censor_67
    · have h := cz_ite_t c3 h
      refine lv_aload_n hx hb dX5_censor_16 rfl (lv_at hl 0 rfl) ?_
      refine lv_iload_n hx hb dX5_censor_17 rfl (lv_at hl 1 rfl) ?_
      obtain ⟨v11, hq, h⟩ := cz_bd_t h
      refine cz_runV (rest := []) (As := [.int x1]) (T := TX5) (N0 := 12) X hM hl.1 (c_X5_shiftsOf (l := l) (g := g) (b := b) ka hq) mv_X5_shiftsOf rfl (by decide) ka ml_X5_118 ⟨Nat.le_trans (Nat.le_of_ble_eq_true rfl) hRf, Nat.le_trans (Nat.le_of_ble_eq_true rfl) hRl⟩ rfl rfl (Nat.le_of_ble_eq_true rfl) dX5_censor_18 (fun H locs hM => ?_)
      refine lv_goto (tgt := 67) hx hb dX5_censor_21 (by decide) ?_
      exact cz_retp X hM h rfl dX5_censor_67
  · have h := cz_ite_t c2 h
    refine lv_iconst (v := -1) hx hb dX5_censor_9 (by decide) ?_
    exact cz_retp X hM h rfl dX5_censor_10
theorem mv_X5_onShift : cz_MV yX5_onShift cX5_onShift 3 (some .int) RX5 2 := ⟨mi_X5_onShift, ms_X5_onShift, mc_X5_onShift, ini_X5, by decide +kernel⟩
set_option maxHeartbeats 4000000 in
set_option maxRecDepth 100000 in
theorem c_X5_onShift {l : Launch} {g : cz_G} {b : Nat} {M : cz_M} {r0 : Int32} {a : Nat} {x1 : Int32} {x2 : Int32} (ka : cz_K b a 5) (h : f_X5_onShift M a x1 x2 = some r0) : cz_C l yX5_onShift cX5_onShift 3 (some .int) 1 22 g b [.ref a, .int x1, .int x2] M (some (.int r0)) M := by
  refine cz_start (by decide) (Nat.le_of_ble_eq_true rfl) (fun p e s m args below meth c X H ls hM hl => ?_)
  have X : cz_X p s m args meth c cX5_onShift 3 RX5 g b (some .int) := X
  obtain ⟨hx, hb, -, ho, ht, -⟩ := id X
  have hRf : 1 ≤ ({ frames := 1, cells := 0, slots := 0, locals := 22 } : Room).frames := Nat.le_refl _
  have hRl : 22 ≤ ({ frames := 1, cells := 0, slots := 0, locals := 22 } : Room).locals := Nat.le_refl _
  have hl : lv_has ls 3 [(0, .ref a), (1, .int x1), (2, .int x2)] := hl
  rw [f_X5_onShift] at h
  refine lv_iload_n hx hb dX5_onShift_0 rfl (lv_at hl 2 rfl) ?_
  refine lv_iconst (v := nI 0) hx hb dX5_onShift_1 (by decide) ?_
  refine lv_iconst (v := nI 1) hx hb dX5_onShift_2 (by decide) ?_
  obtain ⟨v1, hq, h⟩ := cz_bd_t h
  refine cz_runS (rest := []) (As := [.int x2, .int (nI 0), .int (nI 1)]) X hM hl.1 (c_X5_in (l := l) (g := g) (b := b)  hq) mv_X5_in ml_X5_38 ⟨Nat.le_trans (Nat.le_of_ble_eq_true rfl) hRf, Nat.le_trans (Nat.le_of_ble_eq_true rfl) hRl⟩ rfl rfl (Nat.le_of_ble_eq_true rfl) dX5_onShift_3 (fun H locs hM => ?_)
  refine lv_if_ne (tgt := 13) hx hb dX5_onShift_6 (by decide) (fun c2 => ?_) (fun c2 => ?_)
  · have h := cz_ite_f c2 h
    refine lv_iload_n hx hb dX5_onShift_13 rfl (lv_at hl 1 rfl) ?_
    refine lv_iconst (v := nI 0) hx hb dX5_onShift_14 (by decide) ?_
    refine lv_sipush (v := nI 9999) hx hb dX5_onShift_15 (by decide) ?_
    obtain ⟨v3, hq, h⟩ := cz_bd_t h
    refine cz_runS (rest := []) (As := [.int x1, .int (nI 0), .int (nI 9999)]) X hM hl.1 (c_X5_in (l := l) (g := g) (b := b)  hq) mv_X5_in ml_X5_38 ⟨Nat.le_trans (Nat.le_of_ble_eq_true rfl) hRf, Nat.le_trans (Nat.le_of_ble_eq_true rfl) hRl⟩ rfl rfl (Nat.le_of_ble_eq_true rfl) dX5_onShift_18 (fun H locs hM => ?_)
    refine lv_if_eq (tgt := 41) hx hb dX5_onShift_21 (by decide) (fun c4 => ?_) (fun c4 => ?_)
    · have h := cz_ite_t c4 h
      refine lv_bipush (v := -2) hx hb dX5_onShift_41 (by decide) ?_
      exact cz_retp X hM h rfl dX5_onShift_43
    · have h := cz_ite_f c4 h
      refine lv_aload_n hx hb dX5_onShift_24 rfl (lv_at hl 0 rfl) ?_
      refine cz_getR X hM ff_X5_0 ka lk_X5_7 dX5_onShift_25 (fun hk5 => ?_)
      refine lv_iconst (v := nI 5) hx hb dX5_onShift_28 (by decide) ?_
      refine lv_iconst (v := nI 2) hx hb dX5_onShift_29 (by decide) ?_
      refine lv_iload_n hx hb dX5_onShift_30 rfl (lv_at hl 1 rfl) ?_
      refine lv_iconst (v := nI 4) hx hb dX5_onShift_31 (by decide) ?_
      refine lv_irem hx hb dX5_onShift_32 (by decide) ?_
      refine lv_imul hx hb dX5_onShift_33 ?_
      refine lv_iadd hx hb dX5_onShift_34 ?_
      refine lv_iload_n hx hb dX5_onShift_35 rfl (lv_at hl 2 rfl) ?_
      refine lv_iadd hx hb dX5_onShift_36 ?_
      refine cz_iald (n := 551) X hM h hk5 (by decide) dX5_onShift_37 (fun h => ?_)
      refine lv_goto (tgt := 43) hx hb dX5_onShift_38 (by decide) ?_
      exact cz_retp X hM h rfl dX5_onShift_43
  · have h := cz_ite_t c2 h
    refine lv_iconst (v := -1) hx hb dX5_onShift_9 (by decide) ?_
    refine lv_goto (tgt := 43) hx hb dX5_onShift_10 (by decide) ?_
    exact cz_retp X hM h rfl dX5_onShift_43
theorem mv_X5_delays : cz_MV yX5_delays cX5_delays 3 (some .int) RX5 0 := ⟨mi_X5_delays, ms_X5_delays, mc_X5_delays, ini_X5, by decide +kernel⟩
set_option maxHeartbeats 4000000 in
set_option maxRecDepth 100000 in
theorem w_X5_delays_L4 {p : Program} {l : Launch} {e : Env} {R : Room} {s : State} {m : MethodId} {args : Array Value} {below : List Frame} {meth : Method} {c : Code} {g : cz_G} {b : Nat} (X : cz_X p s m args meth c cX5_delays 3 RX5 g b (some .int)) (hRf : 2 ≤ R.frames) (hRl : 43 ≤ R.locals) {r0 : Int32} {a0 : Nat} {M : cz_M} (ka0 : cz_K b a0 5)
    (K : Int32 → Int32 → Option (Int32)) (hX : ∀ (x1 : Int32) (x2 : Int32) (H : Heap) (locs : List Loc) (ls : Array Slot), K x1 x2 = some r0 → cz_WS g b M s H locs → lv_has ls 3 [(0, .ref a0), (1, .int x1), (2, .int x2)] → W p l e R s m args below meth c H locs 0 0 (MQ below (cz_Q g b (some (.int r0)) M) args s 0 0 (fun q => b ≤ q)) (F0 m 43 ls [])) :
    ∀ (n : Nat) (x1 : Int32) (x2 : Int32) (H : Heap) (locs : List Loc) (ls : Array Slot), cz_it2 (f_X5_delays_L4 a0 M K) n x1 x2 = some r0 → cz_WS g b M s H locs → lv_has ls 3 [(0, .ref a0), (1, .int x1), (2, .int x2)] → W p l e R s m args below meth c H locs 0 0 (MQ below (cz_Q g b (some (.int r0)) M) args s 0 0 (fun q => b ≤ q)) (F0 m 4 ls []) := by
  obtain ⟨hx, hb, -, ho, ht, -⟩ := id X
  intro n
  induction n with
  | zero => intro x1 x2 H locs ls h; cases (show none = some _ from h)
  | succ n ih =>
    intro x1 x2 H locs ls h hM hl
    have h : f_X5_delays_L4 a0 M K (cz_it2 (f_X5_delays_L4 a0 M K) n) x1 x2 = some r0 := h
    rw [f_X5_delays_L4] at h
    refine lv_iload_n hx hb dX5_delays_4 rfl (lv_at hl 2 rfl) ?_
    refine lv_aload_n hx hb dX5_delays_5 rfl (lv_at hl 0 rfl) ?_
    refine cz_getR X hM ff_X5_0 ka0 lk_X5_7 dX5_delays_6 (fun hk1 => ?_)
    refine lv_iconst (v := nI 4) hx hb dX5_delays_9 (by decide) ?_
    refine cz_iald (n := 551) X hM h hk1 (by decide) dX5_delays_10 (fun h => ?_)
    refine lv_icmp_ge (tgt := 43) hx hb dX5_delays_11 (by decide) (fun c2 => ?_) (fun c2 => ?_)
    · have h := cz_ite_t c2 h
      exact hX _ _ _ _ _ h hM (lv_sub hl [0, 1, 2] rfl)
    · have h := cz_ite_f c2 h
      refine lv_iload_n hx hb dX5_delays_14 rfl (lv_at hl 1 rfl) ?_
      refine lv_aload_n hx hb dX5_delays_15 rfl (lv_at hl 0 rfl) ?_
      refine lv_iload_n hx hb dX5_delays_16 rfl (lv_at hl 2 rfl) ?_
      refine lv_iconst (v := nI 2) hx hb dX5_delays_17 (by decide) ?_
      obtain ⟨v3, hq, h⟩ := cz_bd_t h
      refine cz_runV (rest := [.int x1]) (As := [.int x2, .int (nI 2)]) (T := TX5) (N0 := 12) X hM hl.1 (c_X5_of (l := l) (g := g) (b := b) ka0 hq) mv_X5_of rfl (by decide) ka0 ml_X5_50 ⟨Nat.le_trans (Nat.le_of_ble_eq_true rfl) hRf, Nat.le_trans (Nat.le_of_ble_eq_true rfl) hRl⟩ rfl rfl (Nat.le_of_ble_eq_true rfl) dX5_delays_18 (fun H locs hM => ?_)
      refine lv_iconst (v := nI 1) hx hb dX5_delays_21 (by decide) ?_
      refine lv_icmp_ne (tgt := 34) hx hb dX5_delays_22 (by decide) (fun c4 => ?_) (fun c4 => ?_)
      · have h := cz_ite_f c4 h
        refine lv_iconst (v := nI 0) hx hb dX5_delays_34 (by decide) ?_
        refine lv_iadd hx hb dX5_delays_35 ?_
        refine cz_nmi h (fun v5 h => ?_)
        refine lv_istore_n (lv' := [(1, .int v5), (0, .ref a0), (2, .int x2)]) hx hb dX5_delays_36 rfl hl (by decide) rfl (fun ls hl => ?_)
        refine cz_nmL (v := x2 + nI 1) h (fun v6 e7 h => ?_)
        refine lv_iinc (v := v6) (lv' := [(2, .int v6), (1, .int v5), (0, .ref a0)]) hx hb dX5_delays_37 hl (k := 2) rfl (by rw [e7]; rfl) (by decide) rfl (fun ls hl => ?_)
        refine lv_goto (tgt := 4) hx hb dX5_delays_40 (by decide) ?_
        exact ih _ _ _ _ _ h hM (lv_sub hl [2, 1, 0] rfl)
      · have h := cz_ite_t c4 h
        refine lv_aload_n hx hb dX5_delays_25 rfl (lv_at hl 0 rfl) ?_
        refine lv_iload_n hx hb dX5_delays_26 rfl (lv_at hl 2 rfl) ?_
        refine lv_iconst (v := nI 4) hx hb dX5_delays_27 (by decide) ?_
        obtain ⟨v8, hq, h⟩ := cz_bd_t h
        refine cz_runV (rest := [.int x1]) (As := [.int x2, .int (nI 4)]) (T := TX5) (N0 := 12) X hM hl.1 (c_X5_of (l := l) (g := g) (b := b) ka0 hq) mv_X5_of rfl (by decide) ka0 ml_X5_50 ⟨Nat.le_trans (Nat.le_of_ble_eq_true rfl) hRf, Nat.le_trans (Nat.le_of_ble_eq_true rfl) hRl⟩ rfl rfl (Nat.le_of_ble_eq_true rfl) dX5_delays_28 (fun H locs hM => ?_)
        refine lv_goto (tgt := 35) hx hb dX5_delays_31 (by decide) ?_
        refine lv_iadd hx hb dX5_delays_35 ?_
        refine cz_nmi h (fun v9 h => ?_)
        refine lv_istore_n (lv' := [(1, .int v9), (0, .ref a0), (2, .int x2)]) hx hb dX5_delays_36 rfl hl (by decide) rfl (fun ls hl => ?_)
        refine cz_nmL (v := x2 + nI 1) h (fun v10 e11 h => ?_)
        refine lv_iinc (v := v10) (lv' := [(2, .int v10), (1, .int v9), (0, .ref a0)]) hx hb dX5_delays_37 hl (k := 2) rfl (by rw [e11]; rfl) (by decide) rfl (fun ls hl => ?_)
        refine lv_goto (tgt := 4) hx hb dX5_delays_40 (by decide) ?_
        exact ih _ _ _ _ _ h hM (lv_sub hl [2, 1, 0] rfl)
set_option maxHeartbeats 4000000 in
set_option maxRecDepth 100000 in
theorem c_X5_delays {l : Launch} {g : cz_G} {b : Nat} {M : cz_M} {r0 : Int32} {a : Nat} (ka : cz_K b a 5) (h : f_X5_delays M a = some r0) : cz_C l yX5_delays cX5_delays 3 (some .int) 2 43 g b [.ref a] M (some (.int r0)) M := by
  refine cz_start (by decide) (Nat.le_of_ble_eq_true rfl) (fun p e s m args below meth c X H ls hM hl => ?_)
  have X : cz_X p s m args meth c cX5_delays 3 RX5 g b (some .int) := X
  obtain ⟨hx, hb, -, ho, ht, -⟩ := id X
  have hRf : 2 ≤ ({ frames := 2, cells := 0, slots := 0, locals := 43 } : Room).frames := Nat.le_refl _
  have hRl : 43 ≤ ({ frames := 2, cells := 0, slots := 0, locals := 43 } : Room).locals := Nat.le_refl _
  have hl : lv_has ls 3 [(0, .ref a)] := hl
  rw [f_X5_delays] at h
  refine lv_iconst (v := nI 0) hx hb dX5_delays_0 (by decide) ?_
  refine lv_istore_n (lv' := [(1, .int (nI 0)), (0, .ref a)]) hx hb dX5_delays_1 rfl hl (by decide) rfl (fun ls hl => ?_)
  refine lv_iconst (v := nI 0) hx hb dX5_delays_2 (by decide) ?_
  refine lv_istore_n (lv' := [(2, .int (nI 0)), (1, .int (nI 0)), (0, .ref a)]) hx hb dX5_delays_3 rfl hl (by decide) rfl (fun ls hl => ?_)
  refine w_X5_delays_L4 X hRf hRl ka _ (fun x12 x13 H locs ls h hM hl => ?_) _ _ _ _ _ _ h hM (lv_sub hl [2, 1, 0] rfl)
  refine lv_iload_n hx hb dX5_delays_43 rfl (lv_at hl 1 rfl) ?_
  exact cz_retp X hM h rfl dX5_delays_44
theorem mv_X5_longest : cz_MV yX5_longest cX5_longest 3 (some .int) RX5 0 := ⟨mi_X5_longest, ms_X5_longest, mc_X5_longest, ini_X5, by decide +kernel⟩
set_option maxHeartbeats 4000000 in
set_option maxRecDepth 100000 in
theorem w_X5_longest_L4 {p : Program} {l : Launch} {e : Env} {R : Room} {s : State} {m : MethodId} {args : Array Value} {below : List Frame} {meth : Method} {c : Code} {g : cz_G} {b : Nat} (X : cz_X p s m args meth c cX5_longest 3 RX5 g b (some .int)) (hRf : 2 ≤ R.frames) (hRl : 43 ≤ R.locals) {r0 : Int32} {a0 : Nat} {M : cz_M} (ka0 : cz_K b a0 5)
    (K : Int32 → Int32 → Option (Int32)) (hX : ∀ (x1 : Int32) (x2 : Int32) (H : Heap) (locs : List Loc) (ls : Array Slot), K x1 x2 = some r0 → cz_WS g b M s H locs → lv_has ls 3 [(0, .ref a0), (1, .int x1), (2, .int x2)] → W p l e R s m args below meth c H locs 0 0 (MQ below (cz_Q g b (some (.int r0)) M) args s 0 0 (fun q => b ≤ q)) (F0 m 41 ls [])) :
    ∀ (n : Nat) (x1 : Int32) (x2 : Int32) (H : Heap) (locs : List Loc) (ls : Array Slot), cz_it2 (f_X5_longest_L4 a0 M K) n x1 x2 = some r0 → cz_WS g b M s H locs → lv_has ls 3 [(0, .ref a0), (1, .int x1), (2, .int x2)] → W p l e R s m args below meth c H locs 0 0 (MQ below (cz_Q g b (some (.int r0)) M) args s 0 0 (fun q => b ≤ q)) (F0 m 4 ls []) := by
  obtain ⟨hx, hb, -, ho, ht, -⟩ := id X
  intro n
  induction n with
  | zero => intro x1 x2 H locs ls h; cases (show none = some _ from h)
  | succ n ih =>
    intro x1 x2 H locs ls h hM hl
    have h : f_X5_longest_L4 a0 M K (cz_it2 (f_X5_longest_L4 a0 M K) n) x1 x2 = some r0 := h
    rw [f_X5_longest_L4] at h
    refine lv_iload_n hx hb dX5_longest_4 rfl (lv_at hl 2 rfl) ?_
    refine lv_aload_n hx hb dX5_longest_5 rfl (lv_at hl 0 rfl) ?_
    refine cz_getR X hM ff_X5_0 ka0 lk_X5_7 dX5_longest_6 (fun hk1 => ?_)
    refine lv_iconst (v := nI 4) hx hb dX5_longest_9 (by decide) ?_
    refine cz_iald (n := 551) X hM h hk1 (by decide) dX5_longest_10 (fun h => ?_)
    refine lv_icmp_ge (tgt := 41) hx hb dX5_longest_11 (by decide) (fun c2 => ?_) (fun c2 => ?_)
    · have h := cz_ite_t c2 h
      exact hX _ _ _ _ _ h hM (lv_sub hl [0, 1, 2] rfl)
    · have h := cz_ite_f c2 h
      refine lv_aload_n hx hb dX5_longest_14 rfl (lv_at hl 0 rfl) ?_
      refine lv_iload_n hx hb dX5_longest_15 rfl (lv_at hl 2 rfl) ?_
      refine lv_iconst (v := nI 4) hx hb dX5_longest_16 (by decide) ?_
      obtain ⟨v3, hq, h⟩ := cz_bd_t h
      refine cz_runV (rest := []) (As := [.int x2, .int (nI 4)]) (T := TX5) (N0 := 12) X hM hl.1 (c_X5_of (l := l) (g := g) (b := b) ka0 hq) mv_X5_of rfl (by decide) ka0 ml_X5_50 ⟨Nat.le_trans (Nat.le_of_ble_eq_true rfl) hRf, Nat.le_trans (Nat.le_of_ble_eq_true rfl) hRl⟩ rfl rfl (Nat.le_of_ble_eq_true rfl) dX5_longest_17 (fun H locs hM => ?_)
      refine lv_iload_n hx hb dX5_longest_20 rfl (lv_at hl 1 rfl) ?_
      refine lv_icmp_le (tgt := 33) hx hb dX5_longest_21 (by decide) (fun c4 => ?_) (fun c4 => ?_)
      · have h := cz_ite_t c4 h
        refine lv_iload_n hx hb dX5_longest_33 rfl (lv_at hl 1 rfl) ?_
        refine lv_istore_n (lv' := [(1, .int x1), (0, .ref a0), (2, .int x2)]) hx hb dX5_longest_34 rfl hl (by decide) rfl (fun ls hl => ?_)
        refine cz_nmL (v := x2 + nI 1) h (fun v5 e6 h => ?_)
        refine lv_iinc (v := v5) (lv' := [(2, .int v5), (1, .int x1), (0, .ref a0)]) hx hb dX5_longest_35 hl (k := 2) rfl (by rw [e6]; rfl) (by decide) rfl (fun ls hl => ?_)
        refine lv_goto (tgt := 4) hx hb dX5_longest_38 (by decide) ?_
        exact ih _ _ _ _ _ h hM (lv_sub hl [2, 1, 0] rfl)
      · have h := cz_ite_f c4 h
        refine lv_aload_n hx hb dX5_longest_24 rfl (lv_at hl 0 rfl) ?_
        refine lv_iload_n hx hb dX5_longest_25 rfl (lv_at hl 2 rfl) ?_
        refine lv_iconst (v := nI 4) hx hb dX5_longest_26 (by decide) ?_
        obtain ⟨v7, hq, h⟩ := cz_bd_t h
        refine cz_runV (rest := []) (As := [.int x2, .int (nI 4)]) (T := TX5) (N0 := 12) X hM hl.1 (c_X5_of (l := l) (g := g) (b := b) ka0 hq) mv_X5_of rfl (by decide) ka0 ml_X5_50 ⟨Nat.le_trans (Nat.le_of_ble_eq_true rfl) hRf, Nat.le_trans (Nat.le_of_ble_eq_true rfl) hRl⟩ rfl rfl (Nat.le_of_ble_eq_true rfl) dX5_longest_27 (fun H locs hM => ?_)
        refine lv_goto (tgt := 34) hx hb dX5_longest_30 (by decide) ?_
        refine lv_istore_n (lv' := [(1, .int v7), (0, .ref a0), (2, .int x2)]) hx hb dX5_longest_34 rfl hl (by decide) rfl (fun ls hl => ?_)
        refine cz_nmL (v := x2 + nI 1) h (fun v8 e9 h => ?_)
        refine lv_iinc (v := v8) (lv' := [(2, .int v8), (1, .int v7), (0, .ref a0)]) hx hb dX5_longest_35 hl (k := 2) rfl (by rw [e9]; rfl) (by decide) rfl (fun ls hl => ?_)
        refine lv_goto (tgt := 4) hx hb dX5_longest_38 (by decide) ?_
        exact ih _ _ _ _ _ h hM (lv_sub hl [2, 1, 0] rfl)
set_option maxHeartbeats 4000000 in
set_option maxRecDepth 100000 in
theorem c_X5_longest {l : Launch} {g : cz_G} {b : Nat} {M : cz_M} {r0 : Int32} {a : Nat} (ka : cz_K b a 5) (h : f_X5_longest M a = some r0) : cz_C l yX5_longest cX5_longest 3 (some .int) 2 43 g b [.ref a] M (some (.int r0)) M := by
  refine cz_start (by decide) (Nat.le_of_ble_eq_true rfl) (fun p e s m args below meth c X H ls hM hl => ?_)
  have X : cz_X p s m args meth c cX5_longest 3 RX5 g b (some .int) := X
  obtain ⟨hx, hb, -, ho, ht, -⟩ := id X
  have hRf : 2 ≤ ({ frames := 2, cells := 0, slots := 0, locals := 43 } : Room).frames := Nat.le_refl _
  have hRl : 43 ≤ ({ frames := 2, cells := 0, slots := 0, locals := 43 } : Room).locals := Nat.le_refl _
  have hl : lv_has ls 3 [(0, .ref a)] := hl
  rw [f_X5_longest] at h
  refine lv_iconst (v := nI 0) hx hb dX5_longest_0 (by decide) ?_
  refine lv_istore_n (lv' := [(1, .int (nI 0)), (0, .ref a)]) hx hb dX5_longest_1 rfl hl (by decide) rfl (fun ls hl => ?_)
  refine lv_iconst (v := nI 0) hx hb dX5_longest_2 (by decide) ?_
  refine lv_istore_n (lv' := [(2, .int (nI 0)), (1, .int (nI 0)), (0, .ref a)]) hx hb dX5_longest_3 rfl hl (by decide) rfl (fun ls hl => ?_)
  refine w_X5_longest_L4 X hRf hRl ka _ (fun x10 x11 H locs ls h hM hl => ?_) _ _ _ _ _ _ h hM (lv_sub hl [2, 1, 0] rfl)
  refine lv_iload_n hx hb dX5_longest_41 rfl (lv_at hl 1 rfl) ?_
  exact cz_retp X hM h rfl dX5_longest_42
theorem mv_X5_waitingThreads : cz_MV yX5_waitingThreads cX5_waitingThreads 3 (some .int) RX5 0 := ⟨mi_X5_waitingThreads, ms_X5_waitingThreads, mc_X5_waitingThreads, ini_X5, by decide +kernel⟩
set_option maxHeartbeats 4000000 in
set_option maxRecDepth 100000 in
theorem w_X5_waitingThreads_L4 {p : Program} {l : Launch} {e : Env} {R : Room} {s : State} {m : MethodId} {args : Array Value} {below : List Frame} {meth : Method} {c : Code} {g : cz_G} {b : Nat} (X : cz_X p s m args meth c cX5_waitingThreads 3 RX5 g b (some .int)) (hRf : 2 ≤ R.frames) (hRl : 43 ≤ R.locals) {r0 : Int32} {a0 : Nat} {M : cz_M} (ka0 : cz_K b a0 5)
    (K : Int32 → Int32 → Option (Int32)) (hX : ∀ (x1 : Int32) (x2 : Int32) (H : Heap) (locs : List Loc) (ls : Array Slot), K x1 x2 = some r0 → cz_WS g b M s H locs → lv_has ls 3 [(0, .ref a0), (1, .int x1), (2, .int x2)] → W p l e R s m args below meth c H locs 0 0 (MQ below (cz_Q g b (some (.int r0)) M) args s 0 0 (fun q => b ≤ q)) (F0 m 44 ls [])) :
    ∀ (n : Nat) (x1 : Int32) (x2 : Int32) (H : Heap) (locs : List Loc) (ls : Array Slot), cz_it2 (f_X5_waitingThreads_L4 a0 M K) n x1 x2 = some r0 → cz_WS g b M s H locs → lv_has ls 3 [(0, .ref a0), (1, .int x1), (2, .int x2)] → W p l e R s m args below meth c H locs 0 0 (MQ below (cz_Q g b (some (.int r0)) M) args s 0 0 (fun q => b ≤ q)) (F0 m 4 ls []) := by
  obtain ⟨hx, hb, -, ho, ht, -⟩ := id X
  intro n
  induction n with
  | zero => intro x1 x2 H locs ls h; cases (show none = some _ from h)
  | succ n ih =>
    intro x1 x2 H locs ls h hM hl
    have h : f_X5_waitingThreads_L4 a0 M K (cz_it2 (f_X5_waitingThreads_L4 a0 M K) n) x1 x2 = some r0 := h
    rw [f_X5_waitingThreads_L4] at h
    refine lv_iload_n hx hb dX5_waitingThreads_4 rfl (lv_at hl 2 rfl) ?_
    refine lv_aload_n hx hb dX5_waitingThreads_5 rfl (lv_at hl 0 rfl) ?_
    refine cz_getR X hM ff_X5_0 ka0 lk_X5_7 dX5_waitingThreads_6 (fun hk1 => ?_)
    refine lv_iconst (v := nI 4) hx hb dX5_waitingThreads_9 (by decide) ?_
    refine cz_iald (n := 551) X hM h hk1 (by decide) dX5_waitingThreads_10 (fun h => ?_)
    refine lv_icmp_ge (tgt := 44) hx hb dX5_waitingThreads_11 (by decide) (fun c2 => ?_) (fun c2 => ?_)
    · have h := cz_ite_t c2 h
      exact hX _ _ _ _ _ h hM (lv_sub hl [0, 1, 2] rfl)
    · have h := cz_ite_f c2 h
      refine lv_iload_n hx hb dX5_waitingThreads_14 rfl (lv_at hl 1 rfl) ?_
      refine lv_aload_n hx hb dX5_waitingThreads_15 rfl (lv_at hl 0 rfl) ?_
      refine lv_iload_n hx hb dX5_waitingThreads_16 rfl (lv_at hl 2 rfl) ?_
      refine lv_iconst (v := nI 2) hx hb dX5_waitingThreads_17 (by decide) ?_
      obtain ⟨v3, hq, h⟩ := cz_bd_t h
      refine cz_runV (rest := [.int x1]) (As := [.int x2, .int (nI 2)]) (T := TX5) (N0 := 12) X hM hl.1 (c_X5_of (l := l) (g := g) (b := b) ka0 hq) mv_X5_of rfl (by decide) ka0 ml_X5_50 ⟨Nat.le_trans (Nat.le_of_ble_eq_true rfl) hRf, Nat.le_trans (Nat.le_of_ble_eq_true rfl) hRl⟩ rfl rfl (Nat.le_of_ble_eq_true rfl) dX5_waitingThreads_18 (fun H locs hM => ?_)
      refine lv_if_ne (tgt := 35) hx hb dX5_waitingThreads_21 (by decide) (fun c4 => ?_) (fun c4 => ?_)
      · have h := cz_ite_f c4 h
        refine lv_iconst (v := nI 0) hx hb dX5_waitingThreads_35 (by decide) ?_
        refine lv_ior hx hb dX5_waitingThreads_36 ?_
        refine cz_nmi h (fun v5 h => ?_)
        refine lv_istore_n (lv' := [(1, .int v5), (0, .ref a0), (2, .int x2)]) hx hb dX5_waitingThreads_37 rfl hl (by decide) rfl (fun ls hl => ?_)
        refine cz_nmL (v := x2 + nI 1) h (fun v6 e7 h => ?_)
        refine lv_iinc (v := v6) (lv' := [(2, .int v6), (1, .int v5), (0, .ref a0)]) hx hb dX5_waitingThreads_38 hl (k := 2) rfl (by rw [e7]; rfl) (by decide) rfl (fun ls hl => ?_)
        refine lv_goto (tgt := 4) hx hb dX5_waitingThreads_41 (by decide) ?_
        exact ih _ _ _ _ _ h hM (lv_sub hl [2, 1, 0] rfl)
      · have h := cz_ite_t c4 h
        refine lv_iconst (v := nI 1) hx hb dX5_waitingThreads_24 (by decide) ?_
        refine lv_aload_n hx hb dX5_waitingThreads_25 rfl (lv_at hl 0 rfl) ?_
        refine lv_iload_n hx hb dX5_waitingThreads_26 rfl (lv_at hl 2 rfl) ?_
        refine lv_iconst (v := nI 0) hx hb dX5_waitingThreads_27 (by decide) ?_
        obtain ⟨v8, hq, h⟩ := cz_bd_t h
        refine cz_runV (rest := [.int (nI 1), .int x1]) (As := [.int x2, .int (nI 0)]) (T := TX5) (N0 := 12) X hM hl.1 (c_X5_of (l := l) (g := g) (b := b) ka0 hq) mv_X5_of rfl (by decide) ka0 ml_X5_50 ⟨Nat.le_trans (Nat.le_of_ble_eq_true rfl) hRf, Nat.le_trans (Nat.le_of_ble_eq_true rfl) hRl⟩ rfl rfl (Nat.le_of_ble_eq_true rfl) dX5_waitingThreads_28 (fun H locs hM => ?_)
        refine lv_ishl hx hb dX5_waitingThreads_31 ?_
        refine lv_goto (tgt := 36) hx hb dX5_waitingThreads_32 (by decide) ?_
        refine lv_ior hx hb dX5_waitingThreads_36 ?_
        refine cz_nmi h (fun v9 h => ?_)
        refine lv_istore_n (lv' := [(1, .int v9), (0, .ref a0), (2, .int x2)]) hx hb dX5_waitingThreads_37 rfl hl (by decide) rfl (fun ls hl => ?_)
        refine cz_nmL (v := x2 + nI 1) h (fun v10 e11 h => ?_)
        refine lv_iinc (v := v10) (lv' := [(2, .int v10), (1, .int v9), (0, .ref a0)]) hx hb dX5_waitingThreads_38 hl (k := 2) rfl (by rw [e11]; rfl) (by decide) rfl (fun ls hl => ?_)
        refine lv_goto (tgt := 4) hx hb dX5_waitingThreads_41 (by decide) ?_
        exact ih _ _ _ _ _ h hM (lv_sub hl [2, 1, 0] rfl)
set_option maxHeartbeats 4000000 in
set_option maxRecDepth 100000 in
theorem c_X5_waitingThreads {l : Launch} {g : cz_G} {b : Nat} {M : cz_M} {r0 : Int32} {a : Nat} (ka : cz_K b a 5) (h : f_X5_waitingThreads M a = some r0) : cz_C l yX5_waitingThreads cX5_waitingThreads 3 (some .int) 2 43 g b [.ref a] M (some (.int r0)) M := by
  refine cz_start (by decide) (Nat.le_of_ble_eq_true rfl) (fun p e s m args below meth c X H ls hM hl => ?_)
  have X : cz_X p s m args meth c cX5_waitingThreads 3 RX5 g b (some .int) := X
  obtain ⟨hx, hb, -, ho, ht, -⟩ := id X
  have hRf : 2 ≤ ({ frames := 2, cells := 0, slots := 0, locals := 43 } : Room).frames := Nat.le_refl _
  have hRl : 43 ≤ ({ frames := 2, cells := 0, slots := 0, locals := 43 } : Room).locals := Nat.le_refl _
  have hl : lv_has ls 3 [(0, .ref a)] := hl
  rw [f_X5_waitingThreads] at h
  refine lv_iconst (v := nI 0) hx hb dX5_waitingThreads_0 (by decide) ?_
  refine lv_istore_n (lv' := [(1, .int (nI 0)), (0, .ref a)]) hx hb dX5_waitingThreads_1 rfl hl (by decide) rfl (fun ls hl => ?_)
  refine lv_iconst (v := nI 0) hx hb dX5_waitingThreads_2 (by decide) ?_
  refine lv_istore_n (lv' := [(2, .int (nI 0)), (1, .int (nI 0)), (0, .ref a)]) hx hb dX5_waitingThreads_3 rfl hl (by decide) rfl (fun ls hl => ?_)
  refine w_X5_waitingThreads_L4 X hRf hRl ka _ (fun x12 x13 H locs ls h hM hl => ?_) _ _ _ _ _ _ h hM (lv_sub hl [2, 1, 0] rfl)
  refine lv_iload_n hx hb dX5_waitingThreads_44 rfl (lv_at hl 1 rfl) ?_
  obtain ⟨v14, hq, h⟩ := cz_bd_t h
  refine cz_runS (rest := []) (As := [.int x12]) X hM hl.1 (c_X5_bits (l := l) (g := g) (b := b)  hq) mv_X5_bits ml_X5_62 ⟨Nat.le_trans (Nat.le_of_ble_eq_true rfl) hRf, Nat.le_trans (Nat.le_of_ble_eq_true rfl) hRl⟩ rfl rfl (Nat.le_of_ble_eq_true rfl) dX5_waitingThreads_45 (fun H locs hM => ?_)
  exact cz_retp X hM h rfl dX5_waitingThreads_48
theorem mv_X5_count : cz_MV yX5_count cX5_count 2 (some .int) RX5 1 := ⟨mi_X5_count, ms_X5_count, mc_X5_count, ini_X5, by decide +kernel⟩
set_option maxHeartbeats 4000000 in
set_option maxRecDepth 100000 in
theorem c_X5_count {l : Launch} {g : cz_G} {b : Nat} {M : cz_M} {r0 : Int32} {a : Nat} {x1 : Int32} (ka : cz_K b a 5) (h : f_X5_count M a x1 = some r0) : cz_C l yX5_count cX5_count 2 (some .int) 3 66 g b [.ref a, .int x1] M (some (.int r0)) M := by
  refine cz_start (by decide) (Nat.le_of_ble_eq_true rfl) (fun p e s m args below meth c X H ls hM hl => ?_)
  have X : cz_X p s m args meth c cX5_count 2 RX5 g b (some .int) := X
  obtain ⟨hx, hb, -, ho, ht, -⟩ := id X
  have hRf : 3 ≤ ({ frames := 3, cells := 0, slots := 0, locals := 66 } : Room).frames := Nat.le_refl _
  have hRl : 66 ≤ ({ frames := 3, cells := 0, slots := 0, locals := 66 } : Room).locals := Nat.le_refl _
  have hl : lv_has ls 2 [(0, .ref a), (1, .int x1)] := hl
  rw [f_X5_count] at h
  refine lv_iload_n hx hb dX5_count_0 rfl (lv_at hl 1 rfl) ?_
  refine lv_iconst (v := nI 0) hx hb dX5_count_1 (by decide) ?_
  refine lv_iconst (v := nI 4) hx hb dX5_count_2 (by decide) ?_
  obtain ⟨v1, hq, h⟩ := cz_bd_t h
  refine cz_runS (rest := []) (As := [.int x1, .int (nI 0), .int (nI 4)]) X hM hl.1 (c_X5_in (l := l) (g := g) (b := b)  hq) mv_X5_in ml_X5_38 ⟨Nat.le_trans (Nat.le_of_ble_eq_true rfl) hRf, Nat.le_trans (Nat.le_of_ble_eq_true rfl) hRl⟩ rfl rfl (Nat.le_of_ble_eq_true rfl) dX5_count_3 (fun H locs hM => ?_)
  refine lv_if_eq (tgt := 16) hx hb dX5_count_6 (by decide) (fun c2 => ?_) (fun c2 => ?_)
  · have h := cz_ite_t c2 h
    refine lv_iload_n hx hb dX5_count_16 rfl (lv_at hl 1 rfl) ?_
    by_cases c3 : x1 = (nI 5)
    · have h := cz_ite_t c3 h
      refine lv_tableIn (off := 59) (tgt := 76) hx hb dX5_count_17 (by rw [c3]; decide) (by rw [c3]; decide) (by rw [c3]; rfl) (by decide) ?_
      refine lv_aload_n hx hb dX5_count_76 rfl (lv_at hl 0 rfl) ?_
      refine lv_iload_n hx hb dX5_count_77 rfl (lv_at hl 1 rfl) ?_
      refine lv_iconst (v := nI 5) hx hb dX5_count_78 (by decide) ?_
      refine lv_isub hx hb dX5_count_79 ?_
      obtain ⟨v4, hq, h⟩ := cz_bd_t h
      refine cz_runV (rest := []) (As := [.int (x1 - (nI 5))]) (T := TX5) (N0 := 12) X hM hl.1 (c_X5_many (l := l) (g := g) (b := b) ka hq) mv_X5_many rfl (by decide) ka ml_X5_121 ⟨Nat.le_trans (Nat.le_of_ble_eq_true rfl) hRf, Nat.le_trans (Nat.le_of_ble_eq_true rfl) hRl⟩ rfl rfl (Nat.le_of_ble_eq_true rfl) dX5_count_80 (fun H locs hM => ?_)
      exact cz_retp X hM h rfl dX5_count_83
    have h := cz_ite_f c3 h
    by_cases c5 : x1 = (nI 6)
    · have h := cz_ite_t c5 h
      refine lv_tableIn (off := 59) (tgt := 76) hx hb dX5_count_17 (by rw [c5]; decide) (by rw [c5]; decide) (by rw [c5]; rfl) (by decide) ?_
      refine lv_aload_n hx hb dX5_count_76 rfl (lv_at hl 0 rfl) ?_
      refine lv_iload_n hx hb dX5_count_77 rfl (lv_at hl 1 rfl) ?_
      refine lv_iconst (v := nI 5) hx hb dX5_count_78 (by decide) ?_
      refine lv_isub hx hb dX5_count_79 ?_
      obtain ⟨v6, hq, h⟩ := cz_bd_t h
      refine cz_runV (rest := []) (As := [.int (x1 - (nI 5))]) (T := TX5) (N0 := 12) X hM hl.1 (c_X5_many (l := l) (g := g) (b := b) ka hq) mv_X5_many rfl (by decide) ka ml_X5_121 ⟨Nat.le_trans (Nat.le_of_ble_eq_true rfl) hRf, Nat.le_trans (Nat.le_of_ble_eq_true rfl) hRl⟩ rfl rfl (Nat.le_of_ble_eq_true rfl) dX5_count_80 (fun H locs hM => ?_)
      exact cz_retp X hM h rfl dX5_count_83
    have h := cz_ite_f c5 h
    by_cases c7 : x1 = (nI 7)
    · have h := cz_ite_t c7 h
      refine lv_tableIn (off := 59) (tgt := 76) hx hb dX5_count_17 (by rw [c7]; decide) (by rw [c7]; decide) (by rw [c7]; rfl) (by decide) ?_
      refine lv_aload_n hx hb dX5_count_76 rfl (lv_at hl 0 rfl) ?_
      refine lv_iload_n hx hb dX5_count_77 rfl (lv_at hl 1 rfl) ?_
      refine lv_iconst (v := nI 5) hx hb dX5_count_78 (by decide) ?_
      refine lv_isub hx hb dX5_count_79 ?_
      obtain ⟨v8, hq, h⟩ := cz_bd_t h
      refine cz_runV (rest := []) (As := [.int (x1 - (nI 5))]) (T := TX5) (N0 := 12) X hM hl.1 (c_X5_many (l := l) (g := g) (b := b) ka hq) mv_X5_many rfl (by decide) ka ml_X5_121 ⟨Nat.le_trans (Nat.le_of_ble_eq_true rfl) hRf, Nat.le_trans (Nat.le_of_ble_eq_true rfl) hRl⟩ rfl rfl (Nat.le_of_ble_eq_true rfl) dX5_count_80 (fun H locs hM => ?_)
      exact cz_retp X hM h rfl dX5_count_83
    have h := cz_ite_f c7 h
    by_cases c9 : x1 = (nI 8)
    · have h := cz_ite_t c9 h
      refine lv_tableIn (off := 67) (tgt := 84) hx hb dX5_count_17 (by rw [c9]; decide) (by rw [c9]; decide) (by rw [c9]; rfl) (by decide) ?_
      refine lv_aload_n hx hb dX5_count_84 rfl (lv_at hl 0 rfl) ?_
      refine cz_getR X hM ff_X5_0 ka lk_X5_7 dX5_count_85 (fun hk10 => ?_)
      refine lv_bipush (v := nI 29) hx hb dX5_count_88 (by decide) ?_
      refine lv_iload_n hx hb dX5_count_90 rfl (lv_at hl 1 rfl) ?_
      refine lv_iadd hx hb dX5_count_91 ?_
      refine lv_bipush (v := nI 8) hx hb dX5_count_92 (by decide) ?_
      refine lv_isub hx hb dX5_count_94 ?_
      refine cz_iald (n := 551) X hM h hk10 (by decide) dX5_count_95 (fun h => ?_)
      exact cz_retp X hM h rfl dX5_count_96
    have h := cz_ite_f c9 h
    by_cases c11 : x1 = (nI 9)
    · have h := cz_ite_t c11 h
      refine lv_tableIn (off := 67) (tgt := 84) hx hb dX5_count_17 (by rw [c11]; decide) (by rw [c11]; decide) (by rw [c11]; rfl) (by decide) ?_
      refine lv_aload_n hx hb dX5_count_84 rfl (lv_at hl 0 rfl) ?_
      refine cz_getR X hM ff_X5_0 ka lk_X5_7 dX5_count_85 (fun hk12 => ?_)
      refine lv_bipush (v := nI 29) hx hb dX5_count_88 (by decide) ?_
      refine lv_iload_n hx hb dX5_count_90 rfl (lv_at hl 1 rfl) ?_
      refine lv_iadd hx hb dX5_count_91 ?_
      refine lv_bipush (v := nI 8) hx hb dX5_count_92 (by decide) ?_
      refine lv_isub hx hb dX5_count_94 ?_
      refine cz_iald (n := 551) X hM h hk12 (by decide) dX5_count_95 (fun h => ?_)
      exact cz_retp X hM h rfl dX5_count_96
    have h := cz_ite_f c11 h
    by_cases c13 : x1 = (nI 10)
    · have h := cz_ite_t c13 h
      refine lv_tableIn (off := 80) (tgt := 97) hx hb dX5_count_17 (by rw [c13]; decide) (by rw [c13]; decide) (by rw [c13]; rfl) (by decide) ?_
      refine lv_aload_n hx hb dX5_count_97 rfl (lv_at hl 0 rfl) ?_
      obtain ⟨v14, hq, h⟩ := cz_bd_t h
      refine cz_runV (rest := []) (As := []) (T := TX5) (N0 := 12) X hM hl.1 (c_X5_delays (l := l) (g := g) (b := b) ka hq) mv_X5_delays rfl (by decide) ka ml_X5_124 ⟨Nat.le_trans (Nat.le_of_ble_eq_true rfl) hRf, Nat.le_trans (Nat.le_of_ble_eq_true rfl) hRl⟩ rfl rfl (Nat.le_of_ble_eq_true rfl) dX5_count_98 (fun H locs hM => ?_)
      exact cz_retp X hM h rfl dX5_count_101
    have h := cz_ite_f c13 h
    by_cases c15 : x1 = (nI 11)
    · have h := cz_ite_t c15 h
      refine lv_tableIn (off := 85) (tgt := 102) hx hb dX5_count_17 (by rw [c15]; decide) (by rw [c15]; decide) (by rw [c15]; rfl) (by decide) ?_
      refine lv_aload_n hx hb dX5_count_102 rfl (lv_at hl 0 rfl) ?_
      obtain ⟨v16, hq, h⟩ := cz_bd_t h
      refine cz_runV (rest := []) (As := []) (T := TX5) (N0 := 12) X hM hl.1 (c_X5_longest (l := l) (g := g) (b := b) ka hq) mv_X5_longest rfl (by decide) ka ml_X5_127 ⟨Nat.le_trans (Nat.le_of_ble_eq_true rfl) hRf, Nat.le_trans (Nat.le_of_ble_eq_true rfl) hRl⟩ rfl rfl (Nat.le_of_ble_eq_true rfl) dX5_count_103 (fun H locs hM => ?_)
      exact cz_retp X hM h rfl dX5_count_106
    have h := cz_ite_f c15 h
    by_cases c17 : x1 = (nI 12)
    · have h := cz_ite_t c17 h
      refine lv_tableIn (off := 90) (tgt := 107) hx hb dX5_count_17 (by rw [c17]; decide) (by rw [c17]; decide) (by rw [c17]; rfl) (by decide) ?_
      refine lv_aload_n hx hb dX5_count_107 rfl (lv_at hl 0 rfl) ?_
      obtain ⟨v18, hq, h⟩ := cz_bd_t h
      refine cz_runV (rest := []) (As := []) (T := TX5) (N0 := 12) X hM hl.1 (c_X5_struckWords (l := l) (g := g) (b := b) ka hq) mv_X5_struckWords rfl (by decide) ka ml_X5_130 ⟨Nat.le_trans (Nat.le_of_ble_eq_true rfl) hRf, Nat.le_trans (Nat.le_of_ble_eq_true rfl) hRl⟩ rfl rfl (Nat.le_of_ble_eq_true rfl) dX5_count_108 (fun H locs hM => ?_)
      exact cz_retp X hM h rfl dX5_count_111
    have h := cz_ite_f c17 h
    by_cases c19 : x1 = (nI 13)
    · have h := cz_ite_t c19 h
      refine lv_tableIn (off := 95) (tgt := 112) hx hb dX5_count_17 (by rw [c19]; decide) (by rw [c19]; decide) (by rw [c19]; rfl) (by decide) ?_
      refine lv_aload_n hx hb dX5_count_112 rfl (lv_at hl 0 rfl) ?_
      obtain ⟨v20, hq, h⟩ := cz_bd_t h
      refine cz_runV (rest := []) (As := []) (T := TX5) (N0 := 12) X hM hl.1 (c_X5_waitingThreads (l := l) (g := g) (b := b) ka hq) mv_X5_waitingThreads rfl (by decide) ka ml_X5_133 ⟨Nat.le_trans (Nat.le_of_ble_eq_true rfl) hRf, Nat.le_trans (Nat.le_of_ble_eq_true rfl) hRl⟩ rfl rfl (Nat.le_of_ble_eq_true rfl) dX5_count_113 (fun H locs hM => ?_)
      exact cz_retp X hM h rfl dX5_count_116
    have h := cz_ite_f c19 h
    by_cases c21 : x1 = (nI 14)
    · have h := cz_ite_t c21 h
      refine lv_tableIn (off := 100) (tgt := 117) hx hb dX5_count_17 (by rw [c21]; decide) (by rw [c21]; decide) (by rw [c21]; rfl) (by decide) ?_
      refine lv_aload_n hx hb dX5_count_117 rfl (lv_at hl 0 rfl) ?_
      refine cz_getI X hM ff_X5_7 ka lk_X5_136 dX5_count_118 ?_
      exact cz_retp X hM h rfl dX5_count_121
    have h := cz_ite_f c21 h
    by_cases c22 : x1 = (nI 15)
    · have h := cz_ite_t c22 h
      refine lv_tableIn (off := 105) (tgt := 122) hx hb dX5_count_17 (by rw [c22]; decide) (by rw [c22]; decide) (by rw [c22]; rfl) (by decide) ?_
      refine lv_aload_n hx hb dX5_count_122 rfl (lv_at hl 0 rfl) ?_
      refine cz_getI X hM ff_X5_3 ka lk_X5_46 dX5_count_123 ?_
      exact cz_retp X hM h rfl dX5_count_126
    have h := cz_ite_f c22 h
    refine lv_tableOut (tgt := 127) hx hb dX5_count_17 (by
      have e0 := lv_neT c3 (show ((nI 5) : Int32).toInt = 5 from by decide)
      have e1 := lv_neT c5 (show ((nI 6) : Int32).toInt = 6 from by decide)
      have e2 := lv_neT c7 (show ((nI 7) : Int32).toInt = 7 from by decide)
      have e3 := lv_neT c9 (show ((nI 8) : Int32).toInt = 8 from by decide)
      have e4 := lv_neT c11 (show ((nI 9) : Int32).toInt = 9 from by decide)
      have e5 := lv_neT c13 (show ((nI 10) : Int32).toInt = 10 from by decide)
      have e6 := lv_neT c15 (show ((nI 11) : Int32).toInt = 11 from by decide)
      have e7 := lv_neT c17 (show ((nI 12) : Int32).toInt = 12 from by decide)
      have e8 := lv_neT c19 (show ((nI 13) : Int32).toInt = 13 from by decide)
      have e9 := lv_neT c21 (show ((nI 14) : Int32).toInt = 14 from by decide)
      have e10 := lv_neT c22 (show ((nI 15) : Int32).toInt = 15 from by decide)
      clear h; omega) (by decide) ?_
    refine lv_bipush (v := -2) hx hb dX5_count_127 (by decide) ?_
    exact cz_retp X hM h rfl dX5_count_129
  · have h := cz_ite_f c2 h
    refine lv_aload_n hx hb dX5_count_9 rfl (lv_at hl 0 rfl) ?_
    refine cz_getR X hM ff_X5_0 ka lk_X5_7 dX5_count_10 (fun hk23 => ?_)
    refine lv_iload_n hx hb dX5_count_13 rfl (lv_at hl 1 rfl) ?_
    refine cz_iald (n := 551) X hM h hk23 (by decide) dX5_count_14 (fun h => ?_)
    exact cz_retp X hM h rfl dX5_count_15
theorem mv_X5_untilCome : cz_MV yX5_untilCome cX5_untilCome 4 (some .int) RX5 1 := ⟨mi_X5_untilCome, ms_X5_untilCome, mc_X5_untilCome, ini_X5, by decide +kernel⟩
set_option maxHeartbeats 4000000 in
set_option maxRecDepth 100000 in
theorem w_X5_untilCome_L16 {p : Program} {l : Launch} {e : Env} {R : Room} {s : State} {m : MethodId} {args : Array Value} {below : List Frame} {meth : Method} {c : Code} {g : cz_G} {b : Nat} (X : cz_X p s m args meth c cX5_untilCome 4 RX5 g b (some .int)) (hRf : 7 ≤ R.frames) (hRl : 164 ≤ R.locals) {r0 : Int32} {M9 : cz_M} {a0 : Nat} {x1 : Int32} (ka0 : cz_K b a0 5)
    (K : Int32 → cz_M → Option (Int32 × cz_M)) (hX : ∀ (x2 : Int32) (M : cz_M) (H : Heap) (locs : List Loc) (ls : Array Slot), K x2 M = some (r0, M9) → cz_WS g b M s H locs → lv_has ls 4 [(0, .ref a0), (1, .int x1), (2, .int x2)] → W p l e R s m args below meth c H locs 0 0 (MQ below (cz_Q g b (some (.int r0)) M9) args s 0 0 (fun q => b ≤ q)) (F0 m 42 ls [])) :
    ∀ (n : Nat) (x2 : Int32) (M : cz_M) (H : Heap) (locs : List Loc) (ls : Array Slot), cz_it2 (f_X5_untilCome_L16 a0 x1 K) n x2 M = some (r0, M9) → cz_WS g b M s H locs → lv_has ls 4 [(0, .ref a0), (1, .int x1), (2, .int x2)] → W p l e R s m args below meth c H locs 0 0 (MQ below (cz_Q g b (some (.int r0)) M9) args s 0 0 (fun q => b ≤ q)) (F0 m 16 ls []) := by
  obtain ⟨hx, hb, -, ho, ht, -⟩ := id X
  intro n
  induction n with
  | zero => intro x2 M H locs ls h; cases (show none = some _ from h)
  | succ n ih =>
    intro x2 M H locs ls h hM hl
    have h : f_X5_untilCome_L16 a0 x1 K (cz_it2 (f_X5_untilCome_L16 a0 x1 K) n) x2 M = some (r0, M9) := h
    rw [f_X5_untilCome_L16] at h
    refine lv_aload_n hx hb dX5_untilCome_16 rfl (lv_at hl 0 rfl) ?_
    refine lv_iload_n hx hb dX5_untilCome_17 rfl (lv_at hl 1 rfl) ?_
    refine lv_iconst (v := nI 2) hx hb dX5_untilCome_18 (by decide) ?_
    obtain ⟨v4, hq, h⟩ := cz_bd_t h
    refine cz_runV (rest := []) (As := [.int x1, .int (nI 2)]) (T := TX5) (N0 := 12) X hM hl.1 (c_X5_of (l := l) (g := g) (b := b) ka0 hq) mv_X5_of rfl (by decide) ka0 ml_X5_50 ⟨Nat.le_trans (Nat.le_of_ble_eq_true rfl) hRf, Nat.le_trans (Nat.le_of_ble_eq_true rfl) hRl⟩ rfl rfl (Nat.le_of_ble_eq_true rfl) dX5_untilCome_19 (fun H locs hM => ?_)
    refine lv_if_ne (tgt := 42) hx hb dX5_untilCome_22 (by decide) (fun c5 => ?_) (fun c5 => ?_)
    · have h := cz_ite_f c5 h
      exact hX _ _ _ _ _ h hM (lv_sub hl [0, 1, 2] rfl)
    · have h := cz_ite_t c5 h
      refine lv_iload_n hx hb dX5_untilCome_25 rfl (lv_at hl 2 rfl) ?_
      refine lv_bipush (v := nI 100) hx hb dX5_untilCome_26 (by decide) ?_
      refine lv_icmp_ge (tgt := 42) hx hb dX5_untilCome_28 (by decide) (fun c6 => ?_) (fun c6 => ?_)
      · have h := cz_ite_t c6 h
        exact hX _ _ _ _ _ h hM (lv_sub hl [0, 1, 2] rfl)
      · have h := cz_ite_f c6 h
        refine lv_aload_n hx hb dX5_untilCome_31 rfl (lv_at hl 0 rfl) ?_
        obtain ⟨v8, M7, hq, h⟩ := cz_b2_t h
        refine cz_runV (rest := []) (As := []) (T := TX5) (N0 := 12) X hM hl.1 (c_X5_week (l := l) (g := g) (b := b) ka0 hq) mv_X5_week rfl (by decide) ka0 ml_X5_84 ⟨Nat.le_trans (Nat.le_of_ble_eq_true rfl) hRf, Nat.le_trans (Nat.le_of_ble_eq_true rfl) hRl⟩ rfl rfl (Nat.le_of_ble_eq_true rfl) dX5_untilCome_32 (fun H locs hM => ?_)
        refine lv_istore_n (lv' := [(3, .int v8), (0, .ref a0), (1, .int x1), (2, .int x2)]) hx hb dX5_untilCome_35 rfl hl (by decide) rfl (fun ls hl => ?_)
        refine cz_nmL (v := x2 + nI 1) h (fun v9 e10 h => ?_)
        refine lv_iinc (v := v9) (lv' := [(2, .int v9), (3, .int v8), (0, .ref a0), (1, .int x1)]) hx hb dX5_untilCome_36 hl (k := 3) rfl (by rw [e10]; rfl) (by decide) rfl (fun ls hl => ?_)
        refine lv_goto (tgt := 16) hx hb dX5_untilCome_39 (by decide) ?_
        exact ih _ _ _ _ _ h hM (lv_sub hl [2, 3, 0] rfl)
set_option maxHeartbeats 4000000 in
set_option maxRecDepth 100000 in
theorem c_X5_untilCome {l : Launch} {g : cz_G} {b : Nat} {M : cz_M} {r0 : Int32} {M9 : cz_M} {a : Nat} {x1 : Int32} (ka : cz_K b a 5) (h : f_X5_untilCome M a x1 = some (r0, M9)) : cz_C l yX5_untilCome cX5_untilCome 4 (some .int) 7 164 g b [.ref a, .int x1] M (some (.int r0)) M9 := by
  refine cz_start (by decide) (Nat.le_of_ble_eq_true rfl) (fun p e s m args below meth c X H ls hM hl => ?_)
  have X : cz_X p s m args meth c cX5_untilCome 4 RX5 g b (some .int) := X
  obtain ⟨hx, hb, -, ho, ht, -⟩ := id X
  have hRf : 7 ≤ ({ frames := 7, cells := 0, slots := 0, locals := 164 } : Room).frames := Nat.le_refl _
  have hRl : 164 ≤ ({ frames := 7, cells := 0, slots := 0, locals := 164 } : Room).locals := Nat.le_refl _
  have hl : lv_has ls 4 [(0, .ref a), (1, .int x1)] := hl
  rw [f_X5_untilCome] at h
  refine lv_aload_n hx hb dX5_untilCome_0 rfl (lv_at hl 0 rfl) ?_
  refine lv_iload_n hx hb dX5_untilCome_1 rfl (lv_at hl 1 rfl) ?_
  obtain ⟨v1, hq, h⟩ := cz_bd_t h
  refine cz_runV (rest := []) (As := [.int x1]) (T := TX5) (N0 := 12) X hM hl.1 (c_X5_isLetter (l := l) (g := g) (b := b) ka hq) mv_X5_isLetter rfl (by decide) ka ml_X5_100 ⟨Nat.le_trans (Nat.le_of_ble_eq_true rfl) hRf, Nat.le_trans (Nat.le_of_ble_eq_true rfl) hRl⟩ rfl rfl (Nat.le_of_ble_eq_true rfl) dX5_untilCome_2 (fun H locs hM => ?_)
  refine lv_if_ne (tgt := 10) hx hb dX5_untilCome_5 (by decide) (fun c2 => ?_) (fun c2 => ?_)
  · have h := cz_ite_f c2 h
    refine lv_aload_n hx hb dX5_untilCome_10 rfl (lv_at hl 0 rfl) ?_
    obtain ⟨M3, hq, h⟩ := cz_bd_t h
    refine cz_runV (rest := []) (As := []) (T := TX5) (N0 := 12) X hM hl.1 (c_X5_putAside (l := l) (g := g) (b := b) ka hq) mv_X5_putAside rfl (by decide) ka ml_X5_112 ⟨Nat.le_trans (Nat.le_of_ble_eq_true rfl) hRf, Nat.le_trans (Nat.le_of_ble_eq_true rfl) hRl⟩ rfl rfl (Nat.le_of_ble_eq_true rfl) dX5_untilCome_11 (fun H locs hM => ?_)
    refine lv_iconst (v := nI 0) hx hb dX5_untilCome_14 (by decide) ?_
    refine lv_istore_n (lv' := [(2, .int (nI 0)), (0, .ref a), (1, .int x1)]) hx hb dX5_untilCome_15 rfl hl (by decide) rfl (fun ls hl => ?_)
    refine w_X5_untilCome_L16 X hRf hRl ka _ (fun x11 M12 H locs ls h hM hl => ?_) _ _ _ _ _ _ h hM (lv_sub hl [1, 2, 0] rfl)
    refine lv_aload_n hx hb dX5_untilCome_42 rfl (lv_at hl 0 rfl) ?_
    refine lv_iload_n hx hb dX5_untilCome_43 rfl (lv_at hl 1 rfl) ?_
    refine lv_iconst (v := nI 2) hx hb dX5_untilCome_44 (by decide) ?_
    obtain ⟨v13, hq, h⟩ := cz_bd_t h
    refine cz_runV (rest := []) (As := [.int x1, .int (nI 2)]) (T := TX5) (N0 := 12) X hM hl.1 (c_X5_of (l := l) (g := g) (b := b) ka hq) mv_X5_of rfl (by decide) ka ml_X5_50 ⟨Nat.le_trans (Nat.le_of_ble_eq_true rfl) hRf, Nat.le_trans (Nat.le_of_ble_eq_true rfl) hRl⟩ rfl rfl (Nat.le_of_ble_eq_true rfl) dX5_untilCome_45 (fun H locs hM => ?_)
    refine lv_iconst (v := nI 1) hx hb dX5_untilCome_48 (by decide) ?_
    refine lv_icmp_ne (tgt := 56) hx hb dX5_untilCome_49 (by decide) (fun c14 => ?_) (fun c14 => ?_)
    · have h := cz_ite_f c14 h
      refine lv_iconst (v := nI 0) hx hb dX5_untilCome_56 (by decide) ?_
      refine lv_istore_n (lv' := [(3, .int (nI 0)), (0, .ref a), (1, .int x1), (2, .int x11)]) hx hb dX5_untilCome_57 rfl hl (by decide) rfl (fun ls hl => ?_)
      refine lv_aload_n hx hb dX5_untilCome_58 rfl (lv_at hl 1 rfl) ?_
      obtain ⟨M15, hq, h⟩ := cz_bd_t h
      refine cz_runV (rest := []) (As := []) (T := TX5) (N0 := 12) X hM hl.1 (c_X5_putBack (l := l) (g := g) (b := b) ka hq) mv_X5_putBack rfl (by decide) ka ml_X5_115 ⟨Nat.le_trans (Nat.le_of_ble_eq_true rfl) hRf, Nat.le_trans (Nat.le_of_ble_eq_true rfl) hRl⟩ rfl rfl (Nat.le_of_ble_eq_true rfl) dX5_untilCome_59 (fun H locs hM => ?_)
      refine lv_iload_n hx hb dX5_untilCome_62 rfl (lv_at hl 0 rfl) ?_
      refine lv_if_eq (tgt := 70) hx hb dX5_untilCome_63 (by decide) (fun c16 => ?_) (fun c16 => ?_)
      · have h := cz_ite_t c16 h
        refine lv_bipush (v := -6) hx hb dX5_untilCome_70 (by decide) ?_
        exact cz_reti X hM h rfl dX5_untilCome_72
      · have h := cz_ite_f c16 h
        refine lv_iload_n hx hb dX5_untilCome_66 rfl (lv_at hl 3 rfl) ?_
        refine lv_goto (tgt := 72) hx hb dX5_untilCome_67 (by decide) ?_
        exact cz_reti X hM h rfl dX5_untilCome_72
    · have h := cz_ite_t c14 h
      refine lv_iconst (v := nI 1) hx hb dX5_untilCome_52 (by decide) ?_
      refine lv_goto (tgt := 57) hx hb dX5_untilCome_53 (by decide) ?_
      refine lv_istore_n (lv' := [(3, .int (nI 1)), (0, .ref a), (1, .int x1), (2, .int x11)]) hx hb dX5_untilCome_57 rfl hl (by decide) rfl (fun ls hl => ?_)
      refine lv_aload_n hx hb dX5_untilCome_58 rfl (lv_at hl 1 rfl) ?_
      obtain ⟨M17, hq, h⟩ := cz_bd_t h
      refine cz_runV (rest := []) (As := []) (T := TX5) (N0 := 12) X hM hl.1 (c_X5_putBack (l := l) (g := g) (b := b) ka hq) mv_X5_putBack rfl (by decide) ka ml_X5_115 ⟨Nat.le_trans (Nat.le_of_ble_eq_true rfl) hRf, Nat.le_trans (Nat.le_of_ble_eq_true rfl) hRl⟩ rfl rfl (Nat.le_of_ble_eq_true rfl) dX5_untilCome_59 (fun H locs hM => ?_)
      refine lv_iload_n hx hb dX5_untilCome_62 rfl (lv_at hl 0 rfl) ?_
      refine lv_if_eq (tgt := 70) hx hb dX5_untilCome_63 (by decide) (fun c18 => ?_) (fun c18 => ?_)
      · have h := cz_ite_t c18 h
        refine lv_bipush (v := -6) hx hb dX5_untilCome_70 (by decide) ?_
        exact cz_reti X hM h rfl dX5_untilCome_72
      · have h := cz_ite_f c18 h
        refine lv_iload_n hx hb dX5_untilCome_66 rfl (lv_at hl 3 rfl) ?_
        refine lv_goto (tgt := 72) hx hb dX5_untilCome_67 (by decide) ?_
        exact cz_reti X hM h rfl dX5_untilCome_72
  · have h := cz_ite_t c2 h
    refine lv_iconst (v := -1) hx hb dX5_untilCome_8 (by decide) ?_
    exact cz_reti X hM h rfl dX5_untilCome_9
theorem mv_X5_ifPassed : cz_MV yX5_ifPassed cX5_ifPassed 6 (some .int) RX5 2 := ⟨mi_X5_ifPassed, ms_X5_ifPassed, mc_X5_ifPassed, ini_X5, by decide +kernel⟩
set_option maxHeartbeats 4000000 in
set_option maxRecDepth 100000 in
theorem c_X5_ifPassed {l : Launch} {g : cz_G} {b : Nat} {M : cz_M} {r0 : Int32} {M9 : cz_M} {a : Nat} {x1 : Int32} {x2 : Int32} (ka : cz_K b a 5) (h : f_X5_ifPassed M a x1 x2 = some (r0, M9)) : cz_C l yX5_ifPassed cX5_ifPassed 6 (some .int) 8 187 g b [.ref a, .int x1, .int x2] M (some (.int r0)) M9 := by
  refine cz_start (by decide) (Nat.le_of_ble_eq_true rfl) (fun p e s m args below meth c X H ls hM hl => ?_)
  have X : cz_X p s m args meth c cX5_ifPassed 6 RX5 g b (some .int) := X
  obtain ⟨hx, hb, -, ho, ht, -⟩ := id X
  have hRf : 8 ≤ ({ frames := 8, cells := 0, slots := 0, locals := 187 } : Room).frames := Nat.le_refl _
  have hRl : 187 ≤ ({ frames := 8, cells := 0, slots := 0, locals := 187 } : Room).locals := Nat.le_refl _
  have hl : lv_has ls 6 [(0, .ref a), (1, .int x1), (2, .int x2)] := hl
  rw [f_X5_ifPassed] at h
  refine lv_iload_n hx hb dX5_ifPassed_0 rfl (lv_at hl 1 rfl) ?_
  refine lv_iconst (v := nI 1) hx hb dX5_ifPassed_1 (by decide) ?_
  refine lv_bipush (v := nI 100) hx hb dX5_ifPassed_2 (by decide) ?_
  obtain ⟨v1, hq, h⟩ := cz_bd_t h
  refine cz_runS (rest := []) (As := [.int x1, .int (nI 1), .int (nI 100)]) X hM hl.1 (c_X5_in (l := l) (g := g) (b := b)  hq) mv_X5_in ml_X5_38 ⟨Nat.le_trans (Nat.le_of_ble_eq_true rfl) hRf, Nat.le_trans (Nat.le_of_ble_eq_true rfl) hRl⟩ rfl rfl (Nat.le_of_ble_eq_true rfl) dX5_ifPassed_4 (fun H locs hM => ?_)
  refine lv_if_eq (tgt := 19) hx hb dX5_ifPassed_7 (by decide) (fun c2 => ?_) (fun c2 => ?_)
  · have h := cz_ite_t c2 h
    refine lv_bipush (v := -2) hx hb dX5_ifPassed_19 (by decide) ?_
    exact cz_reti X hM h rfl dX5_ifPassed_21
  · have h := cz_ite_f c2 h
    refine lv_iload_n hx hb dX5_ifPassed_10 rfl (lv_at hl 2 rfl) ?_
    refine lv_iconst (v := nI 0) hx hb dX5_ifPassed_11 (by decide) ?_
    refine lv_iconst (v := nI 2) hx hb dX5_ifPassed_12 (by decide) ?_
    obtain ⟨v3, hq, h⟩ := cz_bd_t h
    refine cz_runS (rest := []) (As := [.int x2, .int (nI 0), .int (nI 2)]) X hM hl.1 (c_X5_in (l := l) (g := g) (b := b)  hq) mv_X5_in ml_X5_38 ⟨Nat.le_trans (Nat.le_of_ble_eq_true rfl) hRf, Nat.le_trans (Nat.le_of_ble_eq_true rfl) hRl⟩ rfl rfl (Nat.le_of_ble_eq_true rfl) dX5_ifPassed_13 (fun H locs hM => ?_)
    refine lv_if_ne (tgt := 22) hx hb dX5_ifPassed_16 (by decide) (fun c4 => ?_) (fun c4 => ?_)
    · have h := cz_ite_f c4 h
      refine lv_aload_n hx hb dX5_ifPassed_22 rfl (lv_at hl 0 rfl) ?_
      obtain ⟨M5, hq, h⟩ := cz_bd_t h
      refine cz_runV (rest := []) (As := []) (T := TX5) (N0 := 12) X hM hl.1 (c_X5_putAside (l := l) (g := g) (b := b) ka hq) mv_X5_putAside rfl (by decide) ka ml_X5_112 ⟨Nat.le_trans (Nat.le_of_ble_eq_true rfl) hRf, Nat.le_trans (Nat.le_of_ble_eq_true rfl) hRl⟩ rfl rfl (Nat.le_of_ble_eq_true rfl) dX5_ifPassed_23 (fun H locs hM => ?_)
      refine lv_iload_n hx hb dX5_ifPassed_26 rfl (lv_at hl 2 rfl) ?_
      refine lv_if_ne (tgt := 38) hx hb dX5_ifPassed_27 (by decide) (fun c6 => ?_) (fun c6 => ?_)
      · have h := cz_ite_f c6 h
        refine lv_iload_n hx hb dX5_ifPassed_38 rfl (lv_at hl 2 rfl) ?_
        refine lv_iconst (v := nI 1) hx hb dX5_ifPassed_39 (by decide) ?_
        refine lv_icmp_ne (tgt := 51) hx hb dX5_ifPassed_40 (by decide) (fun c7 => ?_) (fun c7 => ?_)
        · have h := cz_ite_f c7 h
          refine lv_aload_n hx hb dX5_ifPassed_51 rfl (lv_at hl 0 rfl) ?_
          obtain ⟨v8, hq, h⟩ := cz_bd_t h
          refine cz_runV (rest := []) (As := []) (T := TX5) (N0 := 12) X hM hl.1 (c_X5_struckWords (l := l) (g := g) (b := b) ka hq) mv_X5_struckWords rfl (by decide) ka ml_X5_130 ⟨Nat.le_trans (Nat.le_of_ble_eq_true rfl) hRf, Nat.le_trans (Nat.le_of_ble_eq_true rfl) hRl⟩ rfl rfl (Nat.le_of_ble_eq_true rfl) dX5_ifPassed_52 (fun H locs hM => ?_)
          refine lv_istore_n (lv' := [(3, .int v8), (0, .ref a), (1, .int x1), (2, .int x2)]) hx hb dX5_ifPassed_55 rfl hl (by decide) rfl (fun ls hl => ?_)
          refine lv_aload_n hx hb dX5_ifPassed_56 rfl (lv_at hl 1 rfl) ?_
          refine lv_iload_n hx hb dX5_ifPassed_57 rfl (lv_at hl 2 rfl) ?_
          obtain ⟨v10, M9, hq, h⟩ := cz_b2_t h
          refine cz_runV (rest := []) (As := [.int x1]) (T := TX5) (N0 := 12) X hM hl.1 (c_X5_passes (l := l) (g := g) (b := b) ka hq) mv_X5_passes rfl (by decide) ka ml_X5_106 ⟨Nat.le_trans (Nat.le_of_ble_eq_true rfl) hRf, Nat.le_trans (Nat.le_of_ble_eq_true rfl) hRl⟩ rfl rfl (Nat.le_of_ble_eq_true rfl) dX5_ifPassed_58 (fun H locs hM => ?_)
          refine lv_istore (lv' := [(4, .int v10), (3, .int v8), (0, .ref a), (1, .int x1), (2, .int x2)]) hx hb dX5_ifPassed_61 hl (by decide) rfl (fun ls hl => ?_)
          refine lv_iload_n hx hb dX5_ifPassed_63 rfl (lv_at hl 4 rfl) ?_
          refine lv_if_ne (tgt := 75) hx hb dX5_ifPassed_64 (by decide) (fun c11 => ?_) (fun c11 => ?_)
          · have h := cz_ite_f c11 h
            refine lv_iload_n hx hb dX5_ifPassed_75 rfl (lv_at hl 4 rfl) ?_
            refine lv_iconst (v := nI 1) hx hb dX5_ifPassed_76 (by decide) ?_
            refine lv_icmp_ne (tgt := 88) hx hb dX5_ifPassed_77 (by decide) (fun c12 => ?_) (fun c12 => ?_)
            · have h := cz_ite_f c12 h
              refine lv_aload_n hx hb dX5_ifPassed_88 rfl (lv_at hl 2 rfl) ?_
              obtain ⟨v13, hq, h⟩ := cz_bd_t h
              refine cz_runV (rest := []) (As := []) (T := TX5) (N0 := 12) X hM hl.1 (c_X5_struckWords (l := l) (g := g) (b := b) ka hq) mv_X5_struckWords rfl (by decide) ka ml_X5_130 ⟨Nat.le_trans (Nat.le_of_ble_eq_true rfl) hRf, Nat.le_trans (Nat.le_of_ble_eq_true rfl) hRl⟩ rfl rfl (Nat.le_of_ble_eq_true rfl) dX5_ifPassed_89 (fun H locs hM => ?_)
              refine lv_istore (lv' := [(5, .int v13), (4, .int v10), (3, .int v8), (0, .ref a), (1, .int x1), (2, .int x2)]) hx hb dX5_ifPassed_92 hl (by decide) rfl (fun ls hl => ?_)
              refine lv_aload_n hx hb dX5_ifPassed_94 rfl (lv_at hl 3 rfl) ?_
              obtain ⟨M14, hq, h⟩ := cz_bd_t h
              refine cz_runV (rest := []) (As := []) (T := TX5) (N0 := 12) X hM hl.1 (c_X5_putBack (l := l) (g := g) (b := b) ka hq) mv_X5_putBack rfl (by decide) ka ml_X5_115 ⟨Nat.le_trans (Nat.le_of_ble_eq_true rfl) hRf, Nat.le_trans (Nat.le_of_ble_eq_true rfl) hRl⟩ rfl rfl (Nat.le_of_ble_eq_true rfl) dX5_ifPassed_95 (fun H locs hM => ?_)
              refine lv_iload hx hb dX5_ifPassed_98 (lv_at hl 0 rfl) ?_
              refine lv_iload_n hx hb dX5_ifPassed_100 rfl (lv_at hl 2 rfl) ?_
              refine lv_isub hx hb dX5_ifPassed_101 ?_
              exact cz_reti X hM h rfl dX5_ifPassed_102
            · have h := cz_ite_t c12 h
              refine lv_aload_n hx hb dX5_ifPassed_80 rfl (lv_at hl 2 rfl) ?_
              refine lv_iconst (v := nI 2) hx hb dX5_ifPassed_81 (by decide) ?_
              obtain ⟨v15, hq, h⟩ := cz_bd_t h
              refine cz_runV (rest := []) (As := [.int (nI 2)]) (T := TX5) (N0 := 12) X hM hl.1 (c_X5_many (l := l) (g := g) (b := b) ka hq) mv_X5_many rfl (by decide) ka ml_X5_121 ⟨Nat.le_trans (Nat.le_of_ble_eq_true rfl) hRf, Nat.le_trans (Nat.le_of_ble_eq_true rfl) hRl⟩ rfl rfl (Nat.le_of_ble_eq_true rfl) dX5_ifPassed_82 (fun H locs hM => ?_)
              refine lv_goto (tgt := 92) hx hb dX5_ifPassed_85 (by decide) ?_
              refine lv_istore (lv' := [(5, .int v15), (4, .int v10), (3, .int v8), (0, .ref a), (1, .int x1), (2, .int x2)]) hx hb dX5_ifPassed_92 hl (by decide) rfl (fun ls hl => ?_)
              refine lv_aload_n hx hb dX5_ifPassed_94 rfl (lv_at hl 3 rfl) ?_
              obtain ⟨M16, hq, h⟩ := cz_bd_t h
              refine cz_runV (rest := []) (As := []) (T := TX5) (N0 := 12) X hM hl.1 (c_X5_putBack (l := l) (g := g) (b := b) ka hq) mv_X5_putBack rfl (by decide) ka ml_X5_115 ⟨Nat.le_trans (Nat.le_of_ble_eq_true rfl) hRf, Nat.le_trans (Nat.le_of_ble_eq_true rfl) hRl⟩ rfl rfl (Nat.le_of_ble_eq_true rfl) dX5_ifPassed_95 (fun H locs hM => ?_)
              refine lv_iload hx hb dX5_ifPassed_98 (lv_at hl 0 rfl) ?_
              refine lv_iload_n hx hb dX5_ifPassed_100 rfl (lv_at hl 2 rfl) ?_
              refine lv_isub hx hb dX5_ifPassed_101 ?_
              exact cz_reti X hM h rfl dX5_ifPassed_102
          · have h := cz_ite_t c11 h
            refine lv_aload_n hx hb dX5_ifPassed_67 rfl (lv_at hl 2 rfl) ?_
            refine lv_iconst (v := nI 1) hx hb dX5_ifPassed_68 (by decide) ?_
            obtain ⟨v17, hq, h⟩ := cz_bd_t h
            refine cz_runV (rest := []) (As := [.int (nI 1)]) (T := TX5) (N0 := 12) X hM hl.1 (c_X5_many (l := l) (g := g) (b := b) ka hq) mv_X5_many rfl (by decide) ka ml_X5_121 ⟨Nat.le_trans (Nat.le_of_ble_eq_true rfl) hRf, Nat.le_trans (Nat.le_of_ble_eq_true rfl) hRl⟩ rfl rfl (Nat.le_of_ble_eq_true rfl) dX5_ifPassed_69 (fun H locs hM => ?_)
            refine lv_goto (tgt := 92) hx hb dX5_ifPassed_72 (by decide) ?_
            refine lv_istore (lv' := [(5, .int v17), (4, .int v10), (3, .int v8), (0, .ref a), (1, .int x1), (2, .int x2)]) hx hb dX5_ifPassed_92 hl (by decide) rfl (fun ls hl => ?_)
            refine lv_aload_n hx hb dX5_ifPassed_94 rfl (lv_at hl 3 rfl) ?_
            obtain ⟨M18, hq, h⟩ := cz_bd_t h
            refine cz_runV (rest := []) (As := []) (T := TX5) (N0 := 12) X hM hl.1 (c_X5_putBack (l := l) (g := g) (b := b) ka hq) mv_X5_putBack rfl (by decide) ka ml_X5_115 ⟨Nat.le_trans (Nat.le_of_ble_eq_true rfl) hRf, Nat.le_trans (Nat.le_of_ble_eq_true rfl) hRl⟩ rfl rfl (Nat.le_of_ble_eq_true rfl) dX5_ifPassed_95 (fun H locs hM => ?_)
            refine lv_iload hx hb dX5_ifPassed_98 (lv_at hl 0 rfl) ?_
            refine lv_iload_n hx hb dX5_ifPassed_100 rfl (lv_at hl 2 rfl) ?_
            refine lv_isub hx hb dX5_ifPassed_101 ?_
            exact cz_reti X hM h rfl dX5_ifPassed_102
        · have h := cz_ite_t c7 h
          refine lv_aload_n hx hb dX5_ifPassed_43 rfl (lv_at hl 0 rfl) ?_
          refine lv_iconst (v := nI 2) hx hb dX5_ifPassed_44 (by decide) ?_
          obtain ⟨v19, hq, h⟩ := cz_bd_t h
          refine cz_runV (rest := []) (As := [.int (nI 2)]) (T := TX5) (N0 := 12) X hM hl.1 (c_X5_many (l := l) (g := g) (b := b) ka hq) mv_X5_many rfl (by decide) ka ml_X5_121 ⟨Nat.le_trans (Nat.le_of_ble_eq_true rfl) hRf, Nat.le_trans (Nat.le_of_ble_eq_true rfl) hRl⟩ rfl rfl (Nat.le_of_ble_eq_true rfl) dX5_ifPassed_45 (fun H locs hM => ?_)
          refine lv_goto (tgt := 55) hx hb dX5_ifPassed_48 (by decide) ?_
          refine lv_istore_n (lv' := [(3, .int v19), (0, .ref a), (1, .int x1), (2, .int x2)]) hx hb dX5_ifPassed_55 rfl hl (by decide) rfl (fun ls hl => ?_)
          refine lv_aload_n hx hb dX5_ifPassed_56 rfl (lv_at hl 1 rfl) ?_
          refine lv_iload_n hx hb dX5_ifPassed_57 rfl (lv_at hl 2 rfl) ?_
          obtain ⟨v21, M20, hq, h⟩ := cz_b2_t h
          refine cz_runV (rest := []) (As := [.int x1]) (T := TX5) (N0 := 12) X hM hl.1 (c_X5_passes (l := l) (g := g) (b := b) ka hq) mv_X5_passes rfl (by decide) ka ml_X5_106 ⟨Nat.le_trans (Nat.le_of_ble_eq_true rfl) hRf, Nat.le_trans (Nat.le_of_ble_eq_true rfl) hRl⟩ rfl rfl (Nat.le_of_ble_eq_true rfl) dX5_ifPassed_58 (fun H locs hM => ?_)
          refine lv_istore (lv' := [(4, .int v21), (3, .int v19), (0, .ref a), (1, .int x1), (2, .int x2)]) hx hb dX5_ifPassed_61 hl (by decide) rfl (fun ls hl => ?_)
          refine lv_iload_n hx hb dX5_ifPassed_63 rfl (lv_at hl 4 rfl) ?_
          refine lv_if_ne (tgt := 75) hx hb dX5_ifPassed_64 (by decide) (fun c22 => ?_) (fun c22 => ?_)
          · have h := cz_ite_f c22 h
            refine lv_iload_n hx hb dX5_ifPassed_75 rfl (lv_at hl 4 rfl) ?_
            refine lv_iconst (v := nI 1) hx hb dX5_ifPassed_76 (by decide) ?_
            refine lv_icmp_ne (tgt := 88) hx hb dX5_ifPassed_77 (by decide) (fun c23 => ?_) (fun c23 => ?_)
            · have h := cz_ite_f c23 h
              refine lv_aload_n hx hb dX5_ifPassed_88 rfl (lv_at hl 2 rfl) ?_
              obtain ⟨v24, hq, h⟩ := cz_bd_t h
              refine cz_runV (rest := []) (As := []) (T := TX5) (N0 := 12) X hM hl.1 (c_X5_struckWords (l := l) (g := g) (b := b) ka hq) mv_X5_struckWords rfl (by decide) ka ml_X5_130 ⟨Nat.le_trans (Nat.le_of_ble_eq_true rfl) hRf, Nat.le_trans (Nat.le_of_ble_eq_true rfl) hRl⟩ rfl rfl (Nat.le_of_ble_eq_true rfl) dX5_ifPassed_89 (fun H locs hM => ?_)
              refine lv_istore (lv' := [(5, .int v24), (4, .int v21), (3, .int v19), (0, .ref a), (1, .int x1), (2, .int x2)]) hx hb dX5_ifPassed_92 hl (by decide) rfl (fun ls hl => ?_)
              refine lv_aload_n hx hb dX5_ifPassed_94 rfl (lv_at hl 3 rfl) ?_
              obtain ⟨M25, hq, h⟩ := cz_bd_t h
              refine cz_runV (rest := []) (As := []) (T := TX5) (N0 := 12) X hM hl.1 (c_X5_putBack (l := l) (g := g) (b := b) ka hq) mv_X5_putBack rfl (by decide) ka ml_X5_115 ⟨Nat.le_trans (Nat.le_of_ble_eq_true rfl) hRf, Nat.le_trans (Nat.le_of_ble_eq_true rfl) hRl⟩ rfl rfl (Nat.le_of_ble_eq_true rfl) dX5_ifPassed_95 (fun H locs hM => ?_)
              refine lv_iload hx hb dX5_ifPassed_98 (lv_at hl 0 rfl) ?_
              refine lv_iload_n hx hb dX5_ifPassed_100 rfl (lv_at hl 2 rfl) ?_
              refine lv_isub hx hb dX5_ifPassed_101 ?_
              exact cz_reti X hM h rfl dX5_ifPassed_102
            · have h := cz_ite_t c23 h
              refine lv_aload_n hx hb dX5_ifPassed_80 rfl (lv_at hl 2 rfl) ?_
              refine lv_iconst (v := nI 2) hx hb dX5_ifPassed_81 (by decide) ?_
              obtain ⟨v26, hq, h⟩ := cz_bd_t h
              refine cz_runV (rest := []) (As := [.int (nI 2)]) (T := TX5) (N0 := 12) X hM hl.1 (c_X5_many (l := l) (g := g) (b := b) ka hq) mv_X5_many rfl (by decide) ka ml_X5_121 ⟨Nat.le_trans (Nat.le_of_ble_eq_true rfl) hRf, Nat.le_trans (Nat.le_of_ble_eq_true rfl) hRl⟩ rfl rfl (Nat.le_of_ble_eq_true rfl) dX5_ifPassed_82 (fun H locs hM => ?_)
              refine lv_goto (tgt := 92) hx hb dX5_ifPassed_85 (by decide) ?_
              refine lv_istore (lv' := [(5, .int v26), (4, .int v21), (3, .int v19), (0, .ref a), (1, .int x1), (2, .int x2)]) hx hb dX5_ifPassed_92 hl (by decide) rfl (fun ls hl => ?_)
              refine lv_aload_n hx hb dX5_ifPassed_94 rfl (lv_at hl 3 rfl) ?_
              obtain ⟨M27, hq, h⟩ := cz_bd_t h
              refine cz_runV (rest := []) (As := []) (T := TX5) (N0 := 12) X hM hl.1 (c_X5_putBack (l := l) (g := g) (b := b) ka hq) mv_X5_putBack rfl (by decide) ka ml_X5_115 ⟨Nat.le_trans (Nat.le_of_ble_eq_true rfl) hRf, Nat.le_trans (Nat.le_of_ble_eq_true rfl) hRl⟩ rfl rfl (Nat.le_of_ble_eq_true rfl) dX5_ifPassed_95 (fun H locs hM => ?_)
              refine lv_iload hx hb dX5_ifPassed_98 (lv_at hl 0 rfl) ?_
              refine lv_iload_n hx hb dX5_ifPassed_100 rfl (lv_at hl 2 rfl) ?_
              refine lv_isub hx hb dX5_ifPassed_101 ?_
              exact cz_reti X hM h rfl dX5_ifPassed_102
          · have h := cz_ite_t c22 h
            refine lv_aload_n hx hb dX5_ifPassed_67 rfl (lv_at hl 2 rfl) ?_
            refine lv_iconst (v := nI 1) hx hb dX5_ifPassed_68 (by decide) ?_
            obtain ⟨v28, hq, h⟩ := cz_bd_t h
            refine cz_runV (rest := []) (As := [.int (nI 1)]) (T := TX5) (N0 := 12) X hM hl.1 (c_X5_many (l := l) (g := g) (b := b) ka hq) mv_X5_many rfl (by decide) ka ml_X5_121 ⟨Nat.le_trans (Nat.le_of_ble_eq_true rfl) hRf, Nat.le_trans (Nat.le_of_ble_eq_true rfl) hRl⟩ rfl rfl (Nat.le_of_ble_eq_true rfl) dX5_ifPassed_69 (fun H locs hM => ?_)
            refine lv_goto (tgt := 92) hx hb dX5_ifPassed_72 (by decide) ?_
            refine lv_istore (lv' := [(5, .int v28), (4, .int v21), (3, .int v19), (0, .ref a), (1, .int x1), (2, .int x2)]) hx hb dX5_ifPassed_92 hl (by decide) rfl (fun ls hl => ?_)
            refine lv_aload_n hx hb dX5_ifPassed_94 rfl (lv_at hl 3 rfl) ?_
            obtain ⟨M29, hq, h⟩ := cz_bd_t h
            refine cz_runV (rest := []) (As := []) (T := TX5) (N0 := 12) X hM hl.1 (c_X5_putBack (l := l) (g := g) (b := b) ka hq) mv_X5_putBack rfl (by decide) ka ml_X5_115 ⟨Nat.le_trans (Nat.le_of_ble_eq_true rfl) hRf, Nat.le_trans (Nat.le_of_ble_eq_true rfl) hRl⟩ rfl rfl (Nat.le_of_ble_eq_true rfl) dX5_ifPassed_95 (fun H locs hM => ?_)
            refine lv_iload hx hb dX5_ifPassed_98 (lv_at hl 0 rfl) ?_
            refine lv_iload_n hx hb dX5_ifPassed_100 rfl (lv_at hl 2 rfl) ?_
            refine lv_isub hx hb dX5_ifPassed_101 ?_
            exact cz_reti X hM h rfl dX5_ifPassed_102
      · have h := cz_ite_t c6 h
        refine lv_aload_n hx hb dX5_ifPassed_30 rfl (lv_at hl 0 rfl) ?_
        refine lv_iconst (v := nI 1) hx hb dX5_ifPassed_31 (by decide) ?_
        obtain ⟨v30, hq, h⟩ := cz_bd_t h
        refine cz_runV (rest := []) (As := [.int (nI 1)]) (T := TX5) (N0 := 12) X hM hl.1 (c_X5_many (l := l) (g := g) (b := b) ka hq) mv_X5_many rfl (by decide) ka ml_X5_121 ⟨Nat.le_trans (Nat.le_of_ble_eq_true rfl) hRf, Nat.le_trans (Nat.le_of_ble_eq_true rfl) hRl⟩ rfl rfl (Nat.le_of_ble_eq_true rfl) dX5_ifPassed_32 (fun H locs hM => ?_)
        refine lv_goto (tgt := 55) hx hb dX5_ifPassed_35 (by decide) ?_
        refine lv_istore_n (lv' := [(3, .int v30), (0, .ref a), (1, .int x1), (2, .int x2)]) hx hb dX5_ifPassed_55 rfl hl (by decide) rfl (fun ls hl => ?_)
        refine lv_aload_n hx hb dX5_ifPassed_56 rfl (lv_at hl 1 rfl) ?_
        refine lv_iload_n hx hb dX5_ifPassed_57 rfl (lv_at hl 2 rfl) ?_
        obtain ⟨v32, M31, hq, h⟩ := cz_b2_t h
        refine cz_runV (rest := []) (As := [.int x1]) (T := TX5) (N0 := 12) X hM hl.1 (c_X5_passes (l := l) (g := g) (b := b) ka hq) mv_X5_passes rfl (by decide) ka ml_X5_106 ⟨Nat.le_trans (Nat.le_of_ble_eq_true rfl) hRf, Nat.le_trans (Nat.le_of_ble_eq_true rfl) hRl⟩ rfl rfl (Nat.le_of_ble_eq_true rfl) dX5_ifPassed_58 (fun H locs hM => ?_)
        refine lv_istore (lv' := [(4, .int v32), (3, .int v30), (0, .ref a), (1, .int x1), (2, .int x2)]) hx hb dX5_ifPassed_61 hl (by decide) rfl (fun ls hl => ?_)
        refine lv_iload_n hx hb dX5_ifPassed_63 rfl (lv_at hl 4 rfl) ?_
        refine lv_if_ne (tgt := 75) hx hb dX5_ifPassed_64 (by decide) (fun c33 => ?_) (fun c33 => ?_)
        · have h := cz_ite_f c33 h
          refine lv_iload_n hx hb dX5_ifPassed_75 rfl (lv_at hl 4 rfl) ?_
          refine lv_iconst (v := nI 1) hx hb dX5_ifPassed_76 (by decide) ?_
          refine lv_icmp_ne (tgt := 88) hx hb dX5_ifPassed_77 (by decide) (fun c34 => ?_) (fun c34 => ?_)
          · have h := cz_ite_f c34 h
            refine lv_aload_n hx hb dX5_ifPassed_88 rfl (lv_at hl 2 rfl) ?_
            obtain ⟨v35, hq, h⟩ := cz_bd_t h
            refine cz_runV (rest := []) (As := []) (T := TX5) (N0 := 12) X hM hl.1 (c_X5_struckWords (l := l) (g := g) (b := b) ka hq) mv_X5_struckWords rfl (by decide) ka ml_X5_130 ⟨Nat.le_trans (Nat.le_of_ble_eq_true rfl) hRf, Nat.le_trans (Nat.le_of_ble_eq_true rfl) hRl⟩ rfl rfl (Nat.le_of_ble_eq_true rfl) dX5_ifPassed_89 (fun H locs hM => ?_)
            refine lv_istore (lv' := [(5, .int v35), (4, .int v32), (3, .int v30), (0, .ref a), (1, .int x1), (2, .int x2)]) hx hb dX5_ifPassed_92 hl (by decide) rfl (fun ls hl => ?_)
            refine lv_aload_n hx hb dX5_ifPassed_94 rfl (lv_at hl 3 rfl) ?_
            obtain ⟨M36, hq, h⟩ := cz_bd_t h
            refine cz_runV (rest := []) (As := []) (T := TX5) (N0 := 12) X hM hl.1 (c_X5_putBack (l := l) (g := g) (b := b) ka hq) mv_X5_putBack rfl (by decide) ka ml_X5_115 ⟨Nat.le_trans (Nat.le_of_ble_eq_true rfl) hRf, Nat.le_trans (Nat.le_of_ble_eq_true rfl) hRl⟩ rfl rfl (Nat.le_of_ble_eq_true rfl) dX5_ifPassed_95 (fun H locs hM => ?_)
            refine lv_iload hx hb dX5_ifPassed_98 (lv_at hl 0 rfl) ?_
            refine lv_iload_n hx hb dX5_ifPassed_100 rfl (lv_at hl 2 rfl) ?_
            refine lv_isub hx hb dX5_ifPassed_101 ?_
            exact cz_reti X hM h rfl dX5_ifPassed_102
          · have h := cz_ite_t c34 h
            refine lv_aload_n hx hb dX5_ifPassed_80 rfl (lv_at hl 2 rfl) ?_
            refine lv_iconst (v := nI 2) hx hb dX5_ifPassed_81 (by decide) ?_
            obtain ⟨v37, hq, h⟩ := cz_bd_t h
            refine cz_runV (rest := []) (As := [.int (nI 2)]) (T := TX5) (N0 := 12) X hM hl.1 (c_X5_many (l := l) (g := g) (b := b) ka hq) mv_X5_many rfl (by decide) ka ml_X5_121 ⟨Nat.le_trans (Nat.le_of_ble_eq_true rfl) hRf, Nat.le_trans (Nat.le_of_ble_eq_true rfl) hRl⟩ rfl rfl (Nat.le_of_ble_eq_true rfl) dX5_ifPassed_82 (fun H locs hM => ?_)
            refine lv_goto (tgt := 92) hx hb dX5_ifPassed_85 (by decide) ?_
            refine lv_istore (lv' := [(5, .int v37), (4, .int v32), (3, .int v30), (0, .ref a), (1, .int x1), (2, .int x2)]) hx hb dX5_ifPassed_92 hl (by decide) rfl (fun ls hl => ?_)
            refine lv_aload_n hx hb dX5_ifPassed_94 rfl (lv_at hl 3 rfl) ?_
            obtain ⟨M38, hq, h⟩ := cz_bd_t h
            refine cz_runV (rest := []) (As := []) (T := TX5) (N0 := 12) X hM hl.1 (c_X5_putBack (l := l) (g := g) (b := b) ka hq) mv_X5_putBack rfl (by decide) ka ml_X5_115 ⟨Nat.le_trans (Nat.le_of_ble_eq_true rfl) hRf, Nat.le_trans (Nat.le_of_ble_eq_true rfl) hRl⟩ rfl rfl (Nat.le_of_ble_eq_true rfl) dX5_ifPassed_95 (fun H locs hM => ?_)
            refine lv_iload hx hb dX5_ifPassed_98 (lv_at hl 0 rfl) ?_
            refine lv_iload_n hx hb dX5_ifPassed_100 rfl (lv_at hl 2 rfl) ?_
            refine lv_isub hx hb dX5_ifPassed_101 ?_
            exact cz_reti X hM h rfl dX5_ifPassed_102
        · have h := cz_ite_t c33 h
          refine lv_aload_n hx hb dX5_ifPassed_67 rfl (lv_at hl 2 rfl) ?_
          refine lv_iconst (v := nI 1) hx hb dX5_ifPassed_68 (by decide) ?_
          obtain ⟨v39, hq, h⟩ := cz_bd_t h
          refine cz_runV (rest := []) (As := [.int (nI 1)]) (T := TX5) (N0 := 12) X hM hl.1 (c_X5_many (l := l) (g := g) (b := b) ka hq) mv_X5_many rfl (by decide) ka ml_X5_121 ⟨Nat.le_trans (Nat.le_of_ble_eq_true rfl) hRf, Nat.le_trans (Nat.le_of_ble_eq_true rfl) hRl⟩ rfl rfl (Nat.le_of_ble_eq_true rfl) dX5_ifPassed_69 (fun H locs hM => ?_)
          refine lv_goto (tgt := 92) hx hb dX5_ifPassed_72 (by decide) ?_
          refine lv_istore (lv' := [(5, .int v39), (4, .int v32), (3, .int v30), (0, .ref a), (1, .int x1), (2, .int x2)]) hx hb dX5_ifPassed_92 hl (by decide) rfl (fun ls hl => ?_)
          refine lv_aload_n hx hb dX5_ifPassed_94 rfl (lv_at hl 3 rfl) ?_
          obtain ⟨M40, hq, h⟩ := cz_bd_t h
          refine cz_runV (rest := []) (As := []) (T := TX5) (N0 := 12) X hM hl.1 (c_X5_putBack (l := l) (g := g) (b := b) ka hq) mv_X5_putBack rfl (by decide) ka ml_X5_115 ⟨Nat.le_trans (Nat.le_of_ble_eq_true rfl) hRf, Nat.le_trans (Nat.le_of_ble_eq_true rfl) hRl⟩ rfl rfl (Nat.le_of_ble_eq_true rfl) dX5_ifPassed_95 (fun H locs hM => ?_)
          refine lv_iload hx hb dX5_ifPassed_98 (lv_at hl 0 rfl) ?_
          refine lv_iload_n hx hb dX5_ifPassed_100 rfl (lv_at hl 2 rfl) ?_
          refine lv_isub hx hb dX5_ifPassed_101 ?_
          exact cz_reti X hM h rfl dX5_ifPassed_102
    · have h := cz_ite_t c4 h
      refine lv_bipush (v := -2) hx hb dX5_ifPassed_19 (by decide) ?_
      exact cz_reti X hM h rfl dX5_ifPassed_21
theorem mv_X5_bestTrade : cz_MV yX5_bestTrade cX5_bestTrade 6 (some .int) RX5 0 := ⟨mi_X5_bestTrade, ms_X5_bestTrade, mc_X5_bestTrade, ini_X5, by decide +kernel⟩
set_option maxHeartbeats 4000000 in
set_option maxRecDepth 100000 in
theorem w_X5_bestTrade_L30 {p : Program} {l : Launch} {e : Env} {R : Room} {s : State} {m : MethodId} {args : Array Value} {below : List Frame} {meth : Method} {c : Code} {g : cz_G} {b : Nat} (X : cz_X p s m args meth c cX5_bestTrade 6 RX5 g b (some .int)) (hRf : 8 ≤ R.frames) (hRl : 187 ≤ R.locals) {r0 : Int32} {M9 : cz_M} {a0 : Nat} {x3 : Int32} (ka0 : cz_K b a0 5)
    (K : Int32 → Int32 → Int32 → cz_M → Option (Int32 × cz_M)) (hX : ∀ (x1 : Int32) (x2 : Int32) (x4 : Int32) (M : cz_M) (H : Heap) (locs : List Loc) (ls : Array Slot), K x1 x2 x4 M = some (r0, M9) → cz_WS g b M s H locs → lv_has ls 6 [(0, .ref a0), (1, .int x1), (2, .int x2), (3, .int x3), (4, .int x4)] → W p l e R s m args below meth c H locs 0 0 (MQ below (cz_Q g b (some (.int r0)) M9) args s 0 0 (fun q => b ≤ q)) (F0 m 112 ls [])) :
    ∀ (n : Nat) (x1 : Int32) (x2 : Int32) (x4 : Int32) (M : cz_M) (H : Heap) (locs : List Loc) (ls : Array Slot), cz_it4 (f_X5_bestTrade_L30 a0 x3 K) n x1 x2 x4 M = some (r0, M9) → cz_WS g b M s H locs → lv_has ls 6 [(0, .ref a0), (1, .int x1), (2, .int x2), (3, .int x3), (4, .int x4)] → W p l e R s m args below meth c H locs 0 0 (MQ below (cz_Q g b (some (.int r0)) M9) args s 0 0 (fun q => b ≤ q)) (F0 m 30 ls []) := by
  obtain ⟨hx, hb, -, ho, ht, -⟩ := id X
  intro n
  induction n with
  | zero => intro x1 x2 x4 M H locs ls h; cases (show none = some _ from h)
  | succ n ih =>
    intro x1 x2 x4 M H locs ls h hM hl
    have h : f_X5_bestTrade_L30 a0 x3 K (cz_it4 (f_X5_bestTrade_L30 a0 x3 K) n) x1 x2 x4 M = some (r0, M9) := h
    rw [f_X5_bestTrade_L30] at h
    refine lv_iload hx hb dX5_bestTrade_30 (lv_at hl 4 rfl) ?_
    refine lv_bipush (v := nI 8) hx hb dX5_bestTrade_32 (by decide) ?_
    refine lv_icmp_ge (tgt := 112) hx hb dX5_bestTrade_34 (by decide) (fun c7 => ?_) (fun c7 => ?_)
    · have h := cz_ite_t c7 h
      exact hX _ _ _ _ _ _ _ h hM (lv_sub hl [0, 1, 2, 3, 4] rfl)
    · have h := cz_ite_f c7 h
      refine lv_aload_n hx hb dX5_bestTrade_37 rfl (lv_at hl 0 rfl) ?_
      refine cz_getR X hM ff_X5_0 ka0 lk_X5_7 dX5_bestTrade_38 (fun hk8 => ?_)
      refine lv_iconst (v := nI 5) hx hb dX5_bestTrade_41 (by decide) ?_
      refine lv_iload_n hx hb dX5_bestTrade_42 rfl (lv_at hl 3 rfl) ?_
      refine lv_iadd hx hb dX5_bestTrade_43 ?_
      refine cz_iald (n := 551) X hM h hk8 (by decide) dX5_bestTrade_44 (fun h => ?_)
      refine lv_aload_n hx hb dX5_bestTrade_45 rfl (lv_at hl 0 rfl) ?_
      refine cz_getR X hM ff_X5_0 ka0 lk_X5_7 dX5_bestTrade_46 (fun hk9 => ?_)
      refine lv_iconst (v := nI 5) hx hb dX5_bestTrade_49 (by decide) ?_
      refine lv_iload hx hb dX5_bestTrade_50 (lv_at hl 4 rfl) ?_
      refine lv_iadd hx hb dX5_bestTrade_52 ?_
      refine cz_iald (n := 551) X hM h hk9 (by decide) dX5_bestTrade_53 (fun h => ?_)
      refine lv_icmp_eq (tgt := 106) hx hb dX5_bestTrade_54 (by decide) (fun c10 => ?_) (fun c10 => ?_)
      · have h := cz_ite_t c10 h
        refine cz_nmL (v := x4 + nI 1) h (fun v11 e12 h => ?_)
        refine lv_iinc (v := v11) (lv' := [(4, .int v11), (0, .ref a0), (1, .int x1), (2, .int x2), (3, .int x3)]) hx hb dX5_bestTrade_106 hl (k := 4) rfl (by rw [e12]; rfl) (by decide) rfl (fun ls hl => ?_)
        refine lv_goto (tgt := 30) hx hb dX5_bestTrade_109 (by decide) ?_
        exact ih _ _ _ _ _ _ _ h hM (lv_sub hl [1, 2, 3, 4, 0] rfl)
      · have h := cz_ite_f c10 h
        refine lv_aload_n hx hb dX5_bestTrade_57 rfl (lv_at hl 0 rfl) ?_
        refine lv_iload_n hx hb dX5_bestTrade_58 rfl (lv_at hl 3 rfl) ?_
        refine lv_iload hx hb dX5_bestTrade_59 (lv_at hl 4 rfl) ?_
        obtain ⟨M13, hq, h⟩ := cz_bd_t h
        refine cz_runV (rest := []) (As := [.int x3, .int x4]) (T := TX5) (N0 := 12) X hM hl.1 (c_X5_trades (l := l) (g := g) (b := b) ka0 hq) mv_X5_trades rfl (by decide) ka0 ml_X5_97 ⟨Nat.le_trans (Nat.le_of_ble_eq_true rfl) hRf, Nat.le_trans (Nat.le_of_ble_eq_true rfl) hRl⟩ rfl rfl (Nat.le_of_ble_eq_true rfl) dX5_bestTrade_61 (fun H locs hM => ?_)
        refine lv_aload_n hx hb dX5_bestTrade_64 rfl (lv_at hl 0 rfl) ?_
        refine lv_iconst (v := nI 4) hx hb dX5_bestTrade_65 (by decide) ?_
        obtain ⟨v15, M14, hq, h⟩ := cz_b2_t h
        refine cz_runV (rest := []) (As := [.int (nI 4)]) (T := TX5) (N0 := 12) X hM hl.1 (c_X5_passes (l := l) (g := g) (b := b) ka0 hq) mv_X5_passes rfl (by decide) ka0 ml_X5_106 ⟨Nat.le_trans (Nat.le_of_ble_eq_true rfl) hRf, Nat.le_trans (Nat.le_of_ble_eq_true rfl) hRl⟩ rfl rfl (Nat.le_of_ble_eq_true rfl) dX5_bestTrade_66 (fun H locs hM => ?_)
        refine lv_istore (lv' := [(5, .int v15), (0, .ref a0), (1, .int x1), (2, .int x2), (3, .int x3), (4, .int x4)]) hx hb dX5_bestTrade_69 hl (by decide) rfl (fun ls hl => ?_)
        refine lv_iload hx hb dX5_bestTrade_71 (lv_at hl 0 rfl) ?_
        refine lv_iload_n hx hb dX5_bestTrade_73 rfl (lv_at hl 3 rfl) ?_
        refine lv_icmp_le (tgt := 87) hx hb dX5_bestTrade_74 (by decide) (fun c16 => ?_) (fun c16 => ?_)
        · have h := cz_ite_t c16 h
          refine lv_iload_n hx hb dX5_bestTrade_87 rfl (lv_at hl 2 rfl) ?_
          refine lv_istore_n (lv' := [(1, .int x1), (5, .int v15), (0, .ref a0), (2, .int x2), (3, .int x3), (4, .int x4)]) hx hb dX5_bestTrade_88 rfl hl (by decide) rfl (fun ls hl => ?_)
          refine lv_iload hx hb dX5_bestTrade_89 (lv_at hl 1 rfl) ?_
          refine lv_iload_n hx hb dX5_bestTrade_91 rfl (lv_at hl 3 rfl) ?_
          refine lv_icmp_le (tgt := 100) hx hb dX5_bestTrade_92 (by decide) (fun c17 => ?_) (fun c17 => ?_)
          · have h := cz_ite_t c17 h
            refine lv_iload_n hx hb dX5_bestTrade_100 rfl (lv_at hl 3 rfl) ?_
            refine lv_istore_n (lv' := [(2, .int x2), (1, .int x1), (5, .int v15), (0, .ref a0), (3, .int x3), (4, .int x4)]) hx hb dX5_bestTrade_101 rfl hl (by decide) rfl (fun ls hl => ?_)
            refine lv_aload_n hx hb dX5_bestTrade_102 rfl (lv_at hl 3 rfl) ?_
            obtain ⟨M18, hq, h⟩ := cz_bd_t h
            refine cz_runV (rest := []) (As := []) (T := TX5) (N0 := 12) X hM hl.1 (c_X5_putBack (l := l) (g := g) (b := b) ka0 hq) mv_X5_putBack rfl (by decide) ka0 ml_X5_115 ⟨Nat.le_trans (Nat.le_of_ble_eq_true rfl) hRf, Nat.le_trans (Nat.le_of_ble_eq_true rfl) hRl⟩ rfl rfl (Nat.le_of_ble_eq_true rfl) dX5_bestTrade_103 (fun H locs hM => ?_)
            refine cz_nmL (v := x4 + nI 1) h (fun v19 e20 h => ?_)
            refine lv_iinc (v := v19) (lv' := [(4, .int v19), (2, .int x2), (1, .int x1), (5, .int v15), (0, .ref a0), (3, .int x3)]) hx hb dX5_bestTrade_106 hl (k := 5) rfl (by rw [e20]; rfl) (by decide) rfl (fun ls hl => ?_)
            refine lv_goto (tgt := 30) hx hb dX5_bestTrade_109 (by decide) ?_
            exact ih _ _ _ _ _ _ _ h hM (lv_sub hl [4, 2, 1, 5, 0] rfl)
          · have h := cz_ite_f c17 h
            refine lv_iload hx hb dX5_bestTrade_95 (lv_at hl 1 rfl) ?_
            refine lv_goto (tgt := 101) hx hb dX5_bestTrade_97 (by decide) ?_
            refine lv_istore_n (lv' := [(2, .int v15), (1, .int x1), (5, .int v15), (0, .ref a0), (3, .int x3), (4, .int x4)]) hx hb dX5_bestTrade_101 rfl hl (by decide) rfl (fun ls hl => ?_)
            refine lv_aload_n hx hb dX5_bestTrade_102 rfl (lv_at hl 3 rfl) ?_
            obtain ⟨M21, hq, h⟩ := cz_bd_t h
            refine cz_runV (rest := []) (As := []) (T := TX5) (N0 := 12) X hM hl.1 (c_X5_putBack (l := l) (g := g) (b := b) ka0 hq) mv_X5_putBack rfl (by decide) ka0 ml_X5_115 ⟨Nat.le_trans (Nat.le_of_ble_eq_true rfl) hRf, Nat.le_trans (Nat.le_of_ble_eq_true rfl) hRl⟩ rfl rfl (Nat.le_of_ble_eq_true rfl) dX5_bestTrade_103 (fun H locs hM => ?_)
            refine cz_nmL (v := x4 + nI 1) h (fun v22 e23 h => ?_)
            refine lv_iinc (v := v22) (lv' := [(4, .int v22), (2, .int v15), (1, .int x1), (5, .int v15), (0, .ref a0), (3, .int x3)]) hx hb dX5_bestTrade_106 hl (k := 5) rfl (by rw [e23]; rfl) (by decide) rfl (fun ls hl => ?_)
            refine lv_goto (tgt := 30) hx hb dX5_bestTrade_109 (by decide) ?_
            exact ih _ _ _ _ _ _ _ h hM (lv_sub hl [4, 2, 1, 5, 0] rfl)
        · have h := cz_ite_f c16 h
          refine lv_bipush (v := nI 8) hx hb dX5_bestTrade_77 (by decide) ?_
          refine lv_iload_n hx hb dX5_bestTrade_79 rfl (lv_at hl 4 rfl) ?_
          refine lv_imul hx hb dX5_bestTrade_80 ?_
          refine lv_iload hx hb dX5_bestTrade_81 (lv_at hl 5 rfl) ?_
          refine lv_iadd hx hb dX5_bestTrade_83 ?_
          refine lv_goto (tgt := 88) hx hb dX5_bestTrade_84 (by decide) ?_
          refine cz_nmi h (fun v24 h => ?_)
          refine lv_istore_n (lv' := [(1, .int v24), (5, .int v15), (0, .ref a0), (2, .int x2), (3, .int x3), (4, .int x4)]) hx hb dX5_bestTrade_88 rfl hl (by decide) rfl (fun ls hl => ?_)
          refine lv_iload hx hb dX5_bestTrade_89 (lv_at hl 1 rfl) ?_
          refine lv_iload_n hx hb dX5_bestTrade_91 rfl (lv_at hl 3 rfl) ?_
          refine lv_icmp_le (tgt := 100) hx hb dX5_bestTrade_92 (by decide) (fun c25 => ?_) (fun c25 => ?_)
          · have h := cz_ite_t c25 h
            refine lv_iload_n hx hb dX5_bestTrade_100 rfl (lv_at hl 3 rfl) ?_
            refine lv_istore_n (lv' := [(2, .int x2), (1, .int v24), (5, .int v15), (0, .ref a0), (3, .int x3), (4, .int x4)]) hx hb dX5_bestTrade_101 rfl hl (by decide) rfl (fun ls hl => ?_)
            refine lv_aload_n hx hb dX5_bestTrade_102 rfl (lv_at hl 3 rfl) ?_
            obtain ⟨M26, hq, h⟩ := cz_bd_t h
            refine cz_runV (rest := []) (As := []) (T := TX5) (N0 := 12) X hM hl.1 (c_X5_putBack (l := l) (g := g) (b := b) ka0 hq) mv_X5_putBack rfl (by decide) ka0 ml_X5_115 ⟨Nat.le_trans (Nat.le_of_ble_eq_true rfl) hRf, Nat.le_trans (Nat.le_of_ble_eq_true rfl) hRl⟩ rfl rfl (Nat.le_of_ble_eq_true rfl) dX5_bestTrade_103 (fun H locs hM => ?_)
            refine cz_nmL (v := x4 + nI 1) h (fun v27 e28 h => ?_)
            refine lv_iinc (v := v27) (lv' := [(4, .int v27), (2, .int x2), (1, .int v24), (5, .int v15), (0, .ref a0), (3, .int x3)]) hx hb dX5_bestTrade_106 hl (k := 5) rfl (by rw [e28]; rfl) (by decide) rfl (fun ls hl => ?_)
            refine lv_goto (tgt := 30) hx hb dX5_bestTrade_109 (by decide) ?_
            exact ih _ _ _ _ _ _ _ h hM (lv_sub hl [4, 2, 1, 5, 0] rfl)
          · have h := cz_ite_f c25 h
            refine lv_iload hx hb dX5_bestTrade_95 (lv_at hl 1 rfl) ?_
            refine lv_goto (tgt := 101) hx hb dX5_bestTrade_97 (by decide) ?_
            refine lv_istore_n (lv' := [(2, .int v15), (1, .int v24), (5, .int v15), (0, .ref a0), (3, .int x3), (4, .int x4)]) hx hb dX5_bestTrade_101 rfl hl (by decide) rfl (fun ls hl => ?_)
            refine lv_aload_n hx hb dX5_bestTrade_102 rfl (lv_at hl 3 rfl) ?_
            obtain ⟨M29, hq, h⟩ := cz_bd_t h
            refine cz_runV (rest := []) (As := []) (T := TX5) (N0 := 12) X hM hl.1 (c_X5_putBack (l := l) (g := g) (b := b) ka0 hq) mv_X5_putBack rfl (by decide) ka0 ml_X5_115 ⟨Nat.le_trans (Nat.le_of_ble_eq_true rfl) hRf, Nat.le_trans (Nat.le_of_ble_eq_true rfl) hRl⟩ rfl rfl (Nat.le_of_ble_eq_true rfl) dX5_bestTrade_103 (fun H locs hM => ?_)
            refine cz_nmL (v := x4 + nI 1) h (fun v30 e31 h => ?_)
            refine lv_iinc (v := v30) (lv' := [(4, .int v30), (2, .int v15), (1, .int v24), (5, .int v15), (0, .ref a0), (3, .int x3)]) hx hb dX5_bestTrade_106 hl (k := 5) rfl (by rw [e31]; rfl) (by decide) rfl (fun ls hl => ?_)
            refine lv_goto (tgt := 30) hx hb dX5_bestTrade_109 (by decide) ?_
            exact ih _ _ _ _ _ _ _ h hM (lv_sub hl [4, 2, 1, 5, 0] rfl)
