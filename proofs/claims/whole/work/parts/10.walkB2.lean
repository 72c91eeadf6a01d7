set_option maxHeartbeats 4000000 in
set_option maxRecDepth 100000 in
theorem w_X5_bestTrade_L19 {p : Program} {l : Launch} {e : Env} {R : Room} {s : State} {m : MethodId} {args : Array Value} {below : List Frame} {meth : Method} {c : Code} {g : cz_G} {b : Nat} (X : cz_X p s m args meth c cX5_bestTrade 6 RX5 g b (some .int)) (hRf : 8 ≤ R.frames) (hRl : 187 ≤ R.locals) {r0 : Int32} {M9 : cz_M} {a0 : Nat} (ka0 : cz_K b a0 5)
    (K : Int32 → Int32 → Int32 → cz_M → Option (Int32 × cz_M)) (hX : ∀ (x1 : Int32) (x2 : Int32) (x3 : Int32) (M : cz_M) (H : Heap) (locs : List Loc) (ls : Array Slot), K x1 x2 x3 M = some (r0, M9) → cz_WS g b M s H locs → lv_has ls 6 [(0, .ref a0), (1, .int x1), (2, .int x2), (3, .int x3)] → W p l e R s m args below meth c H locs 0 0 (MQ below (cz_Q g b (some (.int r0)) M9) args s 0 0 (fun q => b ≤ q)) (F0 m 118 ls [])) :
    ∀ (n : Nat) (x1 : Int32) (x2 : Int32) (x3 : Int32) (M : cz_M) (H : Heap) (locs : List Loc) (ls : Array Slot), cz_it4 (f_X5_bestTrade_L19 a0 K) n x1 x2 x3 M = some (r0, M9) → cz_WS g b M s H locs → lv_has ls 6 [(0, .ref a0), (1, .int x1), (2, .int x2), (3, .int x3)] → W p l e R s m args below meth c H locs 0 0 (MQ below (cz_Q g b (some (.int r0)) M9) args s 0 0 (fun q => b ≤ q)) (F0 m 19 ls []) := by
  obtain ⟨hx, hb, -, ho, ht, -⟩ := id X
  intro n
  induction n with
  | zero => intro x1 x2 x3 M H locs ls h; cases (show none = some _ from h)
  | succ n ih =>
    intro x1 x2 x3 M H locs ls h hM hl
    have h : f_X5_bestTrade_L19 a0 K (cz_it4 (f_X5_bestTrade_L19 a0 K) n) x1 x2 x3 M = some (r0, M9) := h
    rw [f_X5_bestTrade_L19] at h
    refine lv_iload_n hx hb dX5_bestTrade_19 rfl (lv_at hl 3 rfl) ?_
    refine lv_bipush (v := nI 8) hx hb dX5_bestTrade_20 (by decide) ?_
    refine lv_icmp_ge (tgt := 118) hx hb dX5_bestTrade_22 (by decide) (fun c5 => ?_) (fun c5 => ?_)
    · have h := cz_ite_t c5 h
      exact hX _ _ _ _ _ _ _ h hM (lv_sub hl [0, 1, 2, 3] rfl)
    · have h := cz_ite_f c5 h
      refine lv_iload_n hx hb dX5_bestTrade_25 rfl (lv_at hl 3 rfl) ?_
      refine lv_iconst (v := nI 1) hx hb dX5_bestTrade_26 (by decide) ?_
      refine lv_iadd hx hb dX5_bestTrade_27 ?_
      refine cz_nmi h (fun v6 h => ?_)
      refine lv_istore (lv' := [(4, .int v6), (0, .ref a0), (1, .int x1), (2, .int x2), (3, .int x3)]) hx hb dX5_bestTrade_28 hl (by decide) rfl (fun ls hl => ?_)
      refine w_X5_bestTrade_L30 X hRf hRl ka0 _ (fun x32 x33 x34 M35 H locs ls h hM hl => ?_) _ _ _ _ _ _ _ _ h hM (lv_sub hl [1, 2, 3, 4, 0] rfl)
      refine cz_nmL (v := x3 + nI 1) h (fun v36 e37 h => ?_)
      refine lv_iinc (v := v36) (lv' := [(3, .int v36), (0, .ref a0), (1, .int x32), (2, .int x33), (4, .int x34)]) hx hb dX5_bestTrade_112 hl (k := 3) rfl (by rw [e37]; rfl) (by decide) rfl (fun ls hl => ?_)
      refine lv_goto (tgt := 19) hx hb dX5_bestTrade_115 (by decide) ?_
      exact ih _ _ _ _ _ _ _ h hM (lv_sub hl [1, 2, 3, 0] rfl)
set_option maxHeartbeats 4000000 in
set_option maxRecDepth 100000 in
theorem c_X5_bestTrade {l : Launch} {g : cz_G} {b : Nat} {M : cz_M} {r0 : Int32} {M9 : cz_M} {a : Nat} (ka : cz_K b a 5) (h : f_X5_bestTrade M a = some (r0, M9)) : cz_C l yX5_bestTrade cX5_bestTrade 6 (some .int) 8 187 g b [.ref a] M (some (.int r0)) M9 := by
  refine cz_start (by decide) (Nat.le_of_ble_eq_true rfl) (fun p e s m args below meth c X H ls hM hl => ?_)
  have X : cz_X p s m args meth c cX5_bestTrade 6 RX5 g b (some .int) := X
  obtain ⟨hx, hb, -, ho, ht, -⟩ := id X
  have hRf : 8 ≤ ({ frames := 8, cells := 0, slots := 0, locals := 187 } : Room).frames := Nat.le_refl _
  have hRl : 187 ≤ ({ frames := 8, cells := 0, slots := 0, locals := 187 } : Room).locals := Nat.le_refl _
  have hl : lv_has ls 6 [(0, .ref a)] := hl
  rw [f_X5_bestTrade] at h
  refine lv_aload_n hx hb dX5_bestTrade_0 rfl (lv_at hl 0 rfl) ?_
  obtain ⟨M1, hq, h⟩ := cz_bd_t h
  refine cz_runV (rest := []) (As := []) (T := TX5) (N0 := 12) X hM hl.1 (c_X5_putAside (l := l) (g := g) (b := b) ka hq) mv_X5_putAside rfl (by decide) ka ml_X5_112 ⟨Nat.le_trans (Nat.le_of_ble_eq_true rfl) hRf, Nat.le_trans (Nat.le_of_ble_eq_true rfl) hRl⟩ rfl rfl (Nat.le_of_ble_eq_true rfl) dX5_bestTrade_1 (fun H locs hM => ?_)
  refine lv_bipush (v := -6) hx hb dX5_bestTrade_4 (by decide) ?_
  refine lv_istore_n (lv' := [(1, .int (-6 : Int32)), (0, .ref a)]) hx hb dX5_bestTrade_6 rfl hl (by decide) rfl (fun ls hl => ?_)
  refine lv_aload_n hx hb dX5_bestTrade_7 rfl (lv_at hl 1 rfl) ?_
  refine lv_iconst (v := nI 4) hx hb dX5_bestTrade_8 (by decide) ?_
  obtain ⟨v3, M2, hq, h⟩ := cz_b2_t h
  refine cz_runV (rest := []) (As := [.int (nI 4)]) (T := TX5) (N0 := 12) X hM hl.1 (c_X5_passes (l := l) (g := g) (b := b) ka hq) mv_X5_passes rfl (by decide) ka ml_X5_106 ⟨Nat.le_trans (Nat.le_of_ble_eq_true rfl) hRf, Nat.le_trans (Nat.le_of_ble_eq_true rfl) hRl⟩ rfl rfl (Nat.le_of_ble_eq_true rfl) dX5_bestTrade_9 (fun H locs hM => ?_)
  refine lv_istore_n (lv' := [(2, .int v3), (1, .int (-6 : Int32)), (0, .ref a)]) hx hb dX5_bestTrade_12 rfl hl (by decide) rfl (fun ls hl => ?_)
  refine lv_aload_n hx hb dX5_bestTrade_13 rfl (lv_at hl 2 rfl) ?_
  obtain ⟨M4, hq, h⟩ := cz_bd_t h
  refine cz_runV (rest := []) (As := []) (T := TX5) (N0 := 12) X hM hl.1 (c_X5_putBack (l := l) (g := g) (b := b) ka hq) mv_X5_putBack rfl (by decide) ka ml_X5_115 ⟨Nat.le_trans (Nat.le_of_ble_eq_true rfl) hRf, Nat.le_trans (Nat.le_of_ble_eq_true rfl) hRl⟩ rfl rfl (Nat.le_of_ble_eq_true rfl) dX5_bestTrade_14 (fun H locs hM => ?_)
  refine lv_iconst (v := nI 0) hx hb dX5_bestTrade_17 (by decide) ?_
  refine lv_istore_n (lv' := [(3, .int (nI 0)), (2, .int v3), (1, .int (-6 : Int32)), (0, .ref a)]) hx hb dX5_bestTrade_18 rfl hl (by decide) rfl (fun ls hl => ?_)
  refine w_X5_bestTrade_L19 X hRf hRl ka _ (fun x38 x39 x40 M41 H locs ls h hM hl => ?_) _ _ _ _ _ _ _ _ h hM (lv_sub hl [3, 2, 1, 0] rfl)
  refine lv_iload_n hx hb dX5_bestTrade_118 rfl (lv_at hl 1 rfl) ?_
  exact cz_reti X hM h rfl dX5_bestTrade_119
theorem mv_X5_leastLimit : cz_MV yX5_leastLimit cX5_leastLimit 5 (some .int) RX5 0 := ⟨mi_X5_leastLimit, ms_X5_leastLimit, mc_X5_leastLimit, ini_X5, by decide +kernel⟩
set_option maxHeartbeats 4000000 in
set_option maxRecDepth 100000 in
theorem w_X5_leastLimit_L10 {p : Program} {l : Launch} {e : Env} {R : Room} {s : State} {m : MethodId} {args : Array Value} {below : List Frame} {meth : Method} {c : Code} {g : cz_G} {b : Nat} (X : cz_X p s m args meth c cX5_leastLimit 5 RX5 g b (some .int)) (hRf : 8 ≤ R.frames) (hRl : 187 ≤ R.locals) {r0 : Int32} {M9 : cz_M} {a0 : Nat} (ka0 : cz_K b a0 5)
    (K : Int32 → Int32 → cz_M → Option (Int32 × cz_M)) (hX : ∀ (x1 : Int32) (x2 : Int32) (M : cz_M) (H : Heap) (locs : List Loc) (ls : Array Slot), K x1 x2 M = some (r0, M9) → cz_WS g b M s H locs → lv_has ls 5 [(0, .ref a0), (1, .int x1), (2, .int x2)] → W p l e R s m args below meth c H locs 0 0 (MQ below (cz_Q g b (some (.int r0)) M9) args s 0 0 (fun q => b ≤ q)) (F0 m 58 ls [])) :
    ∀ (n : Nat) (x1 : Int32) (x2 : Int32) (M : cz_M) (H : Heap) (locs : List Loc) (ls : Array Slot), cz_it3 (f_X5_leastLimit_L10 a0 K) n x1 x2 M = some (r0, M9) → cz_WS g b M s H locs → lv_has ls 5 [(0, .ref a0), (1, .int x1), (2, .int x2)] → W p l e R s m args below meth c H locs 0 0 (MQ below (cz_Q g b (some (.int r0)) M9) args s 0 0 (fun q => b ≤ q)) (F0 m 10 ls []) := by
  obtain ⟨hx, hb, -, ho, ht, -⟩ := id X
  intro n
  induction n with
  | zero => intro x1 x2 M H locs ls h; cases (show none = some _ from h)
  | succ n ih =>
    intro x1 x2 M H locs ls h hM hl
    have h : f_X5_leastLimit_L10 a0 K (cz_it3 (f_X5_leastLimit_L10 a0 K) n) x1 x2 M = some (r0, M9) := h
    rw [f_X5_leastLimit_L10] at h
    refine lv_iload_n hx hb dX5_leastLimit_10 rfl (lv_at hl 2 rfl) ?_
    refine lv_if_lt (tgt := 58) hx hb dX5_leastLimit_11 (by decide) (fun c2 => ?_) (fun c2 => ?_)
    · have h := cz_ite_t c2 h
      exact hX _ _ _ _ _ _ h hM (lv_sub hl [0, 1, 2] rfl)
    · have h := cz_ite_f c2 h
      refine lv_aload_n hx hb dX5_leastLimit_14 rfl (lv_at hl 0 rfl) ?_
      obtain ⟨v3, hq, h⟩ := cz_bd_t h
      refine cz_runV (rest := []) (As := []) (T := TX5) (N0 := 12) X hM hl.1 (c_X5_turnedBack (l := l) (g := g) (b := b) ka0 hq) mv_X5_turnedBack rfl (by decide) ka0 ml_X5_139 ⟨Nat.le_trans (Nat.le_of_ble_eq_true rfl) hRf, Nat.le_trans (Nat.le_of_ble_eq_true rfl) hRl⟩ rfl rfl (Nat.le_of_ble_eq_true rfl) dX5_leastLimit_15 (fun H locs hM => ?_)
      refine lv_istore_n (lv' := [(3, .int v3), (0, .ref a0), (1, .int x1), (2, .int x2)]) hx hb dX5_leastLimit_18 rfl hl (by decide) rfl (fun ls hl => ?_)
      refine lv_aload_n hx hb dX5_leastLimit_19 rfl (lv_at hl 1 rfl) ?_
      refine cz_getR X hM ff_X5_0 ka0 lk_X5_7 dX5_leastLimit_20 (fun hk4 => ?_)
      refine lv_iconst (v := nI 1) hx hb dX5_leastLimit_23 (by decide) ?_
      refine lv_iload_n hx hb dX5_leastLimit_24 rfl (lv_at hl 3 rfl) ?_
      refine cz_iast (n := 551) X hM h hk4 (by decide) dX5_leastLimit_25 (fun M5 H locs h hM => ?_)
      refine lv_aload_n hx hb dX5_leastLimit_26 rfl (lv_at hl 1 rfl) ?_
      refine lv_bipush (v := nI 100) hx hb dX5_leastLimit_27 (by decide) ?_
      obtain ⟨v7, M6, hq, h⟩ := cz_b2_t h
      refine cz_runV (rest := []) (As := [.int (nI 100)]) (T := TX5) (N0 := 12) X hM hl.1 (c_X5_passes (l := l) (g := g) (b := b) ka0 hq) mv_X5_passes rfl (by decide) ka0 ml_X5_106 ⟨Nat.le_trans (Nat.le_of_ble_eq_true rfl) hRf, Nat.le_trans (Nat.le_of_ble_eq_true rfl) hRl⟩ rfl rfl (Nat.le_of_ble_eq_true rfl) dX5_leastLimit_29 (fun H locs hM => ?_)
      refine lv_istore (lv' := [(4, .int v7), (3, .int v3), (0, .ref a0), (1, .int x1), (2, .int x2)]) hx hb dX5_leastLimit_32 hl (by decide) rfl (fun ls hl => ?_)
      refine lv_aload_n hx hb dX5_leastLimit_34 rfl (lv_at hl 2 rfl) ?_
      obtain ⟨v8, hq, h⟩ := cz_bd_t h
      refine cz_runV (rest := []) (As := []) (T := TX5) (N0 := 12) X hM hl.1 (c_X5_turnedBack (l := l) (g := g) (b := b) ka0 hq) mv_X5_turnedBack rfl (by decide) ka0 ml_X5_139 ⟨Nat.le_trans (Nat.le_of_ble_eq_true rfl) hRf, Nat.le_trans (Nat.le_of_ble_eq_true rfl) hRl⟩ rfl rfl (Nat.le_of_ble_eq_true rfl) dX5_leastLimit_35 (fun H locs hM => ?_)
      refine lv_iload_n hx hb dX5_leastLimit_38 rfl (lv_at hl 1 rfl) ?_
      refine lv_icmp_ne (tgt := 46) hx hb dX5_leastLimit_39 (by decide) (fun c9 => ?_) (fun c9 => ?_)
      · have h := cz_ite_f c9 h
        refine lv_iload_n hx hb dX5_leastLimit_46 rfl (lv_at hl 3 rfl) ?_
        refine lv_istore_n (lv' := [(1, .int x1), (4, .int v7), (3, .int v3), (0, .ref a0), (2, .int x2)]) hx hb dX5_leastLimit_47 rfl hl (by decide) rfl (fun ls hl => ?_)
        refine lv_aload_n hx hb dX5_leastLimit_48 rfl (lv_at hl 3 rfl) ?_
        obtain ⟨M10, hq, h⟩ := cz_bd_t h
        refine cz_runV (rest := []) (As := []) (T := TX5) (N0 := 12) X hM hl.1 (c_X5_putBack (l := l) (g := g) (b := b) ka0 hq) mv_X5_putBack rfl (by decide) ka0 ml_X5_115 ⟨Nat.le_trans (Nat.le_of_ble_eq_true rfl) hRf, Nat.le_trans (Nat.le_of_ble_eq_true rfl) hRl⟩ rfl rfl (Nat.le_of_ble_eq_true rfl) dX5_leastLimit_49 (fun H locs hM => ?_)
        refine cz_nmL (v := x2 + (-1)) h (fun v11 e12 h => ?_)
        refine lv_iinc (v := v11) (lv' := [(2, .int v11), (1, .int x1), (4, .int v7), (3, .int v3), (0, .ref a0)]) hx hb dX5_leastLimit_52 hl (k := 4) rfl (by rw [e12]; rfl) (by decide) rfl (fun ls hl => ?_)
        refine lv_goto (tgt := 10) hx hb dX5_leastLimit_55 (by decide) ?_
        exact ih _ _ _ _ _ _ h hM (lv_sub hl [4, 1, 0] rfl)
      · have h := cz_ite_t c9 h
        refine lv_iload_n hx hb dX5_leastLimit_42 rfl (lv_at hl 4 rfl) ?_
        refine lv_goto (tgt := 47) hx hb dX5_leastLimit_43 (by decide) ?_
        refine lv_istore_n (lv' := [(1, .int x2), (4, .int v7), (3, .int v3), (0, .ref a0), (2, .int x2)]) hx hb dX5_leastLimit_47 rfl hl (by decide) rfl (fun ls hl => ?_)
        refine lv_aload_n hx hb dX5_leastLimit_48 rfl (lv_at hl 3 rfl) ?_
        obtain ⟨M13, hq, h⟩ := cz_bd_t h
        refine cz_runV (rest := []) (As := []) (T := TX5) (N0 := 12) X hM hl.1 (c_X5_putBack (l := l) (g := g) (b := b) ka0 hq) mv_X5_putBack rfl (by decide) ka0 ml_X5_115 ⟨Nat.le_trans (Nat.le_of_ble_eq_true rfl) hRf, Nat.le_trans (Nat.le_of_ble_eq_true rfl) hRl⟩ rfl rfl (Nat.le_of_ble_eq_true rfl) dX5_leastLimit_49 (fun H locs hM => ?_)
        refine cz_nmL (v := x2 + (-1)) h (fun v14 e15 h => ?_)
        refine lv_iinc (v := v14) (lv' := [(2, .int v14), (1, .int x2), (4, .int v7), (3, .int v3), (0, .ref a0)]) hx hb dX5_leastLimit_52 hl (k := 4) rfl (by rw [e15]; rfl) (by decide) rfl (fun ls hl => ?_)
        refine lv_goto (tgt := 10) hx hb dX5_leastLimit_55 (by decide) ?_
        exact ih _ _ _ _ _ _ h hM (lv_sub hl [4, 1, 0] rfl)
set_option maxHeartbeats 4000000 in
set_option maxRecDepth 100000 in
theorem c_X5_leastLimit {l : Launch} {g : cz_G} {b : Nat} {M : cz_M} {r0 : Int32} {M9 : cz_M} {a : Nat} (ka : cz_K b a 5) (h : f_X5_leastLimit M a = some (r0, M9)) : cz_C l yX5_leastLimit cX5_leastLimit 5 (some .int) 8 187 g b [.ref a] M (some (.int r0)) M9 := by
  refine cz_start (by decide) (Nat.le_of_ble_eq_true rfl) (fun p e s m args below meth c X H ls hM hl => ?_)
  have X : cz_X p s m args meth c cX5_leastLimit 5 RX5 g b (some .int) := X
  obtain ⟨hx, hb, -, ho, ht, -⟩ := id X
  have hRf : 8 ≤ ({ frames := 8, cells := 0, slots := 0, locals := 187 } : Room).frames := Nat.le_refl _
  have hRl : 187 ≤ ({ frames := 8, cells := 0, slots := 0, locals := 187 } : Room).locals := Nat.le_refl _
  have hl : lv_has ls 5 [(0, .ref a)] := hl
  rw [f_X5_leastLimit] at h
  refine lv_aload_n hx hb dX5_leastLimit_0 rfl (lv_at hl 0 rfl) ?_
  obtain ⟨M1, hq, h⟩ := cz_bd_t h
  refine cz_runV (rest := []) (As := []) (T := TX5) (N0 := 12) X hM hl.1 (c_X5_putAside (l := l) (g := g) (b := b) ka hq) mv_X5_putAside rfl (by decide) ka ml_X5_112 ⟨Nat.le_trans (Nat.le_of_ble_eq_true rfl) hRf, Nat.le_trans (Nat.le_of_ble_eq_true rfl) hRl⟩ rfl rfl (Nat.le_of_ble_eq_true rfl) dX5_leastLimit_1 (fun H locs hM => ?_)
  refine lv_bipush (v := nI 8) hx hb dX5_leastLimit_4 (by decide) ?_
  refine lv_istore_n (lv' := [(1, .int (nI 8)), (0, .ref a)]) hx hb dX5_leastLimit_6 rfl hl (by decide) rfl (fun ls hl => ?_)
  refine lv_bipush (v := nI 8) hx hb dX5_leastLimit_7 (by decide) ?_
  refine lv_istore_n (lv' := [(2, .int (nI 8)), (1, .int (nI 8)), (0, .ref a)]) hx hb dX5_leastLimit_9 rfl hl (by decide) rfl (fun ls hl => ?_)
  refine w_X5_leastLimit_L10 X hRf hRl ka _ (fun x16 x17 M18 H locs ls h hM hl => ?_) _ _ _ _ _ _ _ h hM (lv_sub hl [2, 1, 0] rfl)
  refine lv_iload_n hx hb dX5_leastLimit_58 rfl (lv_at hl 1 rfl) ?_
  exact cz_reti X hM h rfl dX5_leastLimit_59
theorem mv_X5_put : cz_MV yX5_put cX5_put 8 (some .int) RX5 1 := ⟨mi_X5_put, ms_X5_put, mc_X5_put, ini_X5, by decide +kernel⟩
set_option maxHeartbeats 4000000 in
set_option maxRecDepth 100000 in
theorem w_X5_put_L8 {p : Program} {l : Launch} {e : Env} {R : Room} {s : State} {m : MethodId} {args : Array Value} {below : List Frame} {meth : Method} {c : Code} {g : cz_G} {b : Nat} (X : cz_X p s m args meth c cX5_put 8 RX5 g b (some .int)) (hRf : 1 ≤ R.frames) (hRl : 22 ≤ R.locals) {r0 : Int32} {M9 : cz_M} {a0 : Nat} {x1 : Int64} {M : cz_M} (ka0 : cz_K b a0 5)
    (K : Int32 → Int32 → Int32 → Option (Int32 × cz_M)) (hX : ∀ (x3 : Int32) (x4 : Int32) (x5 : Int32) (H : Heap) (locs : List Loc) (ls : Array Slot), K x3 x4 x5 = some (r0, M9) → cz_WS g b M s H locs → lv_has ls 8 [(0, .ref a0), (1, .long x1), (3, .int x3), (4, .int x4), (5, .int x5)] → W p l e R s m args below meth c H locs 0 0 (MQ below (cz_Q g b (some (.int r0)) M9) args s 0 0 (fun q => b ≤ q)) (F0 m 101 ls [])) :
    ∀ (n : Nat) (x3 : Int32) (x4 : Int32) (x5 : Int32) (H : Heap) (locs : List Loc) (ls : Array Slot), cz_it3 (f_X5_put_L8 a0 x1 M K) n x3 x4 x5 = some (r0, M9) → cz_WS g b M s H locs → lv_has ls 8 [(0, .ref a0), (1, .long x1), (3, .int x3), (4, .int x4), (5, .int x5)] → W p l e R s m args below meth c H locs 0 0 (MQ below (cz_Q g b (some (.int r0)) M9) args s 0 0 (fun q => b ≤ q)) (F0 m 8 ls []) := by
  obtain ⟨hx, hb, -, ho, ht, -⟩ := id X
  intro n
  induction n with
  | zero => intro x3 x4 x5 H locs ls h; cases (show none = some _ from h)
  | succ n ih =>
    intro x3 x4 x5 H locs ls h hM hl
    have h : f_X5_put_L8 a0 x1 M K (cz_it3 (f_X5_put_L8 a0 x1 M K) n) x3 x4 x5 = some (r0, M9) := h
    rw [f_X5_put_L8] at h
    refine lv_iload hx hb dX5_put_8 (lv_at hl 4 rfl) ?_
    refine lv_bipush (v := nI 8) hx hb dX5_put_10 (by decide) ?_
    refine lv_icmp_ge (tgt := 101) hx hb dX5_put_12 (by decide) (fun c1 => ?_) (fun c1 => ?_)
    · have h := cz_ite_t c1 h
      exact hX _ _ _ _ _ _ h hM (lv_sub hl [0, 1, 2, 3, 4] rfl)
    · have h := cz_ite_f c1 h
      refine lv_lload_n hx hb dX5_put_15 rfl (lv_at hl 1 rfl) ?_
      refine lv_bipush (v := nI 8) hx hb dX5_put_16 (by decide) ?_
      refine lv_iload hx hb dX5_put_18 (lv_at hl 4 rfl) ?_
      refine lv_imul hx hb dX5_put_20 ?_
      refine lv_lushr (v := cz_usl x1 ((nI 8) * x5)) hx hb dX5_put_21 rfl ?_
      refine lv_ldc2 hx hb ho (ht _ lc_X5_142) dX5_put_22 ?_
      refine lv_land hx hb dX5_put_25 ?_
      refine lv_l2i (v := Int64.toInt32 ((cz_usl x1 ((nI 8) * x5)) &&& (255 : Int64))) hx hb dX5_put_26 rfl ?_
      refine cz_nmi h (fun v2 h => ?_)
      refine lv_istore (lv' := [(6, .int v2), (0, .ref a0), (1, .long x1), (3, .int x3), (4, .int x4), (5, .int x5)]) hx hb dX5_put_27 hl (by decide) rfl (fun ls hl => ?_)
      refine lv_iload hx hb dX5_put_29 (lv_at hl 5 rfl) ?_
      refine lv_if_le (tgt := 50) hx hb dX5_put_31 (by decide) (fun c3 => ?_) (fun c3 => ?_)
      · have h := cz_ite_t c3 h
        refine lv_iconst (v := nI 0) hx hb dX5_put_50 (by decide) ?_
        refine lv_istore (lv' := [(7, .int (nI 0)), (6, .int v2), (0, .ref a0), (1, .long x1), (3, .int x3), (4, .int x4), (5, .int x5)]) hx hb dX5_put_51 hl (by decide) rfl (fun ls hl => ?_)
        refine lv_iload hx hb dX5_put_53 (lv_at hl 5 rfl) ?_
        refine lv_if_ne (tgt := 75) hx hb dX5_put_55 (by decide) (fun c4 => ?_) (fun c4 => ?_)
        · have h := cz_ite_f c4 h
          refine lv_iconst (v := nI 1) hx hb dX5_put_75 (by decide) ?_
          refine lv_goto (tgt := 80) hx hb dX5_put_76 (by decide) ?_
          refine lv_istore (lv' := [(4, .int (nI 1)), (7, .int (nI 0)), (6, .int v2), (0, .ref a0), (1, .long x1), (3, .int x3), (5, .int x5)]) hx hb dX5_put_80 hl (by decide) rfl (fun ls hl => ?_)
          refine lv_iload_n hx hb dX5_put_82 rfl (lv_at hl 5 rfl) ?_
          refine lv_iload hx hb dX5_put_83 (lv_at hl 1 rfl) ?_
          refine lv_if_eq (tgt := 92) hx hb dX5_put_85 (by decide) (fun c5 => ?_) (fun c5 => ?_)
          · have h := cz_ite_t c5 h
            refine lv_iconst (v := nI 1) hx hb dX5_put_92 (by decide) ?_
            refine lv_iadd hx hb dX5_put_93 ?_
            refine cz_nmi h (fun v6 h => ?_)
            refine lv_istore_n (lv' := [(3, .int v6), (4, .int (nI 1)), (7, .int (nI 0)), (6, .int v2), (0, .ref a0), (1, .long x1), (5, .int x5)]) hx hb dX5_put_94 rfl hl (by decide) rfl (fun ls hl => ?_)
            refine cz_nmL (v := x5 + nI 1) h (fun v7 e8 h => ?_)
            refine lv_iinc (v := v7) (lv' := [(5, .int v7), (3, .int v6), (4, .int (nI 1)), (7, .int (nI 0)), (6, .int v2), (0, .ref a0), (1, .long x1)]) hx hb dX5_put_95 hl (k := 6) rfl (by rw [e8]; rfl) (by decide) rfl (fun ls hl => ?_)
            refine lv_goto (tgt := 8) hx hb dX5_put_98 (by decide) ?_
            exact ih _ _ _ _ _ _ h hM (lv_sub hl [5, 6, 1, 2, 0] rfl)
          · have h := cz_ite_f c5 h
            refine lv_iconst (v := nI 0) hx hb dX5_put_88 (by decide) ?_
            refine lv_goto (tgt := 93) hx hb dX5_put_89 (by decide) ?_
            refine lv_iadd hx hb dX5_put_93 ?_
            refine cz_nmi h (fun v9 h => ?_)
            refine lv_istore_n (lv' := [(3, .int v9), (4, .int (nI 1)), (7, .int (nI 0)), (6, .int v2), (0, .ref a0), (1, .long x1), (5, .int x5)]) hx hb dX5_put_94 rfl hl (by decide) rfl (fun ls hl => ?_)
            refine cz_nmL (v := x5 + nI 1) h (fun v10 e11 h => ?_)
            refine lv_iinc (v := v10) (lv' := [(5, .int v10), (3, .int v9), (4, .int (nI 1)), (7, .int (nI 0)), (6, .int v2), (0, .ref a0), (1, .long x1)]) hx hb dX5_put_95 hl (k := 6) rfl (by rw [e11]; rfl) (by decide) rfl (fun ls hl => ?_)
            refine lv_goto (tgt := 8) hx hb dX5_put_98 (by decide) ?_
            exact ih _ _ _ _ _ _ h hM (lv_sub hl [5, 6, 1, 2, 0] rfl)
        · have h := cz_ite_t c4 h
          refine lv_iload hx hb dX5_put_58 (lv_at hl 0 rfl) ?_
          refine lv_if_ne (tgt := 79) hx hb dX5_put_60 (by decide) (fun c12 => ?_) (fun c12 => ?_)
          · have h := cz_ite_f c12 h
            refine lv_iconst (v := nI 0) hx hb dX5_put_79 (by decide) ?_
            refine lv_istore (lv' := [(4, .int (nI 0)), (7, .int (nI 0)), (6, .int v2), (0, .ref a0), (1, .long x1), (3, .int x3), (5, .int x5)]) hx hb dX5_put_80 hl (by decide) rfl (fun ls hl => ?_)
            refine lv_iload_n hx hb dX5_put_82 rfl (lv_at hl 5 rfl) ?_
            refine lv_iload hx hb dX5_put_83 (lv_at hl 1 rfl) ?_
            refine lv_if_eq (tgt := 92) hx hb dX5_put_85 (by decide) (fun c13 => ?_) (fun c13 => ?_)
            · have h := cz_ite_t c13 h
              refine lv_iconst (v := nI 1) hx hb dX5_put_92 (by decide) ?_
              refine lv_iadd hx hb dX5_put_93 ?_
              refine cz_nmi h (fun v14 h => ?_)
              refine lv_istore_n (lv' := [(3, .int v14), (4, .int (nI 0)), (7, .int (nI 0)), (6, .int v2), (0, .ref a0), (1, .long x1), (5, .int x5)]) hx hb dX5_put_94 rfl hl (by decide) rfl (fun ls hl => ?_)
              refine cz_nmL (v := x5 + nI 1) h (fun v15 e16 h => ?_)
              refine lv_iinc (v := v15) (lv' := [(5, .int v15), (3, .int v14), (4, .int (nI 0)), (7, .int (nI 0)), (6, .int v2), (0, .ref a0), (1, .long x1)]) hx hb dX5_put_95 hl (k := 6) rfl (by rw [e16]; rfl) (by decide) rfl (fun ls hl => ?_)
              refine lv_goto (tgt := 8) hx hb dX5_put_98 (by decide) ?_
              exact ih _ _ _ _ _ _ h hM (lv_sub hl [5, 6, 1, 2, 0] rfl)
            · have h := cz_ite_f c13 h
              refine lv_iconst (v := nI 0) hx hb dX5_put_88 (by decide) ?_
              refine lv_goto (tgt := 93) hx hb dX5_put_89 (by decide) ?_
              refine lv_iadd hx hb dX5_put_93 ?_
              refine cz_nmi h (fun v17 h => ?_)
              refine lv_istore_n (lv' := [(3, .int v17), (4, .int (nI 0)), (7, .int (nI 0)), (6, .int v2), (0, .ref a0), (1, .long x1), (5, .int x5)]) hx hb dX5_put_94 rfl hl (by decide) rfl (fun ls hl => ?_)
              refine cz_nmL (v := x5 + nI 1) h (fun v18 e19 h => ?_)
              refine lv_iinc (v := v18) (lv' := [(5, .int v18), (3, .int v17), (4, .int (nI 0)), (7, .int (nI 0)), (6, .int v2), (0, .ref a0), (1, .long x1)]) hx hb dX5_put_95 hl (k := 6) rfl (by rw [e19]; rfl) (by decide) rfl (fun ls hl => ?_)
              refine lv_goto (tgt := 8) hx hb dX5_put_98 (by decide) ?_
              exact ih _ _ _ _ _ _ h hM (lv_sub hl [5, 6, 1, 2, 0] rfl)
          · have h := cz_ite_t c12 h
            refine lv_iload hx hb dX5_put_63 (lv_at hl 1 rfl) ?_
            refine lv_bipush (v := nI 33) hx hb dX5_put_65 (by decide) ?_
            refine lv_bipush (v := nI 126) hx hb dX5_put_67 (by decide) ?_
            obtain ⟨v20, hq, h⟩ := cz_bd_t h
            refine cz_runS (rest := []) (As := [.int v2, .int (nI 33), .int (nI 126)]) X hM hl.1 (c_X5_in (l := l) (g := g) (b := b)  hq) mv_X5_in ml_X5_38 ⟨Nat.le_trans (Nat.le_of_ble_eq_true rfl) hRf, Nat.le_trans (Nat.le_of_ble_eq_true rfl) hRl⟩ rfl rfl (Nat.le_of_ble_eq_true rfl) dX5_put_69 (fun H locs hM => ?_)
            refine lv_if_ne (tgt := 79) hx hb dX5_put_72 (by decide) (fun c21 => ?_) (fun c21 => ?_)
            · have h := cz_ite_f c21 h
              refine lv_iconst (v := nI 0) hx hb dX5_put_79 (by decide) ?_
              refine lv_istore (lv' := [(4, .int (nI 0)), (7, .int (nI 0)), (6, .int v2), (0, .ref a0), (1, .long x1), (3, .int x3), (5, .int x5)]) hx hb dX5_put_80 hl (by decide) rfl (fun ls hl => ?_)
              refine lv_iload_n hx hb dX5_put_82 rfl (lv_at hl 5 rfl) ?_
              refine lv_iload hx hb dX5_put_83 (lv_at hl 1 rfl) ?_
              refine lv_if_eq (tgt := 92) hx hb dX5_put_85 (by decide) (fun c22 => ?_) (fun c22 => ?_)
              · have h := cz_ite_t c22 h
                refine lv_iconst (v := nI 1) hx hb dX5_put_92 (by decide) ?_
                refine lv_iadd hx hb dX5_put_93 ?_
                refine cz_nmi h (fun v23 h => ?_)
                refine lv_istore_n (lv' := [(3, .int v23), (4, .int (nI 0)), (7, .int (nI 0)), (6, .int v2), (0, .ref a0), (1, .long x1), (5, .int x5)]) hx hb dX5_put_94 rfl hl (by decide) rfl (fun ls hl => ?_)
                refine cz_nmL (v := x5 + nI 1) h (fun v24 e25 h => ?_)
                refine lv_iinc (v := v24) (lv' := [(5, .int v24), (3, .int v23), (4, .int (nI 0)), (7, .int (nI 0)), (6, .int v2), (0, .ref a0), (1, .long x1)]) hx hb dX5_put_95 hl (k := 6) rfl (by rw [e25]; rfl) (by decide) rfl (fun ls hl => ?_)
                refine lv_goto (tgt := 8) hx hb dX5_put_98 (by decide) ?_
                exact ih _ _ _ _ _ _ h hM (lv_sub hl [5, 6, 1, 2, 0] rfl)
              · have h := cz_ite_f c22 h
                refine lv_iconst (v := nI 0) hx hb dX5_put_88 (by decide) ?_
                refine lv_goto (tgt := 93) hx hb dX5_put_89 (by decide) ?_
                refine lv_iadd hx hb dX5_put_93 ?_
                refine cz_nmi h (fun v26 h => ?_)
                refine lv_istore_n (lv' := [(3, .int v26), (4, .int (nI 0)), (7, .int (nI 0)), (6, .int v2), (0, .ref a0), (1, .long x1), (5, .int x5)]) hx hb dX5_put_94 rfl hl (by decide) rfl (fun ls hl => ?_)
                refine cz_nmL (v := x5 + nI 1) h (fun v27 e28 h => ?_)
                refine lv_iinc (v := v27) (lv' := [(5, .int v27), (3, .int v26), (4, .int (nI 0)), (7, .int (nI 0)), (6, .int v2), (0, .ref a0), (1, .long x1)]) hx hb dX5_put_95 hl (k := 6) rfl (by rw [e28]; rfl) (by decide) rfl (fun ls hl => ?_)
                refine lv_goto (tgt := 8) hx hb dX5_put_98 (by decide) ?_
                exact ih _ _ _ _ _ _ h hM (lv_sub hl [5, 6, 1, 2, 0] rfl)
            · have h := cz_ite_t c21 h
              refine lv_iconst (v := nI 1) hx hb dX5_put_75 (by decide) ?_
              refine lv_goto (tgt := 80) hx hb dX5_put_76 (by decide) ?_
              refine lv_istore (lv' := [(4, .int (nI 1)), (7, .int (nI 0)), (6, .int v2), (0, .ref a0), (1, .long x1), (3, .int x3), (5, .int x5)]) hx hb dX5_put_80 hl (by decide) rfl (fun ls hl => ?_)
              refine lv_iload_n hx hb dX5_put_82 rfl (lv_at hl 5 rfl) ?_
              refine lv_iload hx hb dX5_put_83 (lv_at hl 1 rfl) ?_
              refine lv_if_eq (tgt := 92) hx hb dX5_put_85 (by decide) (fun c29 => ?_) (fun c29 => ?_)
              · have h := cz_ite_t c29 h
                refine lv_iconst (v := nI 1) hx hb dX5_put_92 (by decide) ?_
                refine lv_iadd hx hb dX5_put_93 ?_
                refine cz_nmi h (fun v30 h => ?_)
                refine lv_istore_n (lv' := [(3, .int v30), (4, .int (nI 1)), (7, .int (nI 0)), (6, .int v2), (0, .ref a0), (1, .long x1), (5, .int x5)]) hx hb dX5_put_94 rfl hl (by decide) rfl (fun ls hl => ?_)
                refine cz_nmL (v := x5 + nI 1) h (fun v31 e32 h => ?_)
                refine lv_iinc (v := v31) (lv' := [(5, .int v31), (3, .int v30), (4, .int (nI 1)), (7, .int (nI 0)), (6, .int v2), (0, .ref a0), (1, .long x1)]) hx hb dX5_put_95 hl (k := 6) rfl (by rw [e32]; rfl) (by decide) rfl (fun ls hl => ?_)
                refine lv_goto (tgt := 8) hx hb dX5_put_98 (by decide) ?_
                exact ih _ _ _ _ _ _ h hM (lv_sub hl [5, 6, 1, 2, 0] rfl)
              · have h := cz_ite_f c29 h
                refine lv_iconst (v := nI 0) hx hb dX5_put_88 (by decide) ?_
                refine lv_goto (tgt := 93) hx hb dX5_put_89 (by decide) ?_
                refine lv_iadd hx hb dX5_put_93 ?_
                refine cz_nmi h (fun v33 h => ?_)
                refine lv_istore_n (lv' := [(3, .int v33), (4, .int (nI 1)), (7, .int (nI 0)), (6, .int v2), (0, .ref a0), (1, .long x1), (5, .int x5)]) hx hb dX5_put_94 rfl hl (by decide) rfl (fun ls hl => ?_)
                refine cz_nmL (v := x5 + nI 1) h (fun v34 e35 h => ?_)
                refine lv_iinc (v := v34) (lv' := [(5, .int v34), (3, .int v33), (4, .int (nI 1)), (7, .int (nI 0)), (6, .int v2), (0, .ref a0), (1, .long x1)]) hx hb dX5_put_95 hl (k := 6) rfl (by rw [e35]; rfl) (by decide) rfl (fun ls hl => ?_)
                refine lv_goto (tgt := 8) hx hb dX5_put_98 (by decide) ?_
                exact ih _ _ _ _ _ _ h hM (lv_sub hl [5, 6, 1, 2, 0] rfl)
      · have h := cz_ite_f c3 h
        refine lv_lload_n hx hb dX5_put_34 rfl (lv_at hl 2 rfl) ?_
        refine lv_bipush (v := nI 8) hx hb dX5_put_35 (by decide) ?_
        refine lv_iload hx hb dX5_put_37 (lv_at hl 5 rfl) ?_
        refine lv_imul hx hb dX5_put_39 ?_
        refine lv_lushr (v := cz_usl x1 ((nI 8) * x5)) hx hb dX5_put_40 rfl ?_
        refine lv_lconst (v := 0) hx hb dX5_put_41 (by decide) ?_
        refine W.lcmp hx hb dX5_put_42 ?_
        refine lv_if_ne (tgt := 50) hx hb dX5_put_43 (by decide) (fun c36 => ?_) (fun c36 => ?_)
        · have h := cz_ite_f c36 h
          refine lv_iconst (v := nI 0) hx hb dX5_put_50 (by decide) ?_
          refine lv_istore (lv' := [(7, .int (nI 0)), (6, .int v2), (0, .ref a0), (1, .long x1), (3, .int x3), (4, .int x4), (5, .int x5)]) hx hb dX5_put_51 hl (by decide) rfl (fun ls hl => ?_)
          refine lv_iload hx hb dX5_put_53 (lv_at hl 5 rfl) ?_
          refine lv_if_ne (tgt := 75) hx hb dX5_put_55 (by decide) (fun c37 => ?_) (fun c37 => ?_)
          · have h := cz_ite_f c37 h
            refine lv_iconst (v := nI 1) hx hb dX5_put_75 (by decide) ?_
            refine lv_goto (tgt := 80) hx hb dX5_put_76 (by decide) ?_
            refine lv_istore (lv' := [(4, .int (nI 1)), (7, .int (nI 0)), (6, .int v2), (0, .ref a0), (1, .long x1), (3, .int x3), (5, .int x5)]) hx hb dX5_put_80 hl (by decide) rfl (fun ls hl => ?_)
            refine lv_iload_n hx hb dX5_put_82 rfl (lv_at hl 5 rfl) ?_
            refine lv_iload hx hb dX5_put_83 (lv_at hl 1 rfl) ?_
            refine lv_if_eq (tgt := 92) hx hb dX5_put_85 (by decide) (fun c38 => ?_) (fun c38 => ?_)
            · have h := cz_ite_t c38 h
              refine lv_iconst (v := nI 1) hx hb dX5_put_92 (by decide) ?_
              refine lv_iadd hx hb dX5_put_93 ?_
              refine cz_nmi h (fun v39 h => ?_)
              refine lv_istore_n (lv' := [(3, .int v39), (4, .int (nI 1)), (7, .int (nI 0)), (6, .int v2), (0, .ref a0), (1, .long x1), (5, .int x5)]) hx hb dX5_put_94 rfl hl (by decide) rfl (fun ls hl => ?_)
              refine cz_nmL (v := x5 + nI 1) h (fun v40 e41 h => ?_)
              refine lv_iinc (v := v40) (lv' := [(5, .int v40), (3, .int v39), (4, .int (nI 1)), (7, .int (nI 0)), (6, .int v2), (0, .ref a0), (1, .long x1)]) hx hb dX5_put_95 hl (k := 6) rfl (by rw [e41]; rfl) (by decide) rfl (fun ls hl => ?_)
              refine lv_goto (tgt := 8) hx hb dX5_put_98 (by decide) ?_
              exact ih _ _ _ _ _ _ h hM (lv_sub hl [5, 6, 1, 2, 0] rfl)
            · have h := cz_ite_f c38 h
              refine lv_iconst (v := nI 0) hx hb dX5_put_88 (by decide) ?_
              refine lv_goto (tgt := 93) hx hb dX5_put_89 (by decide) ?_
              refine lv_iadd hx hb dX5_put_93 ?_
              refine cz_nmi h (fun v42 h => ?_)
              refine lv_istore_n (lv' := [(3, .int v42), (4, .int (nI 1)), (7, .int (nI 0)), (6, .int v2), (0, .ref a0), (1, .long x1), (5, .int x5)]) hx hb dX5_put_94 rfl hl (by decide) rfl (fun ls hl => ?_)
              refine cz_nmL (v := x5 + nI 1) h (fun v43 e44 h => ?_)
              refine lv_iinc (v := v43) (lv' := [(5, .int v43), (3, .int v42), (4, .int (nI 1)), (7, .int (nI 0)), (6, .int v2), (0, .ref a0), (1, .long x1)]) hx hb dX5_put_95 hl (k := 6) rfl (by rw [e44]; rfl) (by decide) rfl (fun ls hl => ?_)
              refine lv_goto (tgt := 8) hx hb dX5_put_98 (by decide) ?_
              exact ih _ _ _ _ _ _ h hM (lv_sub hl [5, 6, 1, 2, 0] rfl)
          · have h := cz_ite_t c37 h
            refine lv_iload hx hb dX5_put_58 (lv_at hl 0 rfl) ?_
            refine lv_if_ne (tgt := 79) hx hb dX5_put_60 (by decide) (fun c45 => ?_) (fun c45 => ?_)
            · have h := cz_ite_f c45 h
              refine lv_iconst (v := nI 0) hx hb dX5_put_79 (by decide) ?_
              refine lv_istore (lv' := [(4, .int (nI 0)), (7, .int (nI 0)), (6, .int v2), (0, .ref a0), (1, .long x1), (3, .int x3), (5, .int x5)]) hx hb dX5_put_80 hl (by decide) rfl (fun ls hl => ?_)
              refine lv_iload_n hx hb dX5_put_82 rfl (lv_at hl 5 rfl) ?_
              refine lv_iload hx hb dX5_put_83 (lv_at hl 1 rfl) ?_
              refine lv_if_eq (tgt := 92) hx hb dX5_put_85 (by decide) (fun c46 => ?_) (fun c46 => ?_)
              · have h := cz_ite_t c46 h
                refine lv_iconst (v := nI 1) hx hb dX5_put_92 (by decide) ?_
                refine lv_iadd hx hb dX5_put_93 ?_
                refine cz_nmi h (fun v47 h => ?_)
                refine lv_istore_n (lv' := [(3, .int v47), (4, .int (nI 0)), (7, .int (nI 0)), (6, .int v2), (0, .ref a0), (1, .long x1), (5, .int x5)]) hx hb dX5_put_94 rfl hl (by decide) rfl (fun ls hl => ?_)
                refine cz_nmL (v := x5 + nI 1) h (fun v48 e49 h => ?_)
                refine lv_iinc (v := v48) (lv' := [(5, .int v48), (3, .int v47), (4, .int (nI 0)), (7, .int (nI 0)), (6, .int v2), (0, .ref a0), (1, .long x1)]) hx hb dX5_put_95 hl (k := 6) rfl (by rw [e49]; rfl) (by decide) rfl (fun ls hl => ?_)
                refine lv_goto (tgt := 8) hx hb dX5_put_98 (by decide) ?_
                exact ih _ _ _ _ _ _ h hM (lv_sub hl [5, 6, 1, 2, 0] rfl)
              · have h := cz_ite_f c46 h
                refine lv_iconst (v := nI 0) hx hb dX5_put_88 (by decide) ?_
                refine lv_goto (tgt := 93) hx hb dX5_put_89 (by decide) ?_
                refine lv_iadd hx hb dX5_put_93 ?_
                refine cz_nmi h (fun v50 h => ?_)
                refine lv_istore_n (lv' := [(3, .int v50), (4, .int (nI 0)), (7, .int (nI 0)), (6, .int v2), (0, .ref a0), (1, .long x1), (5, .int x5)]) hx hb dX5_put_94 rfl hl (by decide) rfl (fun ls hl => ?_)
                refine cz_nmL (v := x5 + nI 1) h (fun v51 e52 h => ?_)
                refine lv_iinc (v := v51) (lv' := [(5, .int v51), (3, .int v50), (4, .int (nI 0)), (7, .int (nI 0)), (6, .int v2), (0, .ref a0), (1, .long x1)]) hx hb dX5_put_95 hl (k := 6) rfl (by rw [e52]; rfl) (by decide) rfl (fun ls hl => ?_)
                refine lv_goto (tgt := 8) hx hb dX5_put_98 (by decide) ?_
                exact ih _ _ _ _ _ _ h hM (lv_sub hl [5, 6, 1, 2, 0] rfl)
            · have h := cz_ite_t c45 h
              refine lv_iload hx hb dX5_put_63 (lv_at hl 1 rfl) ?_
              refine lv_bipush (v := nI 33) hx hb dX5_put_65 (by decide) ?_
              refine lv_bipush (v := nI 126) hx hb dX5_put_67 (by decide) ?_
              obtain ⟨v53, hq, h⟩ := cz_bd_t h
              refine cz_runS (rest := []) (As := [.int v2, .int (nI 33), .int (nI 126)]) X hM hl.1 (c_X5_in (l := l) (g := g) (b := b)  hq) mv_X5_in ml_X5_38 ⟨Nat.le_trans (Nat.le_of_ble_eq_true rfl) hRf, Nat.le_trans (Nat.le_of_ble_eq_true rfl) hRl⟩ rfl rfl (Nat.le_of_ble_eq_true rfl) dX5_put_69 (fun H locs hM => ?_)
              refine lv_if_ne (tgt := 79) hx hb dX5_put_72 (by decide) (fun c54 => ?_) (fun c54 => ?_)
              · have h := cz_ite_f c54 h
                refine lv_iconst (v := nI 0) hx hb dX5_put_79 (by decide) ?_
                refine lv_istore (lv' := [(4, .int (nI 0)), (7, .int (nI 0)), (6, .int v2), (0, .ref a0), (1, .long x1), (3, .int x3), (5, .int x5)]) hx hb dX5_put_80 hl (by decide) rfl (fun ls hl => ?_)
                refine lv_iload_n hx hb dX5_put_82 rfl (lv_at hl 5 rfl) ?_
                refine lv_iload hx hb dX5_put_83 (lv_at hl 1 rfl) ?_
                refine lv_if_eq (tgt := 92) hx hb dX5_put_85 (by decide) (fun c55 => ?_) (fun c55 => ?_)
                · have h := cz_ite_t c55 h
                  refine lv_iconst (v := nI 1) hx hb dX5_put_92 (by decide) ?_
                  refine lv_iadd hx hb dX5_put_93 ?_
                  refine cz_nmi h (fun v56 h => ?_)
                  refine lv_istore_n (lv' := [(3, .int v56), (4, .int (nI 0)), (7, .int (nI 0)), (6, .int v2), (0, .ref a0), (1, .long x1), (5, .int x5)]) hx hb dX5_put_94 rfl hl (by decide) rfl (fun ls hl => ?_)
                  refine cz_nmL (v := x5 + nI 1) h (fun v57 e58 h => ?_)
                  refine lv_iinc (v := v57) (lv' := [(5, .int v57), (3, .int v56), (4, .int (nI 0)), (7, .int (nI 0)), (6, .int v2), (0, .ref a0), (1, .long x1)]) hx hb dX5_put_95 hl (k := 6) rfl (by rw [e58]; rfl) (by decide) rfl (fun ls hl => ?_)
                  refine lv_goto (tgt := 8) hx hb dX5_put_98 (by decide) ?_
                  exact ih _ _ _ _ _ _ h hM (lv_sub hl [5, 6, 1, 2, 0] rfl)
                · have h := cz_ite_f c55 h
                  refine lv_iconst (v := nI 0) hx hb dX5_put_88 (by decide) ?_
                  refine lv_goto (tgt := 93) hx hb dX5_put_89 (by decide) ?_
                  refine lv_iadd hx hb dX5_put_93 ?_
                  refine cz_nmi h (fun v59 h => ?_)
                  refine lv_istore_n (lv' := [(3, .int v59), (4, .int (nI 0)), (7, .int (nI 0)), (6, .int v2), (0, .ref a0), (1, .long x1), (5, .int x5)]) hx hb dX5_put_94 rfl hl (by decide) rfl (fun ls hl => ?_)
                  refine cz_nmL (v := x5 + nI 1) h (fun v60 e61 h => ?_)
                  refine lv_iinc (v := v60) (lv' := [(5, .int v60), (3, .int v59), (4, .int (nI 0)), (7, .int (nI 0)), (6, .int v2), (0, .ref a0), (1, .long x1)]) hx hb dX5_put_95 hl (k := 6) rfl (by rw [e61]; rfl) (by decide) rfl (fun ls hl => ?_)
                  refine lv_goto (tgt := 8) hx hb dX5_put_98 (by decide) ?_
                  exact ih _ _ _ _ _ _ h hM (lv_sub hl [5, 6, 1, 2, 0] rfl)
              · have h := cz_ite_t c54 h
                refine lv_iconst (v := nI 1) hx hb dX5_put_75 (by decide) ?_
                refine lv_goto (tgt := 80) hx hb dX5_put_76 (by decide) ?_
                refine lv_istore (lv' := [(4, .int (nI 1)), (7, .int (nI 0)), (6, .int v2), (0, .ref a0), (1, .long x1), (3, .int x3), (5, .int x5)]) hx hb dX5_put_80 hl (by decide) rfl (fun ls hl => ?_)
                refine lv_iload_n hx hb dX5_put_82 rfl (lv_at hl 5 rfl) ?_
                refine lv_iload hx hb dX5_put_83 (lv_at hl 1 rfl) ?_
                refine lv_if_eq (tgt := 92) hx hb dX5_put_85 (by decide) (fun c62 => ?_) (fun c62 => ?_)
                · have h := cz_ite_t c62 h
                  refine lv_iconst (v := nI 1) hx hb dX5_put_92 (by decide) ?_
                  refine lv_iadd hx hb dX5_put_93 ?_
                  refine cz_nmi h (fun v63 h => ?_)
                  refine lv_istore_n (lv' := [(3, .int v63), (4, .int (nI 1)), (7, .int (nI 0)), (6, .int v2), (0, .ref a0), (1, .long x1), (5, .int x5)]) hx hb dX5_put_94 rfl hl (by decide) rfl (fun ls hl => ?_)
                  refine cz_nmL (v := x5 + nI 1) h (fun v64 e65 h => ?_)
                  refine lv_iinc (v := v64) (lv' := [(5, .int v64), (3, .int v63), (4, .int (nI 1)), (7, .int (nI 0)), (6, .int v2), (0, .ref a0), (1, .long x1)]) hx hb dX5_put_95 hl (k := 6) rfl (by rw [e65]; rfl) (by decide) rfl (fun ls hl => ?_)
                  refine lv_goto (tgt := 8) hx hb dX5_put_98 (by decide) ?_
                  exact ih _ _ _ _ _ _ h hM (lv_sub hl [5, 6, 1, 2, 0] rfl)
                · have h := cz_ite_f c62 h
                  refine lv_iconst (v := nI 0) hx hb dX5_put_88 (by decide) ?_
                  refine lv_goto (tgt := 93) hx hb dX5_put_89 (by decide) ?_
                  refine lv_iadd hx hb dX5_put_93 ?_
                  refine cz_nmi h (fun v66 h => ?_)
                  refine lv_istore_n (lv' := [(3, .int v66), (4, .int (nI 1)), (7, .int (nI 0)), (6, .int v2), (0, .ref a0), (1, .long x1), (5, .int x5)]) hx hb dX5_put_94 rfl hl (by decide) rfl (fun ls hl => ?_)
                  refine cz_nmL (v := x5 + nI 1) h (fun v67 e68 h => ?_)
                  refine lv_iinc (v := v67) (lv' := [(5, .int v67), (3, .int v66), (4, .int (nI 1)), (7, .int (nI 0)), (6, .int v2), (0, .ref a0), (1, .long x1)]) hx hb dX5_put_95 hl (k := 6) rfl (by rw [e68]; rfl) (by decide) rfl (fun ls hl => ?_)
                  refine lv_goto (tgt := 8) hx hb dX5_put_98 (by decide) ?_
                  exact ih _ _ _ _ _ _ h hM (lv_sub hl [5, 6, 1, 2, 0] rfl)
        · have h := cz_ite_t c36 h
          refine lv_iconst (v := nI 1) hx hb dX5_put_46 (by decide) ?_
          refine lv_goto (tgt := 51) hx hb dX5_put_47 (by decide) ?_
          refine lv_istore (lv' := [(7, .int (nI 1)), (6, .int v2), (0, .ref a0), (1, .long x1), (3, .int x3), (4, .int x4), (5, .int x5)]) hx hb dX5_put_51 hl (by decide) rfl (fun ls hl => ?_)
          refine lv_iload hx hb dX5_put_53 (lv_at hl 5 rfl) ?_
          refine lv_if_ne (tgt := 75) hx hb dX5_put_55 (by decide) (fun c69 => ?_) (fun c69 => ?_)
          · have h := cz_ite_f c69 h
            refine lv_iconst (v := nI 1) hx hb dX5_put_75 (by decide) ?_
            refine lv_goto (tgt := 80) hx hb dX5_put_76 (by decide) ?_
            refine lv_istore (lv' := [(4, .int (nI 1)), (7, .int (nI 1)), (6, .int v2), (0, .ref a0), (1, .long x1), (3, .int x3), (5, .int x5)]) hx hb dX5_put_80 hl (by decide) rfl (fun ls hl => ?_)
            refine lv_iload_n hx hb dX5_put_82 rfl (lv_at hl 5 rfl) ?_
            refine lv_iload hx hb dX5_put_83 (lv_at hl 1 rfl) ?_
            refine lv_if_eq (tgt := 92) hx hb dX5_put_85 (by decide) (fun c70 => ?_) (fun c70 => ?_)
            · have h := cz_ite_t c70 h
              refine lv_iconst (v := nI 1) hx hb dX5_put_92 (by decide) ?_
              refine lv_iadd hx hb dX5_put_93 ?_
              refine cz_nmi h (fun v71 h => ?_)
              refine lv_istore_n (lv' := [(3, .int v71), (4, .int (nI 1)), (7, .int (nI 1)), (6, .int v2), (0, .ref a0), (1, .long x1), (5, .int x5)]) hx hb dX5_put_94 rfl hl (by decide) rfl (fun ls hl => ?_)
              refine cz_nmL (v := x5 + nI 1) h (fun v72 e73 h => ?_)
              refine lv_iinc (v := v72) (lv' := [(5, .int v72), (3, .int v71), (4, .int (nI 1)), (7, .int (nI 1)), (6, .int v2), (0, .ref a0), (1, .long x1)]) hx hb dX5_put_95 hl (k := 6) rfl (by rw [e73]; rfl) (by decide) rfl (fun ls hl => ?_)
              refine lv_goto (tgt := 8) hx hb dX5_put_98 (by decide) ?_
              exact ih _ _ _ _ _ _ h hM (lv_sub hl [5, 6, 1, 2, 0] rfl)
            · have h := cz_ite_f c70 h
              refine lv_iconst (v := nI 0) hx hb dX5_put_88 (by decide) ?_
              refine lv_goto (tgt := 93) hx hb dX5_put_89 (by decide) ?_
              refine lv_iadd hx hb dX5_put_93 ?_
              refine cz_nmi h (fun v74 h => ?_)
              refine lv_istore_n (lv' := [(3, .int v74), (4, .int (nI 1)), (7, .int (nI 1)), (6, .int v2), (0, .ref a0), (1, .long x1), (5, .int x5)]) hx hb dX5_put_94 rfl hl (by decide) rfl (fun ls hl => ?_)
              refine cz_nmL (v := x5 + nI 1) h (fun v75 e76 h => ?_)
              refine lv_iinc (v := v75) (lv' := [(5, .int v75), (3, .int v74), (4, .int (nI 1)), (7, .int (nI 1)), (6, .int v2), (0, .ref a0), (1, .long x1)]) hx hb dX5_put_95 hl (k := 6) rfl (by rw [e76]; rfl) (by decide) rfl (fun ls hl => ?_)
              refine lv_goto (tgt := 8) hx hb dX5_put_98 (by decide) ?_
              exact ih _ _ _ _ _ _ h hM (lv_sub hl [5, 6, 1, 2, 0] rfl)
          · have h := cz_ite_t c69 h
            refine lv_iload hx hb dX5_put_58 (lv_at hl 0 rfl) ?_
            refine lv_if_ne (tgt := 79) hx hb dX5_put_60 (by decide) (fun c77 => ?_) (fun c77 => ?_)
            · have h := cz_ite_f c77 h
              refine lv_iconst (v := nI 0) hx hb dX5_put_79 (by decide) ?_
              refine lv_istore (lv' := [(4, .int (nI 0)), (7, .int (nI 1)), (6, .int v2), (0, .ref a0), (1, .long x1), (3, .int x3), (5, .int x5)]) hx hb dX5_put_80 hl (by decide) rfl (fun ls hl => ?_)
              refine lv_iload_n hx hb dX5_put_82 rfl (lv_at hl 5 rfl) ?_
              refine lv_iload hx hb dX5_put_83 (lv_at hl 1 rfl) ?_
              refine lv_if_eq (tgt := 92) hx hb dX5_put_85 (by decide) (fun c78 => ?_) (fun c78 => ?_)
              · have h := cz_ite_t c78 h
                refine lv_iconst (v := nI 1) hx hb dX5_put_92 (by decide) ?_
                refine lv_iadd hx hb dX5_put_93 ?_
                refine cz_nmi h (fun v79 h => ?_)
                refine lv_istore_n (lv' := [(3, .int v79), (4, .int (nI 0)), (7, .int (nI 1)), (6, .int v2), (0, .ref a0), (1, .long x1), (5, .int x5)]) hx hb dX5_put_94 rfl hl (by decide) rfl (fun ls hl => ?_)
                refine cz_nmL (v := x5 + nI 1) h (fun v80 e81 h => ?_)
                refine lv_iinc (v := v80) (lv' := [(5, .int v80), (3, .int v79), (4, .int (nI 0)), (7, .int (nI 1)), (6, .int v2), (0, .ref a0), (1, .long x1)]) hx hb dX5_put_95 hl (k := 6) rfl (by rw [e81]; rfl) (by decide) rfl (fun ls hl => ?_)
                refine lv_goto (tgt := 8) hx hb dX5_put_98 (by decide) ?_
                exact ih _ _ _ _ _ _ h hM (lv_sub hl [5, 6, 1, 2, 0] rfl)
              · have h := cz_ite_f c78 h
                refine lv_iconst (v := nI 0) hx hb dX5_put_88 (by decide) ?_
                refine lv_goto (tgt := 93) hx hb dX5_put_89 (by decide) ?_
                refine lv_iadd hx hb dX5_put_93 ?_
                refine cz_nmi h (fun v82 h => ?_)
                refine lv_istore_n (lv' := [(3, .int v82), (4, .int (nI 0)), (7, .int (nI 1)), (6, .int v2), (0, .ref a0), (1, .long x1), (5, .int x5)]) hx hb dX5_put_94 rfl hl (by decide) rfl (fun ls hl => ?_)
                refine cz_nmL (v := x5 + nI 1) h (fun v83 e84 h => ?_)
                refine lv_iinc (v := v83) (lv' := [(5, .int v83), (3, .int v82), (4, .int (nI 0)), (7, .int (nI 1)), (6, .int v2), (0, .ref a0), (1, .long x1)]) hx hb dX5_put_95 hl (k := 6) rfl (by rw [e84]; rfl) (by decide) rfl (fun ls hl => ?_)
                refine lv_goto (tgt := 8) hx hb dX5_put_98 (by decide) ?_
                exact ih _ _ _ _ _ _ h hM (lv_sub hl [5, 6, 1, 2, 0] rfl)
            · have h := cz_ite_t c77 h
              refine lv_iload hx hb dX5_put_63 (lv_at hl 1 rfl) ?_
              refine lv_bipush (v := nI 33) hx hb dX5_put_65 (by decide) ?_
              refine lv_bipush (v := nI 126) hx hb dX5_put_67 (by decide) ?_
              obtain ⟨v85, hq, h⟩ := cz_bd_t h
              refine cz_runS (rest := []) (As := [.int v2, .int (nI 33), .int (nI 126)]) X hM hl.1 (c_X5_in (l := l) (g := g) (b := b)  hq) mv_X5_in ml_X5_38 ⟨Nat.le_trans (Nat.le_of_ble_eq_true rfl) hRf, Nat.le_trans (Nat.le_of_ble_eq_true rfl) hRl⟩ rfl rfl (Nat.le_of_ble_eq_true rfl) dX5_put_69 (fun H locs hM => ?_)
              refine lv_if_ne (tgt := 79) hx hb dX5_put_72 (by decide) (fun c86 => ?_) (fun c86 => ?_)
              · have h := cz_ite_f c86 h
                refine lv_iconst (v := nI 0) hx hb dX5_put_79 (by decide) ?_
                refine lv_istore (lv' := [(4, .int (nI 0)), (7, .int (nI 1)), (6, .int v2), (0, .ref a0), (1, .long x1), (3, .int x3), (5, .int x5)]) hx hb dX5_put_80 hl (by decide) rfl (fun ls hl => ?_)
                refine lv_iload_n hx hb dX5_put_82 rfl (lv_at hl 5 rfl) ?_
                refine lv_iload hx hb dX5_put_83 (lv_at hl 1 rfl) ?_
                refine lv_if_eq (tgt := 92) hx hb dX5_put_85 (by decide) (fun c87 => ?_) (fun c87 => ?_)
                · have h := cz_ite_t c87 h
                  refine lv_iconst (v := nI 1) hx hb dX5_put_92 (by decide) ?_
                  refine lv_iadd hx hb dX5_put_93 ?_
                  refine cz_nmi h (fun v88 h => ?_)
                  refine lv_istore_n (lv' := [(3, .int v88), (4, .int (nI 0)), (7, .int (nI 1)), (6, .int v2), (0, .ref a0), (1, .long x1), (5, .int x5)]) hx hb dX5_put_94 rfl hl (by decide) rfl (fun ls hl => ?_)
                  refine cz_nmL (v := x5 + nI 1) h (fun v89 e90 h => ?_)
                  refine lv_iinc (v := v89) (lv' := [(5, .int v89), (3, .int v88), (4, .int (nI 0)), (7, .int (nI 1)), (6, .int v2), (0, .ref a0), (1, .long x1)]) hx hb dX5_put_95 hl (k := 6) rfl (by rw [e90]; rfl) (by decide) rfl (fun ls hl => ?_)
                  refine lv_goto (tgt := 8) hx hb dX5_put_98 (by decide) ?_
                  exact ih _ _ _ _ _ _ h hM (lv_sub hl [5, 6, 1, 2, 0] rfl)
                · have h := cz_ite_f c87 h
                  refine lv_iconst (v := nI 0) hx hb dX5_put_88 (by decide) ?_
                  refine lv_goto (tgt := 93) hx hb dX5_put_89 (by decide) ?_
                  refine lv_iadd hx hb dX5_put_93 ?_
                  refine cz_nmi h (fun v91 h => ?_)
                  refine lv_istore_n (lv' := [(3, .int v91), (4, .int (nI 0)), (7, .int (nI 1)), (6, .int v2), (0, .ref a0), (1, .long x1), (5, .int x5)]) hx hb dX5_put_94 rfl hl (by decide) rfl (fun ls hl => ?_)
                  refine cz_nmL (v := x5 + nI 1) h (fun v92 e93 h => ?_)
                  refine lv_iinc (v := v92) (lv' := [(5, .int v92), (3, .int v91), (4, .int (nI 0)), (7, .int (nI 1)), (6, .int v2), (0, .ref a0), (1, .long x1)]) hx hb dX5_put_95 hl (k := 6) rfl (by rw [e93]; rfl) (by decide) rfl (fun ls hl => ?_)
                  refine lv_goto (tgt := 8) hx hb dX5_put_98 (by decide) ?_
                  exact ih _ _ _ _ _ _ h hM (lv_sub hl [5, 6, 1, 2, 0] rfl)
              · have h := cz_ite_t c86 h
                refine lv_iconst (v := nI 1) hx hb dX5_put_75 (by decide) ?_
                refine lv_goto (tgt := 80) hx hb dX5_put_76 (by decide) ?_
                refine lv_istore (lv' := [(4, .int (nI 1)), (7, .int (nI 1)), (6, .int v2), (0, .ref a0), (1, .long x1), (3, .int x3), (5, .int x5)]) hx hb dX5_put_80 hl (by decide) rfl (fun ls hl => ?_)
                refine lv_iload_n hx hb dX5_put_82 rfl (lv_at hl 5 rfl) ?_
                refine lv_iload hx hb dX5_put_83 (lv_at hl 1 rfl) ?_
                refine lv_if_eq (tgt := 92) hx hb dX5_put_85 (by decide) (fun c94 => ?_) (fun c94 => ?_)
                · have h := cz_ite_t c94 h
                  refine lv_iconst (v := nI 1) hx hb dX5_put_92 (by decide) ?_
                  refine lv_iadd hx hb dX5_put_93 ?_
                  refine cz_nmi h (fun v95 h => ?_)
                  refine lv_istore_n (lv' := [(3, .int v95), (4, .int (nI 1)), (7, .int (nI 1)), (6, .int v2), (0, .ref a0), (1, .long x1), (5, .int x5)]) hx hb dX5_put_94 rfl hl (by decide) rfl (fun ls hl => ?_)
                  refine cz_nmL (v := x5 + nI 1) h (fun v96 e97 h => ?_)
                  refine lv_iinc (v := v96) (lv' := [(5, .int v96), (3, .int v95), (4, .int (nI 1)), (7, .int (nI 1)), (6, .int v2), (0, .ref a0), (1, .long x1)]) hx hb dX5_put_95 hl (k := 6) rfl (by rw [e97]; rfl) (by decide) rfl (fun ls hl => ?_)
                  refine lv_goto (tgt := 8) hx hb dX5_put_98 (by decide) ?_
                  exact ih _ _ _ _ _ _ h hM (lv_sub hl [5, 6, 1, 2, 0] rfl)
                · have h := cz_ite_f c94 h
                  refine lv_iconst (v := nI 0) hx hb dX5_put_88 (by decide) ?_
                  refine lv_goto (tgt := 93) hx hb dX5_put_89 (by decide) ?_
                  refine lv_iadd hx hb dX5_put_93 ?_
                  refine cz_nmi h (fun v98 h => ?_)
                  refine lv_istore_n (lv' := [(3, .int v98), (4, .int (nI 1)), (7, .int (nI 1)), (6, .int v2), (0, .ref a0), (1, .long x1), (5, .int x5)]) hx hb dX5_put_94 rfl hl (by decide) rfl (fun ls hl => ?_)
                  refine cz_nmL (v := x5 + nI 1) h (fun v99 e100 h => ?_)
                  refine lv_iinc (v := v99) (lv' := [(5, .int v99), (3, .int v98), (4, .int (nI 1)), (7, .int (nI 1)), (6, .int v2), (0, .ref a0), (1, .long x1)]) hx hb dX5_put_95 hl (k := 6) rfl (by rw [e100]; rfl) (by decide) rfl (fun ls hl => ?_)
                  refine lv_goto (tgt := 8) hx hb dX5_put_98 (by decide) ?_
                  exact ih _ _ _ _ _ _ h hM (lv_sub hl [5, 6, 1, 2, 0] rfl)
set_option maxHeartbeats 4000000 in
set_option maxRecDepth 100000 in
theorem w_X5_put_L126 {p : Program} {l : Launch} {e : Env} {R : Room} {s : State} {m : MethodId} {args : Array Value} {below : List Frame} {meth : Method} {c : Code} {g : cz_G} {b : Nat} (X : cz_X p s m args meth c cX5_put 8 RX5 g b (some .int)) (hRf : 1 ≤ R.frames) (hRl : 22 ≤ R.locals) {r0 : Int32} {M9 : cz_M} {a0 : Nat} {x1 : Int64} {x3 : Int32} (ka0 : cz_K b a0 5)
    (K : Int32 → cz_M → Option (Int32 × cz_M)) (hX : ∀ (x5 : Int32) (M : cz_M) (H : Heap) (locs : List Loc) (ls : Array Slot), K x5 M = some (r0, M9) → cz_WS g b M s H locs → lv_has ls 8 [(0, .ref a0), (1, .long x1), (3, .int x3), (5, .int x5)] → W p l e R s m args below meth c H locs 0 0 (MQ below (cz_Q g b (some (.int r0)) M9) args s 0 0 (fun q => b ≤ q)) (F0 m 166 ls [])) :
    ∀ (n : Nat) (x5 : Int32) (M : cz_M) (H : Heap) (locs : List Loc) (ls : Array Slot), cz_it2 (f_X5_put_L126 a0 x1 x3 K) n x5 M = some (r0, M9) → cz_WS g b M s H locs → lv_has ls 8 [(0, .ref a0), (1, .long x1), (3, .int x3), (5, .int x5)] → W p l e R s m args below meth c H locs 0 0 (MQ below (cz_Q g b (some (.int r0)) M9) args s 0 0 (fun q => b ≤ q)) (F0 m 126 ls []) := by
  obtain ⟨hx, hb, -, ho, ht, -⟩ := id X
  intro n
  induction n with
  | zero => intro x5 M H locs ls h; cases (show none = some _ from h)
  | succ n ih =>
    intro x5 M H locs ls h hM hl
    have h : f_X5_put_L126 a0 x1 x3 K (cz_it2 (f_X5_put_L126 a0 x1 x3 K) n) x5 M = some (r0, M9) := h
    rw [f_X5_put_L126] at h
    refine lv_iload hx hb dX5_put_126 (lv_at hl 3 rfl) ?_
    refine lv_iload_n hx hb dX5_put_128 rfl (lv_at hl 2 rfl) ?_
    refine lv_icmp_ge (tgt := 166) hx hb dX5_put_129 (by decide) (fun c106 => ?_) (fun c106 => ?_)
    · have h := cz_ite_t c106 h
      exact hX _ _ _ _ _ h hM (lv_sub hl [0, 1, 2, 3] rfl)
    · have h := cz_ite_f c106 h
      refine lv_aload_n hx hb dX5_put_132 rfl (lv_at hl 0 rfl) ?_
      refine cz_getR X hM ff_X5_6 ka0 lk_X5_26 dX5_put_133 (fun hk107 => ?_)
      refine lv_aload_n hx hb dX5_put_136 rfl (lv_at hl 0 rfl) ?_
      refine cz_getI X hM ff_X5_7 ka0 lk_X5_136 dX5_put_137 ?_
      refine lv_iload_n hx hb dX5_put_140 rfl (lv_at hl 2 rfl) ?_
      refine lv_iadd hx hb dX5_put_141 ?_
      refine lv_iconst (v := nI 1) hx hb dX5_put_142 (by decide) ?_
      refine lv_isub hx hb dX5_put_143 ?_
      refine lv_iload hx hb dX5_put_144 (lv_at hl 3 rfl) ?_
      refine lv_isub hx hb dX5_put_146 ?_
      refine lv_lload_n hx hb dX5_put_147 rfl (lv_at hl 1 rfl) ?_
      refine lv_bipush (v := nI 8) hx hb dX5_put_148 (by decide) ?_
      refine lv_iload hx hb dX5_put_150 (lv_at hl 3 rfl) ?_
      refine lv_imul hx hb dX5_put_152 ?_
      refine lv_lushr (v := cz_usl x1 ((nI 8) * x5)) hx hb dX5_put_153 rfl ?_
      refine lv_ldc2 hx hb ho (ht _ lc_X5_142) dX5_put_154 ?_
      refine lv_land hx hb dX5_put_157 ?_
      refine lv_l2i (v := Int64.toInt32 ((cz_usl x1 ((nI 8) * x5)) &&& (255 : Int64))) hx hb dX5_put_158 rfl ?_
      refine cz_iast (n := 60) X hM h hk107 (by decide) dX5_put_159 (fun M108 H locs h hM => ?_)
      refine cz_nmL (v := x5 + nI 1) h (fun v109 e110 h => ?_)
      refine lv_iinc (v := v109) (lv' := [(5, .int v109), (0, .ref a0), (1, .long x1), (3, .int x3)]) hx hb dX5_put_160 hl (k := 3) rfl (by rw [e110]; rfl) (by decide) rfl (fun ls hl => ?_)
      refine lv_goto (tgt := 126) hx hb dX5_put_163 (by decide) ?_
      exact ih _ _ _ _ _ h hM (lv_sub hl [1, 2, 3, 0] rfl)
set_option maxHeartbeats 4000000 in
set_option maxRecDepth 100000 in
theorem c_X5_put {l : Launch} {g : cz_G} {b : Nat} {M : cz_M} {r0 : Int32} {M9 : cz_M} {a : Nat} {x1 : Int64} (ka : cz_K b a 5) (h : f_X5_put M a x1 = some (r0, M9)) : cz_C l yX5_put cX5_put 8 (some .int) 1 22 g b [.ref a, .long x1] M (some (.int r0)) M9 := by
  refine cz_start (by decide) (Nat.le_of_ble_eq_true rfl) (fun p e s m args below meth c X H ls hM hl => ?_)
  have X : cz_X p s m args meth c cX5_put 8 RX5 g b (some .int) := X
  obtain ⟨hx, hb, -, ho, ht, -⟩ := id X
  have hRf : 1 ≤ ({ frames := 1, cells := 0, slots := 0, locals := 22 } : Room).frames := Nat.le_refl _
  have hRl : 22 ≤ ({ frames := 1, cells := 0, slots := 0, locals := 22 } : Room).locals := Nat.le_refl _
  have hl : lv_has ls 8 [(0, .ref a), (1, .long x1)] := hl
  rw [f_X5_put] at h
  refine lv_iconst (v := nI 0) hx hb dX5_put_0 (by decide) ?_
  refine lv_istore_n (lv' := [(3, .int (nI 0)), (0, .ref a), (1, .long x1)]) hx hb dX5_put_1 rfl hl (by decide) rfl (fun ls hl => ?_)
  refine lv_iconst (v := nI 0) hx hb dX5_put_2 (by decide) ?_
  refine lv_istore (lv' := [(4, .int (nI 0)), (3, .int (nI 0)), (0, .ref a), (1, .long x1)]) hx hb dX5_put_3 hl (by decide) rfl (fun ls hl => ?_)
  refine lv_iconst (v := nI 0) hx hb dX5_put_5 (by decide) ?_
  refine lv_istore (lv' := [(5, .int (nI 0)), (4, .int (nI 0)), (3, .int (nI 0)), (0, .ref a), (1, .long x1)]) hx hb dX5_put_6 hl (by decide) rfl (fun ls hl => ?_)
  refine w_X5_put_L8 X hRf hRl ka _ (fun x101 x102 x103 H locs ls h hM hl => ?_) _ _ _ _ _ _ _ h hM (lv_sub hl [3, 4, 2, 1, 0] rfl)
  refine lv_iload hx hb dX5_put_101 (lv_at hl 3 rfl) ?_
  refine lv_if_eq (tgt := 109) hx hb dX5_put_103 (by decide) (fun c104 => ?_) (fun c104 => ?_)
  · have h := cz_ite_t c104 h
    refine lv_aload_n hx hb dX5_put_109 rfl (lv_at hl 0 rfl) ?_
    refine cz_getI X hM ff_X5_7 ka lk_X5_136 dX5_put_110 ?_
    refine lv_iload_n hx hb dX5_put_113 rfl (lv_at hl 2 rfl) ?_
    refine lv_iadd hx hb dX5_put_114 ?_
    refine lv_bipush (v := nI 60) hx hb dX5_put_115 (by decide) ?_
    refine lv_icmp_le (tgt := 123) hx hb dX5_put_117 (by decide) (fun c105 => ?_) (fun c105 => ?_)
    · have h := cz_ite_t c105 h
      refine lv_iconst (v := nI 0) hx hb dX5_put_123 (by decide) ?_
      refine lv_istore (lv' := [(5, .int (nI 0)), (0, .ref a), (1, .long x1), (3, .int x101), (4, .int x102)]) hx hb dX5_put_124 hl (by decide) rfl (fun ls hl => ?_)
      refine w_X5_put_L126 X hRf hRl ka _ (fun x111 M112 H locs ls h hM hl => ?_) _ _ _ _ _ _ h hM (lv_sub hl [1, 2, 3, 0] rfl)
      refine lv_aload_n hx hb dX5_put_166 rfl (lv_at hl 0 rfl) ?_
      refine lv_dup hx hb dX5_put_167 rfl ?_
      refine cz_getI X hM ff_X5_7 ka lk_X5_136 dX5_put_168 ?_
      refine lv_iload_n hx hb dX5_put_171 rfl (lv_at hl 2 rfl) ?_
      refine lv_iadd hx hb dX5_put_172 ?_
      refine cz_putI X hM h ff_X5_7 ka lk_X5_136 dX5_put_173 (fun M113 H locs h hM => ?_)
      refine lv_aload_n hx hb dX5_put_176 rfl (lv_at hl 0 rfl) ?_
      refine cz_getI X hM ff_X5_7 ka lk_X5_136 dX5_put_177 ?_
      exact cz_reti X hM h rfl dX5_put_180
    · have h := cz_ite_f c105 h
      refine lv_bipush (v := -4) hx hb dX5_put_120 (by decide) ?_
      exact cz_reti X hM h rfl dX5_put_122
  · have h := cz_ite_f c104 h
    refine lv_bipush (v := -2) hx hb dX5_put_106 (by decide) ?_
    exact cz_reti X hM h rfl dX5_put_108
theorem mv_X5_wipe : cz_MV yX5_wipe cX5_wipe 2 (some .int) RX5 0 := ⟨mi_X5_wipe, ms_X5_wipe, mc_X5_wipe, ini_X5, by decide +kernel⟩
set_option maxHeartbeats 4000000 in
set_option maxRecDepth 100000 in
theorem c_X5_wipe {l : Launch} {g : cz_G} {b : Nat} {M : cz_M} {r0 : Int32} {M9 : cz_M} {a : Nat} (ka : cz_K b a 5) (h : f_X5_wipe M a = some (r0, M9)) : cz_C l yX5_wipe cX5_wipe 2 (some .int) 0 0 g b [.ref a] M (some (.int r0)) M9 := by
  refine cz_start (by decide) (Nat.le_of_ble_eq_true rfl) (fun p e s m args below meth c X H ls hM hl => ?_)
  have X : cz_X p s m args meth c cX5_wipe 2 RX5 g b (some .int) := X
  obtain ⟨hx, hb, -, ho, ht, -⟩ := id X
  have hRf : 0 ≤ ({ frames := 0, cells := 0, slots := 0, locals := 0 } : Room).frames := Nat.le_refl _
  have hRl : 0 ≤ ({ frames := 0, cells := 0, slots := 0, locals := 0 } : Room).locals := Nat.le_refl _
  have hl : lv_has ls 2 [(0, .ref a)] := hl
  rw [f_X5_wipe] at h
  refine lv_aload_n hx hb dX5_wipe_0 rfl (lv_at hl 0 rfl) ?_
  refine cz_getI X hM ff_X5_7 ka lk_X5_136 dX5_wipe_1 ?_
  refine cz_nmi h (fun v1 h => ?_)
  refine lv_istore_n (lv' := [(1, .int v1), (0, .ref a)]) hx hb dX5_wipe_4 rfl hl (by decide) rfl (fun ls hl => ?_)
  refine lv_aload_n hx hb dX5_wipe_5 rfl (lv_at hl 1 rfl) ?_
  refine lv_iconst (v := nI 0) hx hb dX5_wipe_6 (by decide) ?_
  refine cz_putI X hM h ff_X5_7 ka lk_X5_136 dX5_wipe_7 (fun M2 H locs h hM => ?_)
  refine lv_iload_n hx hb dX5_wipe_10 rfl (lv_at hl 0 rfl) ?_
  exact cz_reti X hM h rfl dX5_wipe_11
theorem mv_X5_next : cz_MV yX5_next cX5_next 2 (some .int) RX5 1 := ⟨mi_X5_next, ms_X5_next, mc_X5_next, ini_X5, by decide +kernel⟩
set_option maxHeartbeats 4000000 in
set_option maxRecDepth 100000 in
theorem c_X5_next {l : Launch} {g : cz_G} {b : Nat} {M : cz_M} {r0 : Int32} {a : Nat} {x1 : Int32} (ka : cz_K b a 5) (h : f_X5_next M a x1 = some r0) : cz_C l yX5_next cX5_next 2 (some .int) 0 0 g b [.ref a, .int x1] M (some (.int r0)) M := by
  refine cz_start (by decide) (Nat.le_of_ble_eq_true rfl) (fun p e s m args below meth c X H ls hM hl => ?_)
  have X : cz_X p s m args meth c cX5_next 2 RX5 g b (some .int) := X
  obtain ⟨hx, hb, -, ho, ht, -⟩ := id X
  have hRf : 0 ≤ ({ frames := 0, cells := 0, slots := 0, locals := 0 } : Room).frames := Nat.le_refl _
  have hRl : 0 ≤ ({ frames := 0, cells := 0, slots := 0, locals := 0 } : Room).locals := Nat.le_refl _
  have hl : lv_has ls 2 [(0, .ref a), (1, .int x1)] := hl
  rw [f_X5_next] at h
  refine lv_iload_n hx hb dX5_next_0 rfl (lv_at hl 1 rfl) ?_
  refine lv_aload_n hx hb dX5_next_1 rfl (lv_at hl 0 rfl) ?_
  refine cz_getI X hM ff_X5_7 ka lk_X5_136 dX5_next_2 ?_
  refine lv_icmp_ge (tgt := 17) hx hb dX5_next_5 (by decide) (fun c1 => ?_) (fun c1 => ?_)
  · have h := cz_ite_t c1 h
    refine lv_iconst (v := nI 0) hx hb dX5_next_17 (by decide) ?_
    exact cz_retp X hM h rfl dX5_next_18
  · have h := cz_ite_f c1 h
    refine lv_aload_n hx hb dX5_next_8 rfl (lv_at hl 0 rfl) ?_
    refine cz_getR X hM ff_X5_6 ka lk_X5_26 dX5_next_9 (fun hk2 => ?_)
    refine lv_iload_n hx hb dX5_next_12 rfl (lv_at hl 1 rfl) ?_
    refine cz_iald (n := 60) X hM h hk2 (by decide) dX5_next_13 (fun h => ?_)
    refine lv_goto (tgt := 18) hx hb dX5_next_14 (by decide) ?_
    exact cz_retp X hM h rfl dX5_next_18
theorem mv_X5_isWordAt : cz_MV yX5_isWordAt cX5_isWordAt 2 (some .boolean) RX5 1 := ⟨mi_X5_isWordAt, ms_X5_isWordAt, mc_X5_isWordAt, ini_X5, by decide +kernel⟩
set_option maxHeartbeats 4000000 in
set_option maxRecDepth 100000 in
theorem c_X5_isWordAt {l : Launch} {g : cz_G} {b : Nat} {M : cz_M} {r0 : Int32} {a : Nat} {x1 : Int32} (ka : cz_K b a 5) (h : f_X5_isWordAt M a x1 = some r0) : cz_C l yX5_isWordAt cX5_isWordAt 2 (some .boolean) 1 22 g b [.ref a, .int x1] M (some (.int r0)) M := by
  refine cz_start (by decide) (Nat.le_of_ble_eq_true rfl) (fun p e s m args below meth c X H ls hM hl => ?_)
  have X : cz_X p s m args meth c cX5_isWordAt 2 RX5 g b (some .boolean) := X
  obtain ⟨hx, hb, -, ho, ht, -⟩ := id X
  have hRf : 1 ≤ ({ frames := 1, cells := 0, slots := 0, locals := 22 } : Room).frames := Nat.le_refl _
  have hRl : 22 ≤ ({ frames := 1, cells := 0, slots := 0, locals := 22 } : Room).locals := Nat.le_refl _
  have hl : lv_has ls 2 [(0, .ref a), (1, .int x1)] := hl
  rw [f_X5_isWordAt] at h
  refine lv_aload_n hx hb dX5_isWordAt_0 rfl (lv_at hl 0 rfl) ?_
  refine lv_iload_n hx hb dX5_isWordAt_1 rfl (lv_at hl 1 rfl) ?_
  obtain ⟨v1, hq, h⟩ := cz_bd_t h
  refine cz_runV (rest := []) (As := [.int x1]) (T := TX5) (N0 := 12) X hM hl.1 (c_X5_next (l := l) (g := g) (b := b) ka hq) mv_X5_next rfl (by decide) ka ml_X5_144 ⟨Nat.le_trans (Nat.le_of_ble_eq_true rfl) hRf, Nat.le_trans (Nat.le_of_ble_eq_true rfl) hRl⟩ rfl rfl (Nat.le_of_ble_eq_true rfl) dX5_isWordAt_2 (fun H locs hM => ?_)
  refine lv_bipush (v := nI 97) hx hb dX5_isWordAt_5 (by decide) ?_
  refine lv_bipush (v := nI 122) hx hb dX5_isWordAt_7 (by decide) ?_
  obtain ⟨v2, hq, h⟩ := cz_bd_t h
  refine cz_runS (rest := []) (As := [.int v1, .int (nI 97), .int (nI 122)]) X hM hl.1 (c_X5_in (l := l) (g := g) (b := b)  hq) mv_X5_in ml_X5_38 ⟨Nat.le_trans (Nat.le_of_ble_eq_true rfl) hRf, Nat.le_trans (Nat.le_of_ble_eq_true rfl) hRl⟩ rfl rfl (Nat.le_of_ble_eq_true rfl) dX5_isWordAt_9 (fun H locs hM => ?_)
  exact cz_retz X hM h dX5_isWordAt_12
theorem mv_X5_right : cz_MV yX5_right cX5_right 3 (some .int) RX5 1 := ⟨mi_X5_right, ms_X5_right, mc_X5_right, ini_X5, by decide +kernel⟩
set_option maxHeartbeats 4000000 in
set_option maxRecDepth 100000 in
theorem w_X5_right_L45 {p : Program} {l : Launch} {e : Env} {R : Room} {s : State} {m : MethodId} {args : Array Value} {below : List Frame} {meth : Method} {c : Code} {g : cz_G} {b : Nat} (X : cz_X p s m args meth c cX5_right 3 RX5 g b (some .int)) (hRf : 2 ≤ R.frames) (hRl : 43 ≤ R.locals) {r0 : Int32} {a0 : Nat} {x1 : Int32} {M : cz_M} (ka0 : cz_K b a0 5)
    (K : Int32 → Option (Int32)) (hX : ∀ (x2 : Int32) (H : Heap) (locs : List Loc) (ls : Array Slot), K x2 = some r0 → cz_WS g b M s H locs → lv_has ls 3 [(0, .ref a0), (1, .int x1), (2, .int x2)] → W p l e R s m args below meth c H locs 0 0 (MQ below (cz_Q g b (some (.int r0)) M) args s 0 0 (fun q => b ≤ q)) (F0 m 67 ls [])) :
    ∀ (n : Nat) (x2 : Int32) (H : Heap) (locs : List Loc) (ls : Array Slot), cz_it1 (f_X5_right_L45 a0 x1 M K) n x2 = some r0 → cz_WS g b M s H locs → lv_has ls 3 [(0, .ref a0), (1, .int x1), (2, .int x2)] → W p l e R s m args below meth c H locs 0 0 (MQ below (cz_Q g b (some (.int r0)) M) args s 0 0 (fun q => b ≤ q)) (F0 m 45 ls []) := by
  obtain ⟨hx, hb, -, ho, ht, -⟩ := id X
  intro n
  induction n with
  | zero => intro x2 H locs ls h; cases (show none = some _ from h)
  | succ n ih =>
    intro x2 H locs ls h hM hl
    have h : f_X5_right_L45 a0 x1 M K (cz_it1 (f_X5_right_L45 a0 x1 M K) n) x2 = some r0 := h
    rw [f_X5_right_L45] at h
    refine lv_iload_n hx hb dX5_right_45 rfl (lv_at hl 2 rfl) ?_
    refine lv_bipush (v := nI 10) hx hb dX5_right_46 (by decide) ?_
    refine lv_icmp_ge (tgt := 67) hx hb dX5_right_48 (by decide) (fun c6 => ?_) (fun c6 => ?_)
    · have h := cz_ite_t c6 h
      exact hX _ _ _ _ h hM (lv_sub hl [0, 1, 2] rfl)
    · have h := cz_ite_f c6 h
      refine lv_aload_n hx hb dX5_right_51 rfl (lv_at hl 0 rfl) ?_
      refine lv_iload_n hx hb dX5_right_52 rfl (lv_at hl 1 rfl) ?_
      refine lv_iload_n hx hb dX5_right_53 rfl (lv_at hl 2 rfl) ?_
      refine lv_iadd hx hb dX5_right_54 ?_
      obtain ⟨v7, hq, h⟩ := cz_bd_t h
      refine cz_runV (rest := []) (As := [.int (x1 + x2)]) (T := TX5) (N0 := 12) X hM hl.1 (c_X5_isWordAt (l := l) (g := g) (b := b) ka0 hq) mv_X5_isWordAt rfl (by decide) ka0 ml_X5_147 ⟨Nat.le_trans (Nat.le_of_ble_eq_true rfl) hRf, Nat.le_trans (Nat.le_of_ble_eq_true rfl) hRl⟩ rfl rfl (Nat.le_of_ble_eq_true rfl) dX5_right_55 (fun H locs hM => ?_)
      refine lv_if_eq (tgt := 67) hx hb dX5_right_58 (by decide) (fun c8 => ?_) (fun c8 => ?_)
      · have h := cz_ite_t c8 h
        exact hX _ _ _ _ h hM (lv_sub hl [0, 1, 2] rfl)
      · have h := cz_ite_f c8 h
        refine cz_nmL (v := x2 + nI 1) h (fun v9 e10 h => ?_)
        refine lv_iinc (v := v9) (lv' := [(2, .int v9), (0, .ref a0), (1, .int x1)]) hx hb dX5_right_61 hl (k := 2) rfl (by rw [e10]; rfl) (by decide) rfl (fun ls hl => ?_)
        refine lv_goto (tgt := 45) hx hb dX5_right_64 (by decide) ?_
        exact ih _ _ _ _ h hM (lv_sub hl [1, 2, 0] rfl)
set_option maxHeartbeats 4000000 in
set_option maxRecDepth 100000 in
theorem c_X5_right {l : Launch} {g : cz_G} {b : Nat} {M : cz_M} {r0 : Int32} {a : Nat} {x1 : Int32} (ka : cz_K b a 5) (h : f_X5_right M a x1 = some r0) : cz_C l yX5_right cX5_right 3 (some .int) 2 43 g b [.ref a, .int x1] M (some (.int r0)) M := by
  refine cz_start (by decide) (Nat.le_of_ble_eq_true rfl) (fun p e s m args below meth c X H ls hM hl => ?_)
  have X : cz_X p s m args meth c cX5_right 3 RX5 g b (some .int) := X
  obtain ⟨hx, hb, -, ho, ht, -⟩ := id X
  have hRf : 2 ≤ ({ frames := 2, cells := 0, slots := 0, locals := 43 } : Room).frames := Nat.le_refl _
  have hRl : 43 ≤ ({ frames := 2, cells := 0, slots := 0, locals := 43 } : Room).locals := Nat.le_refl _
  have hl : lv_has ls 3 [(0, .ref a), (1, .int x1)] := hl
  rw [f_X5_right] at h
  refine lv_aload_n hx hb dX5_right_0 rfl (lv_at hl 0 rfl) ?_
  refine lv_iload_n hx hb dX5_right_1 rfl (lv_at hl 1 rfl) ?_
  obtain ⟨v1, hq, h⟩ := cz_bd_t h
  refine cz_runV (rest := []) (As := [.int x1]) (T := TX5) (N0 := 12) X hM hl.1 (c_X5_next (l := l) (g := g) (b := b) ka hq) mv_X5_next rfl (by decide) ka ml_X5_144 ⟨Nat.le_trans (Nat.le_of_ble_eq_true rfl) hRf, Nat.le_trans (Nat.le_of_ble_eq_true rfl) hRl⟩ rfl rfl (Nat.le_of_ble_eq_true rfl) dX5_right_2 (fun H locs hM => ?_)
  refine lv_bipush (v := nI 48) hx hb dX5_right_5 (by decide) ?_
  refine lv_bipush (v := nI 52) hx hb dX5_right_7 (by decide) ?_
  obtain ⟨v2, hq, h⟩ := cz_bd_t h
  refine cz_runS (rest := []) (As := [.int v1, .int (nI 48), .int (nI 52)]) X hM hl.1 (c_X5_in (l := l) (g := g) (b := b)  hq) mv_X5_in ml_X5_38 ⟨Nat.le_trans (Nat.le_of_ble_eq_true rfl) hRf, Nat.le_trans (Nat.le_of_ble_eq_true rfl) hRl⟩ rfl rfl (Nat.le_of_ble_eq_true rfl) dX5_right_9 (fun H locs hM => ?_)
  refine lv_if_ne (tgt := 17) hx hb dX5_right_12 (by decide) (fun c3 => ?_) (fun c3 => ?_)
  · have h := cz_ite_f c3 h
    refine lv_aload_n hx hb dX5_right_17 rfl (lv_at hl 0 rfl) ?_
    refine lv_iload_n hx hb dX5_right_18 rfl (lv_at hl 1 rfl) ?_
    refine lv_iconst (v := nI 1) hx hb dX5_right_19 (by decide) ?_
    refine lv_iadd hx hb dX5_right_20 ?_
    obtain ⟨v4, hq, h⟩ := cz_bd_t h
    refine cz_runV (rest := []) (As := [.int (x1 + (nI 1))]) (T := TX5) (N0 := 12) X hM hl.1 (c_X5_next (l := l) (g := g) (b := b) ka hq) mv_X5_next rfl (by decide) ka ml_X5_144 ⟨Nat.le_trans (Nat.le_of_ble_eq_true rfl) hRf, Nat.le_trans (Nat.le_of_ble_eq_true rfl) hRl⟩ rfl rfl (Nat.le_of_ble_eq_true rfl) dX5_right_21 (fun H locs hM => ?_)
    refine lv_bipush (v := nI 62) hx hb dX5_right_24 (by decide) ?_
    refine lv_icmp_eq (tgt := 43) hx hb dX5_right_26 (by decide) (fun c5 => ?_) (fun c5 => ?_)
    · have h := cz_ite_t c5 h
      refine lv_iconst (v := nI 2) hx hb dX5_right_43 (by decide) ?_
      refine lv_istore_n (lv' := [(2, .int (nI 2)), (0, .ref a), (1, .int x1)]) hx hb dX5_right_44 rfl hl (by decide) rfl (fun ls hl => ?_)
      refine w_X5_right_L45 X hRf hRl ka _ (fun x11 H locs ls h hM hl => ?_) _ _ _ _ _ h hM (lv_sub hl [1, 2, 0] rfl)
      refine lv_iload_n hx hb dX5_right_67 rfl (lv_at hl 2 rfl) ?_
      exact cz_retp X hM h rfl dX5_right_68
    · have h := cz_ite_f c5 h
      refine lv_aload_n hx hb dX5_right_29 rfl (lv_at hl 0 rfl) ?_
      refine lv_iload_n hx hb dX5_right_30 rfl (lv_at hl 1 rfl) ?_
      refine lv_iconst (v := nI 1) hx hb dX5_right_31 (by decide) ?_
      refine lv_iadd hx hb dX5_right_32 ?_
      obtain ⟨v12, hq, h⟩ := cz_bd_t h
      refine cz_runV (rest := []) (As := [.int (x1 + (nI 1))]) (T := TX5) (N0 := 12) X hM hl.1 (c_X5_next (l := l) (g := g) (b := b) ka hq) mv_X5_next rfl (by decide) ka ml_X5_144 ⟨Nat.le_trans (Nat.le_of_ble_eq_true rfl) hRf, Nat.le_trans (Nat.le_of_ble_eq_true rfl) hRl⟩ rfl rfl (Nat.le_of_ble_eq_true rfl) dX5_right_33 (fun H locs hM => ?_)
      refine lv_bipush (v := nI 60) hx hb dX5_right_36 (by decide) ?_
      refine lv_icmp_eq (tgt := 43) hx hb dX5_right_38 (by decide) (fun c13 => ?_) (fun c13 => ?_)
      · have h := cz_ite_t c13 h
        refine lv_iconst (v := nI 2) hx hb dX5_right_43 (by decide) ?_
        refine lv_istore_n (lv' := [(2, .int (nI 2)), (0, .ref a), (1, .int x1)]) hx hb dX5_right_44 rfl hl (by decide) rfl (fun ls hl => ?_)
        refine w_X5_right_L45 X hRf hRl ka _ (fun x14 H locs ls h hM hl => ?_) _ _ _ _ _ h hM (lv_sub hl [1, 2, 0] rfl)
        refine lv_iload_n hx hb dX5_right_67 rfl (lv_at hl 2 rfl) ?_
        exact cz_retp X hM h rfl dX5_right_68
      · have h := cz_ite_f c13 h
        refine lv_iconst (v := nI 1) hx hb dX5_right_41 (by decide) ?_
        exact cz_retp X hM h rfl dX5_right_42
  · have h := cz_ite_t c3 h
    refine lv_iconst (v := nI 0) hx hb dX5_right_15 (by decide) ?_
    exact cz_retp X hM h rfl dX5_right_16
theorem mv_X5_wrong : cz_MV yX5_wrong cX5_wrong 4 (some .int) RX5 0 := ⟨mi_X5_wrong, ms_X5_wrong, mc_X5_wrong, ini_X5, by decide +kernel⟩
set_option maxHeartbeats 4000000 in
set_option maxRecDepth 100000 in
theorem w_X5_wrong_L9 {p : Program} {l : Launch} {e : Env} {R : Room} {s : State} {m : MethodId} {args : Array Value} {below : List Frame} {meth : Method} {c : Code} {g : cz_G} {b : Nat} (X : cz_X p s m args meth c cX5_wrong 4 RX5 g b (some .int)) (hRf : 3 ≤ R.frames) (hRl : 65 ≤ R.locals) {r0 : Int32} {M9 : cz_M} {a0 : Nat} (ka0 : cz_K b a0 5)
    (K : Int32 → Int32 → cz_M → Option (Int32 × cz_M)) (hX : ∀ (x1 : Int32) (x2 : Int32) (M : cz_M) (H : Heap) (locs : List Loc) (ls : Array Slot), K x1 x2 M = some (r0, M9) → cz_WS g b M s H locs → lv_has ls 4 [(0, .ref a0), (1, .int x1), (2, .int x2)] → W p l e R s m args below meth c H locs 0 0 (MQ below (cz_Q g b (some (.int r0)) M9) args s 0 0 (fun q => b ≤ q)) (F0 m 86 ls [])) :
    ∀ (n : Nat) (x1 : Int32) (x2 : Int32) (M : cz_M) (H : Heap) (locs : List Loc) (ls : Array Slot), cz_it3 (f_X5_wrong_L9 a0 K) n x1 x2 M = some (r0, M9) → cz_WS g b M s H locs → lv_has ls 4 [(0, .ref a0), (1, .int x1), (2, .int x2)] → W p l e R s m args below meth c H locs 0 0 (MQ below (cz_Q g b (some (.int r0)) M9) args s 0 0 (fun q => b ≤ q)) (F0 m 9 ls []) := by
  obtain ⟨hx, hb, -, ho, ht, -⟩ := id X
  intro n
  induction n with
  | zero => intro x1 x2 M H locs ls h; cases (show none = some _ from h)
  | succ n ih =>
    intro x1 x2 M H locs ls h hM hl
    have h : f_X5_wrong_L9 a0 K (cz_it3 (f_X5_wrong_L9 a0 K) n) x1 x2 M = some (r0, M9) := h
    rw [f_X5_wrong_L9] at h
    refine lv_iload_n hx hb dX5_wrong_9 rfl (lv_at hl 2 rfl) ?_
    refine lv_if_eq (tgt := 86) hx hb dX5_wrong_10 (by decide) (fun c2 => ?_) (fun c2 => ?_)
    · have h := cz_ite_t c2 h
      exact hX _ _ _ _ _ _ h hM (lv_sub hl [0, 1, 2] rfl)
    · have h := cz_ite_f c2 h
      refine lv_aload_n hx hb dX5_wrong_13 rfl (lv_at hl 0 rfl) ?_
      refine lv_iload_n hx hb dX5_wrong_14 rfl (lv_at hl 1 rfl) ?_
      obtain ⟨v3, hq, h⟩ := cz_bd_t h
      refine cz_runV (rest := []) (As := [.int x1]) (T := TX5) (N0 := 12) X hM hl.1 (c_X5_right (l := l) (g := g) (b := b) ka0 hq) mv_X5_right rfl (by decide) ka0 ml_X5_153 ⟨Nat.le_trans (Nat.le_of_ble_eq_true rfl) hRf, Nat.le_trans (Nat.le_of_ble_eq_true rfl) hRl⟩ rfl rfl (Nat.le_of_ble_eq_true rfl) dX5_wrong_15 (fun H locs hM => ?_)
      refine lv_istore_n (lv' := [(3, .int v3), (0, .ref a0), (1, .int x1), (2, .int x2)]) hx hb dX5_wrong_18 rfl hl (by decide) rfl (fun ls hl => ?_)
      refine lv_iload_n hx hb dX5_wrong_19 rfl (lv_at hl 2 rfl) ?_
      refine lv_iload_n hx hb dX5_wrong_20 rfl (lv_at hl 0 rfl) ?_
      refine lv_iadd hx hb dX5_wrong_21 ?_
      refine cz_nmi h (fun v4 h => ?_)
      refine lv_istore_n (lv' := [(1, .int v4), (3, .int v3), (0, .ref a0), (2, .int x2)]) hx hb dX5_wrong_22 rfl hl (by decide) rfl (fun ls hl => ?_)
      refine lv_iload_n hx hb dX5_wrong_23 rfl (lv_at hl 1 rfl) ?_
      refine lv_iconst (v := nI 3) hx hb dX5_wrong_24 (by decide) ?_
      refine lv_icmp_ge (tgt := 30) hx hb dX5_wrong_25 (by decide) (fun c5 => ?_) (fun c5 => ?_)
      · have h := cz_ite_t c5 h
        refine lv_aload_n hx hb dX5_wrong_30 rfl (lv_at hl 2 rfl) ?_
        refine lv_dup hx hb dX5_wrong_31 rfl ?_
        refine cz_getI X hM ff_X5_11 ka0 lk_X5_150 dX5_wrong_32 ?_
        refine lv_iconst (v := nI 1) hx hb dX5_wrong_35 (by decide) ?_
        refine lv_iadd hx hb dX5_wrong_36 ?_
        refine cz_putI X hM h ff_X5_11 ka0 lk_X5_150 dX5_wrong_37 (fun M6 H locs h hM => ?_)
        refine lv_iload_n hx hb dX5_wrong_40 rfl (lv_at hl 0 rfl) ?_
        refine lv_aload_n hx hb dX5_wrong_41 rfl (lv_at hl 2 rfl) ?_
        refine cz_getI X hM ff_X5_7 ka0 lk_X5_136 dX5_wrong_42 ?_
        refine lv_icmp_ge (tgt := 52) hx hb dX5_wrong_45 (by decide) (fun c7 => ?_) (fun c7 => ?_)
        · have h := cz_ite_t c7 h
          refine lv_iconst (v := nI 0) hx hb dX5_wrong_52 (by decide) ?_
          refine lv_istore_n (lv' := [(2, .int (nI 0)), (1, .int v4), (3, .int v3), (0, .ref a0)]) hx hb dX5_wrong_53 rfl hl (by decide) rfl (fun ls hl => ?_)
          refine lv_iload_n hx hb dX5_wrong_54 rfl (lv_at hl 0 rfl) ?_
          refine lv_if_eq (tgt := 71) hx hb dX5_wrong_55 (by decide) (fun c8 => ?_) (fun c8 => ?_)
          · have h := cz_ite_t c8 h
            refine lv_iload_n hx hb dX5_wrong_71 rfl (lv_at hl 1 rfl) ?_
            refine lv_iload_n hx hb dX5_wrong_72 rfl (lv_at hl 0 rfl) ?_
            refine lv_if_eq (tgt := 80) hx hb dX5_wrong_73 (by decide) (fun c9 => ?_) (fun c9 => ?_)
            · have h := cz_ite_t c9 h
              refine lv_iconst (v := nI 0) hx hb dX5_wrong_80 (by decide) ?_
              refine lv_iadd hx hb dX5_wrong_81 ?_
              refine cz_nmi h (fun v10 h => ?_)
              refine lv_istore_n (lv' := [(1, .int v10), (2, .int (nI 0)), (3, .int v3), (0, .ref a0)]) hx hb dX5_wrong_82 rfl hl (by decide) rfl (fun ls hl => ?_)
              refine lv_goto (tgt := 9) hx hb dX5_wrong_83 (by decide) ?_
              exact ih _ _ _ _ _ _ h hM (lv_sub hl [3, 0, 1] rfl)
            · have h := cz_ite_f c9 h
              refine lv_iconst (v := nI 1) hx hb dX5_wrong_76 (by decide) ?_
              refine lv_goto (tgt := 81) hx hb dX5_wrong_77 (by decide) ?_
              refine lv_iadd hx hb dX5_wrong_81 ?_
              refine cz_nmi h (fun v11 h => ?_)
              refine lv_istore_n (lv' := [(1, .int v11), (2, .int (nI 0)), (3, .int v3), (0, .ref a0)]) hx hb dX5_wrong_82 rfl hl (by decide) rfl (fun ls hl => ?_)
              refine lv_goto (tgt := 9) hx hb dX5_wrong_83 (by decide) ?_
              exact ih _ _ _ _ _ _ h hM (lv_sub hl [3, 0, 1] rfl)
          · have h := cz_ite_f c8 h
            refine lv_aload_n hx hb dX5_wrong_58 rfl (lv_at hl 3 rfl) ?_
            refine cz_getR X hM ff_X5_6 ka0 lk_X5_26 dX5_wrong_59 (fun hk12 => ?_)
            refine lv_iload_n hx hb dX5_wrong_62 rfl (lv_at hl 1 rfl) ?_
            refine cz_iald (n := 60) X hM h hk12 (by decide) dX5_wrong_63 (fun h => ?_)
            refine lv_bipush (v := nI 44) hx hb dX5_wrong_64 (by decide) ?_
            refine lv_icmp_eq (tgt := 71) hx hb dX5_wrong_66 (by decide) (fun c13 => ?_) (fun c13 => ?_)
            · have h := cz_ite_t c13 h
              refine lv_iload_n hx hb dX5_wrong_71 rfl (lv_at hl 1 rfl) ?_
              refine lv_iload_n hx hb dX5_wrong_72 rfl (lv_at hl 0 rfl) ?_
              refine lv_if_eq (tgt := 80) hx hb dX5_wrong_73 (by decide) (fun c14 => ?_) (fun c14 => ?_)
              · have h := cz_ite_t c14 h
                refine lv_iconst (v := nI 0) hx hb dX5_wrong_80 (by decide) ?_
                refine lv_iadd hx hb dX5_wrong_81 ?_
                refine cz_nmi h (fun v15 h => ?_)
                refine lv_istore_n (lv' := [(1, .int v15), (2, .int (nI 0)), (3, .int v3), (0, .ref a0)]) hx hb dX5_wrong_82 rfl hl (by decide) rfl (fun ls hl => ?_)
                refine lv_goto (tgt := 9) hx hb dX5_wrong_83 (by decide) ?_
                exact ih _ _ _ _ _ _ h hM (lv_sub hl [3, 0, 1] rfl)
              · have h := cz_ite_f c14 h
                refine lv_iconst (v := nI 1) hx hb dX5_wrong_76 (by decide) ?_
                refine lv_goto (tgt := 81) hx hb dX5_wrong_77 (by decide) ?_
                refine lv_iadd hx hb dX5_wrong_81 ?_
                refine cz_nmi h (fun v16 h => ?_)
                refine lv_istore_n (lv' := [(1, .int v16), (2, .int (nI 0)), (3, .int v3), (0, .ref a0)]) hx hb dX5_wrong_82 rfl hl (by decide) rfl (fun ls hl => ?_)
                refine lv_goto (tgt := 9) hx hb dX5_wrong_83 (by decide) ?_
                exact ih _ _ _ _ _ _ h hM (lv_sub hl [3, 0, 1] rfl)
            · have h := cz_ite_f c13 h
              refine lv_iload_n hx hb dX5_wrong_69 rfl (lv_at hl 1 rfl) ?_
              exact cz_reti X hM h rfl dX5_wrong_70
        · have h := cz_ite_f c7 h
          refine lv_iconst (v := nI 1) hx hb dX5_wrong_48 (by decide) ?_
          refine lv_goto (tgt := 53) hx hb dX5_wrong_49 (by decide) ?_
          refine lv_istore_n (lv' := [(2, .int (nI 1)), (1, .int v4), (3, .int v3), (0, .ref a0)]) hx hb dX5_wrong_53 rfl hl (by decide) rfl (fun ls hl => ?_)
          refine lv_iload_n hx hb dX5_wrong_54 rfl (lv_at hl 0 rfl) ?_
          refine lv_if_eq (tgt := 71) hx hb dX5_wrong_55 (by decide) (fun c17 => ?_) (fun c17 => ?_)
          · have h := cz_ite_t c17 h
            refine lv_iload_n hx hb dX5_wrong_71 rfl (lv_at hl 1 rfl) ?_
            refine lv_iload_n hx hb dX5_wrong_72 rfl (lv_at hl 0 rfl) ?_
            refine lv_if_eq (tgt := 80) hx hb dX5_wrong_73 (by decide) (fun c18 => ?_) (fun c18 => ?_)
            · have h := cz_ite_t c18 h
              refine lv_iconst (v := nI 0) hx hb dX5_wrong_80 (by decide) ?_
              refine lv_iadd hx hb dX5_wrong_81 ?_
              refine cz_nmi h (fun v19 h => ?_)
              refine lv_istore_n (lv' := [(1, .int v19), (2, .int (nI 1)), (3, .int v3), (0, .ref a0)]) hx hb dX5_wrong_82 rfl hl (by decide) rfl (fun ls hl => ?_)
              refine lv_goto (tgt := 9) hx hb dX5_wrong_83 (by decide) ?_
              exact ih _ _ _ _ _ _ h hM (lv_sub hl [3, 0, 1] rfl)
            · have h := cz_ite_f c18 h
              refine lv_iconst (v := nI 1) hx hb dX5_wrong_76 (by decide) ?_
              refine lv_goto (tgt := 81) hx hb dX5_wrong_77 (by decide) ?_
              refine lv_iadd hx hb dX5_wrong_81 ?_
              refine cz_nmi h (fun v20 h => ?_)
              refine lv_istore_n (lv' := [(1, .int v20), (2, .int (nI 1)), (3, .int v3), (0, .ref a0)]) hx hb dX5_wrong_82 rfl hl (by decide) rfl (fun ls hl => ?_)
              refine lv_goto (tgt := 9) hx hb dX5_wrong_83 (by decide) ?_
              exact ih _ _ _ _ _ _ h hM (lv_sub hl [3, 0, 1] rfl)
          · have h := cz_ite_f c17 h
            refine lv_aload_n hx hb dX5_wrong_58 rfl (lv_at hl 3 rfl) ?_
            refine cz_getR X hM ff_X5_6 ka0 lk_X5_26 dX5_wrong_59 (fun hk21 => ?_)
            refine lv_iload_n hx hb dX5_wrong_62 rfl (lv_at hl 1 rfl) ?_
            refine cz_iald (n := 60) X hM h hk21 (by decide) dX5_wrong_63 (fun h => ?_)
            refine lv_bipush (v := nI 44) hx hb dX5_wrong_64 (by decide) ?_
            refine lv_icmp_eq (tgt := 71) hx hb dX5_wrong_66 (by decide) (fun c22 => ?_) (fun c22 => ?_)
            · have h := cz_ite_t c22 h
              refine lv_iload_n hx hb dX5_wrong_71 rfl (lv_at hl 1 rfl) ?_
              refine lv_iload_n hx hb dX5_wrong_72 rfl (lv_at hl 0 rfl) ?_
              refine lv_if_eq (tgt := 80) hx hb dX5_wrong_73 (by decide) (fun c23 => ?_) (fun c23 => ?_)
              · have h := cz_ite_t c23 h
                refine lv_iconst (v := nI 0) hx hb dX5_wrong_80 (by decide) ?_
                refine lv_iadd hx hb dX5_wrong_81 ?_
                refine cz_nmi h (fun v24 h => ?_)
                refine lv_istore_n (lv' := [(1, .int v24), (2, .int (nI 1)), (3, .int v3), (0, .ref a0)]) hx hb dX5_wrong_82 rfl hl (by decide) rfl (fun ls hl => ?_)
                refine lv_goto (tgt := 9) hx hb dX5_wrong_83 (by decide) ?_
                exact ih _ _ _ _ _ _ h hM (lv_sub hl [3, 0, 1] rfl)
              · have h := cz_ite_f c23 h
                refine lv_iconst (v := nI 1) hx hb dX5_wrong_76 (by decide) ?_
                refine lv_goto (tgt := 81) hx hb dX5_wrong_77 (by decide) ?_
                refine lv_iadd hx hb dX5_wrong_81 ?_
                refine cz_nmi h (fun v25 h => ?_)
                refine lv_istore_n (lv' := [(1, .int v25), (2, .int (nI 1)), (3, .int v3), (0, .ref a0)]) hx hb dX5_wrong_82 rfl hl (by decide) rfl (fun ls hl => ?_)
                refine lv_goto (tgt := 9) hx hb dX5_wrong_83 (by decide) ?_
                exact ih _ _ _ _ _ _ h hM (lv_sub hl [3, 0, 1] rfl)
            · have h := cz_ite_f c22 h
              refine lv_iload_n hx hb dX5_wrong_69 rfl (lv_at hl 1 rfl) ?_
              exact cz_reti X hM h rfl dX5_wrong_70
      · have h := cz_ite_f c5 h
        refine lv_iload_n hx hb dX5_wrong_28 rfl (lv_at hl 0 rfl) ?_
        exact cz_reti X hM h rfl dX5_wrong_29
set_option maxHeartbeats 4000000 in
set_option maxRecDepth 100000 in
theorem c_X5_wrong {l : Launch} {g : cz_G} {b : Nat} {M : cz_M} {r0 : Int32} {M9 : cz_M} {a : Nat} (ka : cz_K b a 5) (h : f_X5_wrong M a = some (r0, M9)) : cz_C l yX5_wrong cX5_wrong 4 (some .int) 3 65 g b [.ref a] M (some (.int r0)) M9 := by
  refine cz_start (by decide) (Nat.le_of_ble_eq_true rfl) (fun p e s m args below meth c X H ls hM hl => ?_)
  have X : cz_X p s m args meth c cX5_wrong 4 RX5 g b (some .int) := X
  obtain ⟨hx, hb, -, ho, ht, -⟩ := id X
  have hRf : 3 ≤ ({ frames := 3, cells := 0, slots := 0, locals := 65 } : Room).frames := Nat.le_refl _
  have hRl : 65 ≤ ({ frames := 3, cells := 0, slots := 0, locals := 65 } : Room).locals := Nat.le_refl _
  have hl : lv_has ls 4 [(0, .ref a)] := hl
  rw [f_X5_wrong] at h
  refine lv_iconst (v := nI 0) hx hb dX5_wrong_0 (by decide) ?_
  refine lv_istore_n (lv' := [(1, .int (nI 0)), (0, .ref a)]) hx hb dX5_wrong_1 rfl hl (by decide) rfl (fun ls hl => ?_)
  refine lv_aload_n hx hb dX5_wrong_2 rfl (lv_at hl 1 rfl) ?_
  refine lv_iconst (v := nI 0) hx hb dX5_wrong_3 (by decide) ?_
  refine cz_putI X hM h ff_X5_11 ka lk_X5_150 dX5_wrong_4 (fun M1 H locs h hM => ?_)
  refine lv_iconst (v := nI 1) hx hb dX5_wrong_7 (by decide) ?_
  refine lv_istore_n (lv' := [(2, .int (nI 1)), (1, .int (nI 0)), (0, .ref a)]) hx hb dX5_wrong_8 rfl hl (by decide) rfl (fun ls hl => ?_)
  refine w_X5_wrong_L9 X hRf hRl ka _ (fun x26 x27 M28 H locs ls h hM hl => ?_) _ _ _ _ _ _ _ h hM (lv_sub hl [2, 1, 0] rfl)
  refine lv_bipush (v := -6) hx hb dX5_wrong_86 (by decide) ?_
  exact cz_reti X hM h rfl dX5_wrong_88
theorem mv_X5_fault : cz_MV yX5_fault cX5_fault 1 (some .int) RX5 0 := ⟨mi_X5_fault, ms_X5_fault, mc_X5_fault, ini_X5, by decide +kernel⟩
set_option maxHeartbeats 4000000 in
set_option maxRecDepth 100000 in
theorem c_X5_fault {l : Launch} {g : cz_G} {b : Nat} {M : cz_M} {r0 : Int32} {M9 : cz_M} {a : Nat} (ka : cz_K b a 5) (h : f_X5_fault M a = some (r0, M9)) : cz_C l yX5_fault cX5_fault 1 (some .int) 4 88 g b [.ref a] M (some (.int r0)) M9 := by
  refine cz_start (by decide) (Nat.le_of_ble_eq_true rfl) (fun p e s m args below meth c X H ls hM hl => ?_)
  have X : cz_X p s m args meth c cX5_fault 1 RX5 g b (some .int) := X
  obtain ⟨hx, hb, -, ho, ht, -⟩ := id X
  have hRf : 4 ≤ ({ frames := 4, cells := 0, slots := 0, locals := 88 } : Room).frames := Nat.le_refl _
  have hRl : 88 ≤ ({ frames := 4, cells := 0, slots := 0, locals := 88 } : Room).locals := Nat.le_refl _
  have hl : lv_has ls 1 [(0, .ref a)] := hl
  rw [f_X5_fault] at h
  refine lv_aload_n hx hb dX5_fault_0 rfl (lv_at hl 0 rfl) ?_
  obtain ⟨v2, M1, hq, h⟩ := cz_b2_t h
  refine cz_runV (rest := []) (As := []) (T := TX5) (N0 := 12) X hM hl.1 (c_X5_wrong (l := l) (g := g) (b := b) ka hq) mv_X5_wrong rfl (by decide) ka ml_X5_156 ⟨Nat.le_trans (Nat.le_of_ble_eq_true rfl) hRf, Nat.le_trans (Nat.le_of_ble_eq_true rfl) hRl⟩ rfl rfl (Nat.le_of_ble_eq_true rfl) dX5_fault_1 (fun H locs hM => ?_)
  exact cz_reti X hM h rfl dX5_fault_4
theorem mv_X5_writes : cz_MV yX5_writes cX5_writes 7 none RX5 2 := ⟨mi_X5_writes, ms_X5_writes, mc_X5_writes, ini_X5, by decide +kernel⟩
set_option maxHeartbeats 4000000 in
set_option maxRecDepth 100000 in
theorem w_X5_writes_L39 {p : Program} {l : Launch} {e : Env} {R : Room} {s : State} {m : MethodId} {args : Array Value} {below : List Frame} {meth : Method} {c : Code} {g : cz_G} {b : Nat} (X : cz_X p s m args meth c cX5_writes 7 RX5 g b none) (hRf : 1 ≤ R.frames) (hRl : 21 ≤ R.locals) {M9 : cz_M} {a0 : Nat} {x1 : Int32} {x2 : Int32} {x3 : Int32} {x4 : Int32} (ka0 : cz_K b a0 5)
    (K : Int32 → cz_M → Option (cz_M)) (hX : ∀ (x5 : Int32) (M : cz_M) (H : Heap) (locs : List Loc) (ls : Array Slot), K x5 M = some M9 → cz_WS g b M s H locs → lv_has ls 7 [(0, .ref a0), (1, .int x1), (2, .int x2), (3, .int x3), (4, .int x4), (5, .int x5)] → W p l e R s m args below meth c H locs 0 0 (MQ below (cz_Q g b none M9) args s 0 0 (fun q => b ≤ q)) (F0 m 64 ls [])) :
    ∀ (n : Nat) (x5 : Int32) (M : cz_M) (H : Heap) (locs : List Loc) (ls : Array Slot), cz_it2 (f_X5_writes_L39 a0 x1 x2 x3 x4 K) n x5 M = some M9 → cz_WS g b M s H locs → lv_has ls 7 [(0, .ref a0), (1, .int x1), (2, .int x2), (3, .int x3), (4, .int x4), (5, .int x5)] → W p l e R s m args below meth c H locs 0 0 (MQ below (cz_Q g b none M9) args s 0 0 (fun q => b ≤ q)) (F0 m 39 ls []) := by
  obtain ⟨hx, hb, -, ho, ht, -⟩ := id X
  intro n
  induction n with
  | zero => intro x5 M H locs ls h; cases (show none = some _ from h)
  | succ n ih =>
    intro x5 M H locs ls h hM hl
    have h : f_X5_writes_L39 a0 x1 x2 x3 x4 K (cz_it2 (f_X5_writes_L39 a0 x1 x2 x3 x4 K) n) x5 M = some M9 := h
    rw [f_X5_writes_L39] at h
    refine lv_iload hx hb dX5_writes_39 (lv_at hl 5 rfl) ?_
    refine lv_bipush (v := nI 11) hx hb dX5_writes_41 (by decide) ?_
    refine lv_icmp_ge (tgt := 64) hx hb dX5_writes_43 (by decide) (fun c7 => ?_) (fun c7 => ?_)
    · have h := cz_ite_t c7 h
      exact hX _ _ _ _ _ h hM (lv_sub hl [0, 1, 2, 3, 4, 5] rfl)
    · have h := cz_ite_f c7 h
      refine lv_aload_n hx hb dX5_writes_46 rfl (lv_at hl 0 rfl) ?_
      refine cz_getR X hM ff_X5_0 ka0 lk_X5_7 dX5_writes_47 (fun hk8 => ?_)
      refine lv_iload_n hx hb dX5_writes_50 rfl (lv_at hl 3 rfl) ?_
      refine lv_iload hx hb dX5_writes_51 (lv_at hl 5 rfl) ?_
      obtain ⟨v9, hq, h⟩ := cz_bd_t h
      refine cz_runS (rest := [.ref (a0 + 1)]) (As := [.int x3, .int x5]) X hM hl.1 (c_X5_at (l := l) (g := g) (b := b)  hq) mv_X5_at ml_X5_42 ⟨Nat.le_trans (Nat.le_of_ble_eq_true rfl) hRf, Nat.le_trans (Nat.le_of_ble_eq_true rfl) hRl⟩ rfl rfl (Nat.le_of_ble_eq_true rfl) dX5_writes_53 (fun H locs hM => ?_)
      refine lv_iconst (v := nI 0) hx hb dX5_writes_56 (by decide) ?_
      refine cz_iast (n := 551) X hM h hk8 (by decide) dX5_writes_57 (fun M10 H locs h hM => ?_)
      refine cz_nmL (v := x5 + nI 1) h (fun v11 e12 h => ?_)
      refine lv_iinc (v := v11) (lv' := [(5, .int v11), (0, .ref a0), (1, .int x1), (2, .int x2), (3, .int x3), (4, .int x4)]) hx hb dX5_writes_58 hl (k := 5) rfl (by rw [e12]; rfl) (by decide) rfl (fun ls hl => ?_)
      refine lv_goto (tgt := 39) hx hb dX5_writes_61 (by decide) ?_
      exact ih _ _ _ _ _ h hM (lv_sub hl [1, 2, 3, 4, 5, 0] rfl)
set_option maxHeartbeats 4000000 in
set_option maxRecDepth 100000 in
theorem w_X5_writes_L154 {p : Program} {l : Launch} {e : Env} {R : Room} {s : State} {m : MethodId} {args : Array Value} {below : List Frame} {meth : Method} {c : Code} {g : cz_G} {b : Nat} (X : cz_X p s m args meth c cX5_writes 7 RX5 g b none) (hRf : 1 ≤ R.frames) (hRl : 21 ≤ R.locals) {M9 : cz_M} {a0 : Nat} {x1 : Int32} {x3 : Int32} {x4 : Int32} (ka0 : cz_K b a0 5)
    (K : Int32 → cz_M → Option (cz_M)) (hX : ∀ (x5 : Int32) (M : cz_M) (H : Heap) (locs : List Loc) (ls : Array Slot), K x5 M = some M9 → cz_WS g b M s H locs → lv_has ls 7 [(0, .ref a0), (1, .int x1), (3, .int x3), (4, .int x4), (5, .int x5)] → W p l e R s m args below meth c H locs 0 0 (MQ below (cz_Q g b none M9) args s 0 0 (fun q => b ≤ q)) (F0 m 209 ls [])) :
    ∀ (n : Nat) (x5 : Int32) (M : cz_M) (H : Heap) (locs : List Loc) (ls : Array Slot), cz_it2 (f_X5_writes_L154 a0 x1 x3 x4 K) n x5 M = some M9 → cz_WS g b M s H locs → lv_has ls 7 [(0, .ref a0), (1, .int x1), (3, .int x3), (4, .int x4), (5, .int x5)] → W p l e R s m args below meth c H locs 0 0 (MQ below (cz_Q g b none M9) args s 0 0 (fun q => b ≤ q)) (F0 m 154 ls []) := by
  obtain ⟨hx, hb, -, ho, ht, -⟩ := id X
  intro n
  induction n with
  | zero => intro x5 M H locs ls h; cases (show none = some _ from h)
  | succ n ih =>
    intro x5 M H locs ls h hM hl
    have h : f_X5_writes_L154 a0 x1 x3 x4 K (cz_it2 (f_X5_writes_L154 a0 x1 x3 x4 K) n) x5 M = some M9 := h
    rw [f_X5_writes_L154] at h
    refine lv_iload hx hb dX5_writes_154 (lv_at hl 4 rfl) ?_
    refine lv_if_lt (tgt := 209) hx hb dX5_writes_156 (by decide) (fun c36 => ?_) (fun c36 => ?_)
    · have h := cz_ite_t c36 h
      exact hX _ _ _ _ _ h hM (lv_sub hl [0, 1, 2, 3, 4] rfl)
    · have h := cz_ite_f c36 h
      refine lv_iload_n hx hb dX5_writes_159 rfl (lv_at hl 2 rfl) ?_
      refine lv_bipush (v := nI 9) hx hb dX5_writes_160 (by decide) ?_
      refine lv_iload hx hb dX5_writes_162 (lv_at hl 4 rfl) ?_
      refine lv_iconst (v := nI 4) hx hb dX5_writes_164 (by decide) ?_
      refine lv_idiv hx hb dX5_writes_165 (by decide) ?_
      refine lv_iadd hx hb dX5_writes_166 ?_
      obtain ⟨v37, hq, h⟩ := cz_bd_t h
      refine cz_runS (rest := []) (As := [.int x3, .int ((nI 9) + (x5 / (nI 4)))]) X hM hl.1 (c_X5_at (l := l) (g := g) (b := b)  hq) mv_X5_at ml_X5_42 ⟨Nat.le_trans (Nat.le_of_ble_eq_true rfl) hRf, Nat.le_trans (Nat.le_of_ble_eq_true rfl) hRl⟩ rfl rfl (Nat.le_of_ble_eq_true rfl) dX5_writes_167 (fun H locs hM => ?_)
      refine lv_istore (lv' := [(6, .int v37), (0, .ref a0), (1, .int x1), (3, .int x3), (4, .int x4), (5, .int x5)]) hx hb dX5_writes_170 hl (by decide) rfl (fun ls hl => ?_)
      refine lv_aload_n hx hb dX5_writes_172 rfl (lv_at hl 1 rfl) ?_
      refine cz_getR X hM ff_X5_0 ka0 lk_X5_7 dX5_writes_173 (fun hk38 => ?_)
      refine lv_iload hx hb dX5_writes_176 (lv_at hl 0 rfl) ?_
      refine lv_bipush (v := nI 26) hx hb dX5_writes_178 (by decide) ?_
      refine lv_aload_n hx hb dX5_writes_180 rfl (lv_at hl 1 rfl) ?_
      refine cz_getR X hM ff_X5_0 ka0 lk_X5_7 dX5_writes_181 (fun hk39 => ?_)
      refine lv_iload hx hb dX5_writes_184 (lv_at hl 0 rfl) ?_
      refine cz_iald (n := 551) X hM h hk39 (by decide) dX5_writes_186 (fun h => ?_)
      refine lv_imul hx hb dX5_writes_187 ?_
      refine lv_aload_n hx hb dX5_writes_188 rfl (lv_at hl 1 rfl) ?_
      refine lv_iload_n hx hb dX5_writes_189 rfl (lv_at hl 2 rfl) ?_
      refine lv_iconst (v := nI 2) hx hb dX5_writes_190 (by decide) ?_
      refine lv_iadd hx hb dX5_writes_191 ?_
      refine lv_iload hx hb dX5_writes_192 (lv_at hl 5 rfl) ?_
      refine lv_iadd hx hb dX5_writes_194 ?_
      obtain ⟨v40, hq, h⟩ := cz_bd_t h
      refine cz_runV (rest := [.int ((nI 26) * (M.1 (a0 + 1) (Int32.toNatClampNeg v37))), .int v37, .ref (a0 + 1)]) (As := [.int ((x1 + (nI 2)) + x5)]) (T := TX5) (N0 := 12) X hM hl.1 (c_X5_next (l := l) (g := g) (b := b) ka0 hq) mv_X5_next rfl (by decide) ka0 ml_X5_144 ⟨Nat.le_trans (Nat.le_of_ble_eq_true rfl) hRf, Nat.le_trans (Nat.le_of_ble_eq_true rfl) hRl⟩ rfl rfl (Nat.le_of_ble_eq_true rfl) dX5_writes_195 (fun H locs hM => ?_)
      refine lv_iadd hx hb dX5_writes_198 ?_
      refine lv_bipush (v := nI 97) hx hb dX5_writes_199 (by decide) ?_
      refine lv_isub hx hb dX5_writes_201 ?_
      refine cz_iast (n := 551) X hM h hk38 (by decide) dX5_writes_202 (fun M41 H locs h hM => ?_)
      refine cz_nmL (v := x5 + (-1)) h (fun v42 e43 h => ?_)
      refine lv_iinc (v := v42) (lv' := [(5, .int v42), (6, .int v37), (0, .ref a0), (1, .int x1), (3, .int x3), (4, .int x4)]) hx hb dX5_writes_203 hl (k := 5) rfl (by rw [e43]; rfl) (by decide) rfl (fun ls hl => ?_)
      refine lv_goto (tgt := 154) hx hb dX5_writes_206 (by decide) ?_
      exact ih _ _ _ _ _ h hM (lv_sub hl [2, 3, 4, 5, 0] rfl)
set_option maxHeartbeats 4000000 in
set_option maxRecDepth 100000 in
theorem c_X5_writes {l : Launch} {g : cz_G} {b : Nat} {M : cz_M} {M9 : cz_M} {a : Nat} {x1 : Int32} {x2 : Int32} (ka : cz_K b a 5) (h : f_X5_writes M a x1 x2 = some M9) : cz_C l yX5_writes cX5_writes 7 none 1 21 g b [.ref a, .int x1, .int x2] M none M9 := by
  refine cz_start (by decide) (Nat.le_of_ble_eq_true rfl) (fun p e s m args below meth c X H ls hM hl => ?_)
  have X : cz_X p s m args meth c cX5_writes 7 RX5 g b none := X
  obtain ⟨hx, hb, -, ho, ht, -⟩ := id X
  have hRf : 1 ≤ ({ frames := 1, cells := 0, slots := 0, locals := 21 } : Room).frames := Nat.le_refl _
  have hRl : 21 ≤ ({ frames := 1, cells := 0, slots := 0, locals := 21 } : Room).locals := Nat.le_refl _
  have hl : lv_has ls 7 [(0, .ref a), (1, .int x1), (2, .int x2)] := hl
  rw [f_X5_writes] at h
  refine lv_aload_n hx hb dX5_writes_0 rfl (lv_at hl 0 rfl) ?_
  refine cz_getR X hM ff_X5_0 ka lk_X5_7 dX5_writes_1 (fun hk1 => ?_)
  refine lv_iconst (v := nI 4) hx hb dX5_writes_4 (by decide) ?_
  refine cz_iald (n := 551) X hM h hk1 (by decide) dX5_writes_5 (fun h => ?_)
  refine cz_nmi h (fun v2 h => ?_)
  refine lv_istore_n (lv' := [(3, .int v2), (0, .ref a), (1, .int x1), (2, .int x2)]) hx hb dX5_writes_6 rfl hl (by decide) rfl (fun ls hl => ?_)
  refine lv_aload_n hx hb dX5_writes_7 rfl (lv_at hl 1 rfl) ?_
  refine lv_iload_n hx hb dX5_writes_8 rfl (lv_at hl 2 rfl) ?_
  refine lv_iconst (v := nI 1) hx hb dX5_writes_9 (by decide) ?_
  refine lv_iadd hx hb dX5_writes_10 ?_
  obtain ⟨v3, hq, h⟩ := cz_bd_t h
  refine cz_runV (rest := []) (As := [.int (x1 + (nI 1))]) (T := TX5) (N0 := 12) X hM hl.1 (c_X5_next (l := l) (g := g) (b := b) ka hq) mv_X5_next rfl (by decide) ka ml_X5_144 ⟨Nat.le_trans (Nat.le_of_ble_eq_true rfl) hRf, Nat.le_trans (Nat.le_of_ble_eq_true rfl) hRl⟩ rfl rfl (Nat.le_of_ble_eq_true rfl) dX5_writes_11 (fun H locs hM => ?_)
  refine lv_bipush (v := nI 62) hx hb dX5_writes_14 (by decide) ?_
  refine lv_icmp_ne (tgt := 23) hx hb dX5_writes_16 (by decide) (fun c4 => ?_) (fun c4 => ?_)
  · have h := cz_ite_f c4 h
    refine lv_iconst (v := nI 1) hx hb dX5_writes_23 (by decide) ?_
    refine lv_istore (lv' := [(4, .int (nI 1)), (3, .int v2), (0, .ref a), (1, .int x1), (2, .int x2)]) hx hb dX5_writes_24 hl (by decide) rfl (fun ls hl => ?_)
    refine lv_aload_n hx hb dX5_writes_26 rfl (lv_at hl 2 rfl) ?_
    refine cz_getR X hM ff_X5_0 ka lk_X5_7 dX5_writes_27 (fun hk5 => ?_)
    refine lv_iconst (v := nI 4) hx hb dX5_writes_30 (by decide) ?_
    refine lv_dup2_11 hx hb dX5_writes_31 rfl rfl ?_
    refine cz_iald (n := 551) X hM h hk5 (by decide) dX5_writes_32 (fun h => ?_)
    refine lv_iconst (v := nI 1) hx hb dX5_writes_33 (by decide) ?_
    refine lv_iadd hx hb dX5_writes_34 ?_
    refine cz_iast (n := 551) X hM h hk5 (by decide) dX5_writes_35 (fun M6 H locs h hM => ?_)
    refine lv_iconst (v := nI 0) hx hb dX5_writes_36 (by decide) ?_
    refine lv_istore (lv' := [(5, .int (nI 0)), (4, .int (nI 1)), (3, .int v2), (0, .ref a), (1, .int x1), (2, .int x2)]) hx hb dX5_writes_37 hl (by decide) rfl (fun ls hl => ?_)
    refine w_X5_writes_L39 X hRf hRl ka _ (fun x13 M14 H locs ls h hM hl => ?_) _ _ _ _ _ _ h hM (lv_sub hl [3, 4, 5, 2, 1, 0] rfl)
    refine lv_aload_n hx hb dX5_writes_64 rfl (lv_at hl 0 rfl) ?_
    refine cz_getR X hM ff_X5_0 ka lk_X5_7 dX5_writes_65 (fun hk15 => ?_)
    refine lv_iload_n hx hb dX5_writes_68 rfl (lv_at hl 3 rfl) ?_
    refine lv_iconst (v := nI 0) hx hb dX5_writes_69 (by decide) ?_
    obtain ⟨v16, hq, h⟩ := cz_bd_t h
    refine cz_runS (rest := [.ref (a + 1)]) (As := [.int v2, .int (nI 0)]) X hM hl.1 (c_X5_at (l := l) (g := g) (b := b)  hq) mv_X5_at ml_X5_42 ⟨Nat.le_trans (Nat.le_of_ble_eq_true rfl) hRf, Nat.le_trans (Nat.le_of_ble_eq_true rfl) hRl⟩ rfl rfl (Nat.le_of_ble_eq_true rfl) dX5_writes_70 (fun H locs hM => ?_)
    refine lv_aload_n hx hb dX5_writes_73 rfl (lv_at hl 0 rfl) ?_
    refine lv_iload_n hx hb dX5_writes_74 rfl (lv_at hl 1 rfl) ?_
    obtain ⟨v17, hq, h⟩ := cz_bd_t h
    refine cz_runV (rest := [.int v16, .ref (a + 1)]) (As := [.int x1]) (T := TX5) (N0 := 12) X hM hl.1 (c_X5_next (l := l) (g := g) (b := b) ka hq) mv_X5_next rfl (by decide) ka ml_X5_144 ⟨Nat.le_trans (Nat.le_of_ble_eq_true rfl) hRf, Nat.le_trans (Nat.le_of_ble_eq_true rfl) hRl⟩ rfl rfl (Nat.le_of_ble_eq_true rfl) dX5_writes_75 (fun H locs hM => ?_)
    refine lv_bipush (v := nI 48) hx hb dX5_writes_78 (by decide) ?_
    refine lv_isub hx hb dX5_writes_80 ?_
    refine cz_iast (n := 551) X hM h hk15 (by decide) dX5_writes_81 (fun M18 H locs h hM => ?_)
    refine lv_aload_n hx hb dX5_writes_82 rfl (lv_at hl 0 rfl) ?_
    refine cz_getR X hM ff_X5_0 ka lk_X5_7 dX5_writes_83 (fun hk19 => ?_)
    refine lv_iload_n hx hb dX5_writes_86 rfl (lv_at hl 3 rfl) ?_
    refine lv_iconst (v := nI 1) hx hb dX5_writes_87 (by decide) ?_
    obtain ⟨v20, hq, h⟩ := cz_bd_t h
    refine cz_runS (rest := [.ref (a + 1)]) (As := [.int v2, .int (nI 1)]) X hM hl.1 (c_X5_at (l := l) (g := g) (b := b)  hq) mv_X5_at ml_X5_42 ⟨Nat.le_trans (Nat.le_of_ble_eq_true rfl) hRf, Nat.le_trans (Nat.le_of_ble_eq_true rfl) hRl⟩ rfl rfl (Nat.le_of_ble_eq_true rfl) dX5_writes_88 (fun H locs hM => ?_)
    refine lv_iload hx hb dX5_writes_91 (lv_at hl 4 rfl) ?_
    refine cz_iast (n := 551) X hM h hk19 (by decide) dX5_writes_93 (fun M21 H locs h hM => ?_)
    refine lv_aload_n hx hb dX5_writes_94 rfl (lv_at hl 0 rfl) ?_
    refine cz_getR X hM ff_X5_0 ka lk_X5_7 dX5_writes_95 (fun hk22 => ?_)
    refine lv_iload_n hx hb dX5_writes_98 rfl (lv_at hl 3 rfl) ?_
    refine lv_iconst (v := nI 3) hx hb dX5_writes_99 (by decide) ?_
    obtain ⟨v23, hq, h⟩ := cz_bd_t h
    refine cz_runS (rest := [.ref (a + 1)]) (As := [.int v2, .int (nI 3)]) X hM hl.1 (c_X5_at (l := l) (g := g) (b := b)  hq) mv_X5_at ml_X5_42 ⟨Nat.le_trans (Nat.le_of_ble_eq_true rfl) hRf, Nat.le_trans (Nat.le_of_ble_eq_true rfl) hRl⟩ rfl rfl (Nat.le_of_ble_eq_true rfl) dX5_writes_100 (fun H locs hM => ?_)
    refine lv_aload_n hx hb dX5_writes_103 rfl (lv_at hl 0 rfl) ?_
    refine cz_getR X hM ff_X5_0 ka lk_X5_7 dX5_writes_104 (fun hk24 => ?_)
    refine lv_iconst (v := nI 3) hx hb dX5_writes_107 (by decide) ?_
    refine cz_iald (n := 551) X hM h hk24 (by decide) dX5_writes_108 (fun h => ?_)
    refine cz_iast (n := 551) X hM h hk22 (by decide) dX5_writes_109 (fun M25 H locs h hM => ?_)
    refine lv_aload_n hx hb dX5_writes_110 rfl (lv_at hl 0 rfl) ?_
    refine cz_getR X hM ff_X5_0 ka lk_X5_7 dX5_writes_111 (fun hk26 => ?_)
    refine lv_iload_n hx hb dX5_writes_114 rfl (lv_at hl 3 rfl) ?_
    refine lv_iconst (v := nI 4) hx hb dX5_writes_115 (by decide) ?_
    obtain ⟨v27, hq, h⟩ := cz_bd_t h
    refine cz_runS (rest := [.ref (a + 1)]) (As := [.int v2, .int (nI 4)]) X hM hl.1 (c_X5_at (l := l) (g := g) (b := b)  hq) mv_X5_at ml_X5_42 ⟨Nat.le_trans (Nat.le_of_ble_eq_true rfl) hRf, Nat.le_trans (Nat.le_of_ble_eq_true rfl) hRl⟩ rfl rfl (Nat.le_of_ble_eq_true rfl) dX5_writes_116 (fun H locs hM => ?_)
    refine lv_bipush (v := -6) hx hb dX5_writes_119 (by decide) ?_
    refine cz_iast (n := 551) X hM h hk26 (by decide) dX5_writes_121 (fun M28 H locs h hM => ?_)
    refine lv_aload_n hx hb dX5_writes_122 rfl (lv_at hl 0 rfl) ?_
    refine cz_getR X hM ff_X5_0 ka lk_X5_7 dX5_writes_123 (fun hk29 => ?_)
    refine lv_iload_n hx hb dX5_writes_126 rfl (lv_at hl 3 rfl) ?_
    refine lv_bipush (v := nI 7) hx hb dX5_writes_127 (by decide) ?_
    obtain ⟨v30, hq, h⟩ := cz_bd_t h
    refine cz_runS (rest := [.ref (a + 1)]) (As := [.int v2, .int (nI 7)]) X hM hl.1 (c_X5_at (l := l) (g := g) (b := b)  hq) mv_X5_at ml_X5_42 ⟨Nat.le_trans (Nat.le_of_ble_eq_true rfl) hRf, Nat.le_trans (Nat.le_of_ble_eq_true rfl) hRl⟩ rfl rfl (Nat.le_of_ble_eq_true rfl) dX5_writes_129 (fun H locs hM => ?_)
    refine lv_bipush (v := -6) hx hb dX5_writes_132 (by decide) ?_
    refine cz_iast (n := 551) X hM h hk29 (by decide) dX5_writes_134 (fun M31 H locs h hM => ?_)
    refine lv_aload_n hx hb dX5_writes_135 rfl (lv_at hl 0 rfl) ?_
    refine cz_getR X hM ff_X5_0 ka lk_X5_7 dX5_writes_136 (fun hk32 => ?_)
    refine lv_iload_n hx hb dX5_writes_139 rfl (lv_at hl 3 rfl) ?_
    refine lv_bipush (v := nI 8) hx hb dX5_writes_140 (by decide) ?_
    obtain ⟨v33, hq, h⟩ := cz_bd_t h
    refine cz_runS (rest := [.ref (a + 1)]) (As := [.int v2, .int (nI 8)]) X hM hl.1 (c_X5_at (l := l) (g := g) (b := b)  hq) mv_X5_at ml_X5_42 ⟨Nat.le_trans (Nat.le_of_ble_eq_true rfl) hRf, Nat.le_trans (Nat.le_of_ble_eq_true rfl) hRl⟩ rfl rfl (Nat.le_of_ble_eq_true rfl) dX5_writes_142 (fun H locs hM => ?_)
    refine lv_iload_n hx hb dX5_writes_145 rfl (lv_at hl 2 rfl) ?_
    refine lv_iconst (v := nI 2) hx hb dX5_writes_146 (by decide) ?_
    refine lv_isub hx hb dX5_writes_147 ?_
    refine cz_iast (n := 551) X hM h hk32 (by decide) dX5_writes_148 (fun M34 H locs h hM => ?_)
    refine lv_iload_n hx hb dX5_writes_149 rfl (lv_at hl 2 rfl) ?_
    refine lv_iconst (v := nI 3) hx hb dX5_writes_150 (by decide) ?_
    refine lv_isub hx hb dX5_writes_151 ?_
    refine cz_nmi h (fun v35 h => ?_)
    refine lv_istore (lv' := [(5, .int v35), (0, .ref a), (1, .int x1), (2, .int x2), (3, .int v2), (4, .int (nI 1))]) hx hb dX5_writes_152 hl (by decide) rfl (fun ls hl => ?_)
    refine w_X5_writes_L154 X hRf hRl ka _ (fun x44 M45 H locs ls h hM hl => ?_) _ _ _ _ _ _ h hM (lv_sub hl [1, 2, 4, 5, 0] rfl)
    refine lv_aload_n hx hb dX5_writes_209 rfl (lv_at hl 0 rfl) ?_
    refine cz_getR X hM ff_X5_0 ka lk_X5_7 dX5_writes_210 (fun hk46 => ?_)
    refine lv_iload hx hb dX5_writes_213 (lv_at hl 3 rfl) ?_
    refine lv_aload_n hx hb dX5_writes_215 rfl (lv_at hl 0 rfl) ?_
    refine cz_getR X hM ff_X5_0 ka lk_X5_7 dX5_writes_216 (fun hk47 => ?_)
    refine lv_bipush (v := nI 29) hx hb dX5_writes_219 (by decide) ?_
    refine lv_iload hx hb dX5_writes_221 (lv_at hl 3 rfl) ?_
    refine lv_iadd hx hb dX5_writes_223 ?_
    refine cz_iald (n := 551) X hM h hk47 (by decide) dX5_writes_224 (fun h => ?_)
    obtain ⟨v48, hq, h⟩ := cz_bd_t h
    refine cz_runS (rest := [.ref (a + 1)]) (As := [.int (nI 1), .int (M45.1 (a + 1) (Int32.toNatClampNeg ((nI 29) + (nI 1))))]) X hM hl.1 (c_X5_inRow (l := l) (g := g) (b := b)  hq) mv_X5_inRow ml_X5_69 ⟨Nat.le_trans (Nat.le_of_ble_eq_true rfl) hRf, Nat.le_trans (Nat.le_of_ble_eq_true rfl) hRl⟩ rfl rfl (Nat.le_of_ble_eq_true rfl) dX5_writes_225 (fun H locs hM => ?_)
    refine lv_iload_n hx hb dX5_writes_228 rfl (lv_at hl 2 rfl) ?_
    refine cz_iast (n := 551) X hM h hk46 (by decide) dX5_writes_229 (fun M49 H locs h hM => ?_)
    refine lv_aload_n hx hb dX5_writes_230 rfl (lv_at hl 0 rfl) ?_
    refine cz_getR X hM ff_X5_0 ka lk_X5_7 dX5_writes_231 (fun hk50 => ?_)
    refine lv_bipush (v := nI 29) hx hb dX5_writes_234 (by decide) ?_
    refine lv_iload hx hb dX5_writes_236 (lv_at hl 3 rfl) ?_
    refine lv_iadd hx hb dX5_writes_238 ?_
    refine lv_dup2_11 hx hb dX5_writes_239 rfl rfl ?_
    refine cz_iald (n := 551) X hM h hk50 (by decide) dX5_writes_240 (fun h => ?_)
    refine lv_iconst (v := nI 1) hx hb dX5_writes_241 (by decide) ?_
    refine lv_iadd hx hb dX5_writes_242 ?_
    refine cz_iast (n := 551) X hM h hk50 (by decide) dX5_writes_243 (fun M51 H locs h hM => ?_)
    exact cz_retv X hM h dX5_writes_244
  · have h := cz_ite_t c4 h
    refine lv_iconst (v := nI 0) hx hb dX5_writes_19 (by decide) ?_
    refine lv_goto (tgt := 24) hx hb dX5_writes_20 (by decide) ?_
    refine lv_istore (lv' := [(4, .int (nI 0)), (3, .int v2), (0, .ref a), (1, .int x1), (2, .int x2)]) hx hb dX5_writes_24 hl (by decide) rfl (fun ls hl => ?_)
    refine lv_aload_n hx hb dX5_writes_26 rfl (lv_at hl 2 rfl) ?_
    refine cz_getR X hM ff_X5_0 ka lk_X5_7 dX5_writes_27 (fun hk52 => ?_)
    refine lv_iconst (v := nI 4) hx hb dX5_writes_30 (by decide) ?_
    refine lv_dup2_11 hx hb dX5_writes_31 rfl rfl ?_
    refine cz_iald (n := 551) X hM h hk52 (by decide) dX5_writes_32 (fun h => ?_)
    refine lv_iconst (v := nI 1) hx hb dX5_writes_33 (by decide) ?_
    refine lv_iadd hx hb dX5_writes_34 ?_
    refine cz_iast (n := 551) X hM h hk52 (by decide) dX5_writes_35 (fun M53 H locs h hM => ?_)
    refine lv_iconst (v := nI 0) hx hb dX5_writes_36 (by decide) ?_
    refine lv_istore (lv' := [(5, .int (nI 0)), (4, .int (nI 0)), (3, .int v2), (0, .ref a), (1, .int x1), (2, .int x2)]) hx hb dX5_writes_37 hl (by decide) rfl (fun ls hl => ?_)
    refine w_X5_writes_L39 X hRf hRl ka _ (fun x54 M55 H locs ls h hM hl => ?_) _ _ _ _ _ _ h hM (lv_sub hl [3, 4, 5, 2, 1, 0] rfl)
    refine lv_aload_n hx hb dX5_writes_64 rfl (lv_at hl 0 rfl) ?_
    refine cz_getR X hM ff_X5_0 ka lk_X5_7 dX5_writes_65 (fun hk56 => ?_)
    refine lv_iload_n hx hb dX5_writes_68 rfl (lv_at hl 3 rfl) ?_
    refine lv_iconst (v := nI 0) hx hb dX5_writes_69 (by decide) ?_
    obtain ⟨v57, hq, h⟩ := cz_bd_t h
    refine cz_runS (rest := [.ref (a + 1)]) (As := [.int v2, .int (nI 0)]) X hM hl.1 (c_X5_at (l := l) (g := g) (b := b)  hq) mv_X5_at ml_X5_42 ⟨Nat.le_trans (Nat.le_of_ble_eq_true rfl) hRf, Nat.le_trans (Nat.le_of_ble_eq_true rfl) hRl⟩ rfl rfl (Nat.le_of_ble_eq_true rfl) dX5_writes_70 (fun H locs hM => ?_)
    refine lv_aload_n hx hb dX5_writes_73 rfl (lv_at hl 0 rfl) ?_
    refine lv_iload_n hx hb dX5_writes_74 rfl (lv_at hl 1 rfl) ?_
    obtain ⟨v58, hq, h⟩ := cz_bd_t h
    refine cz_runV (rest := [.int v57, .ref (a + 1)]) (As := [.int x1]) (T := TX5) (N0 := 12) X hM hl.1 (c_X5_next (l := l) (g := g) (b := b) ka hq) mv_X5_next rfl (by decide) ka ml_X5_144 ⟨Nat.le_trans (Nat.le_of_ble_eq_true rfl) hRf, Nat.le_trans (Nat.le_of_ble_eq_true rfl) hRl⟩ rfl rfl (Nat.le_of_ble_eq_true rfl) dX5_writes_75 (fun H locs hM => ?_)
    refine lv_bipush (v := nI 48) hx hb dX5_writes_78 (by decide) ?_
    refine lv_isub hx hb dX5_writes_80 ?_
    refine cz_iast (n := 551) X hM h hk56 (by decide) dX5_writes_81 (fun M59 H locs h hM => ?_)
    refine lv_aload_n hx hb dX5_writes_82 rfl (lv_at hl 0 rfl) ?_
    refine cz_getR X hM ff_X5_0 ka lk_X5_7 dX5_writes_83 (fun hk60 => ?_)
    refine lv_iload_n hx hb dX5_writes_86 rfl (lv_at hl 3 rfl) ?_
    refine lv_iconst (v := nI 1) hx hb dX5_writes_87 (by decide) ?_
    obtain ⟨v61, hq, h⟩ := cz_bd_t h
    refine cz_runS (rest := [.ref (a + 1)]) (As := [.int v2, .int (nI 1)]) X hM hl.1 (c_X5_at (l := l) (g := g) (b := b)  hq) mv_X5_at ml_X5_42 ⟨Nat.le_trans (Nat.le_of_ble_eq_true rfl) hRf, Nat.le_trans (Nat.le_of_ble_eq_true rfl) hRl⟩ rfl rfl (Nat.le_of_ble_eq_true rfl) dX5_writes_88 (fun H locs hM => ?_)
    refine lv_iload hx hb dX5_writes_91 (lv_at hl 4 rfl) ?_
    refine cz_iast (n := 551) X hM h hk60 (by decide) dX5_writes_93 (fun M62 H locs h hM => ?_)
    refine lv_aload_n hx hb dX5_writes_94 rfl (lv_at hl 0 rfl) ?_
    refine cz_getR X hM ff_X5_0 ka lk_X5_7 dX5_writes_95 (fun hk63 => ?_)
    refine lv_iload_n hx hb dX5_writes_98 rfl (lv_at hl 3 rfl) ?_
    refine lv_iconst (v := nI 3) hx hb dX5_writes_99 (by decide) ?_
    obtain ⟨v64, hq, h⟩ := cz_bd_t h
    refine cz_runS (rest := [.ref (a + 1)]) (As := [.int v2, .int (nI 3)]) X hM hl.1 (c_X5_at (l := l) (g := g) (b := b)  hq) mv_X5_at ml_X5_42 ⟨Nat.le_trans (Nat.le_of_ble_eq_true rfl) hRf, Nat.le_trans (Nat.le_of_ble_eq_true rfl) hRl⟩ rfl rfl (Nat.le_of_ble_eq_true rfl) dX5_writes_100 (fun H locs hM => ?_)
    refine lv_aload_n hx hb dX5_writes_103 rfl (lv_at hl 0 rfl) ?_
    refine cz_getR X hM ff_X5_0 ka lk_X5_7 dX5_writes_104 (fun hk65 => ?_)
    refine lv_iconst (v := nI 3) hx hb dX5_writes_107 (by decide) ?_
    refine cz_iald (n := 551) X hM h hk65 (by decide) dX5_writes_108 (fun h => ?_)
    refine cz_iast (n := 551) X hM h hk63 (by decide) dX5_writes_109 (fun M66 H locs h hM => ?_)
    refine lv_aload_n hx hb dX5_writes_110 rfl (lv_at hl 0 rfl) ?_
    refine cz_getR X hM ff_X5_0 ka lk_X5_7 dX5_writes_111 (fun hk67 => ?_)
    refine lv_iload_n hx hb dX5_writes_114 rfl (lv_at hl 3 rfl) ?_
    refine lv_iconst (v := nI 4) hx hb dX5_writes_115 (by decide) ?_
    obtain ⟨v68, hq, h⟩ := cz_bd_t h
    refine cz_runS (rest := [.ref (a + 1)]) (As := [.int v2, .int (nI 4)]) X hM hl.1 (c_X5_at (l := l) (g := g) (b := b)  hq) mv_X5_at ml_X5_42 ⟨Nat.le_trans (Nat.le_of_ble_eq_true rfl) hRf, Nat.le_trans (Nat.le_of_ble_eq_true rfl) hRl⟩ rfl rfl (Nat.le_of_ble_eq_true rfl) dX5_writes_116 (fun H locs hM => ?_)
    refine lv_bipush (v := -6) hx hb dX5_writes_119 (by decide) ?_
    refine cz_iast (n := 551) X hM h hk67 (by decide) dX5_writes_121 (fun M69 H locs h hM => ?_)
    refine lv_aload_n hx hb dX5_writes_122 rfl (lv_at hl 0 rfl) ?_
    refine cz_getR X hM ff_X5_0 ka lk_X5_7 dX5_writes_123 (fun hk70 => ?_)
    refine lv_iload_n hx hb dX5_writes_126 rfl (lv_at hl 3 rfl) ?_
    refine lv_bipush (v := nI 7) hx hb dX5_writes_127 (by decide) ?_
    obtain ⟨v71, hq, h⟩ := cz_bd_t h
    refine cz_runS (rest := [.ref (a + 1)]) (As := [.int v2, .int (nI 7)]) X hM hl.1 (c_X5_at (l := l) (g := g) (b := b)  hq) mv_X5_at ml_X5_42 ⟨Nat.le_trans (Nat.le_of_ble_eq_true rfl) hRf, Nat.le_trans (Nat.le_of_ble_eq_true rfl) hRl⟩ rfl rfl (Nat.le_of_ble_eq_true rfl) dX5_writes_129 (fun H locs hM => ?_)
    refine lv_bipush (v := -6) hx hb dX5_writes_132 (by decide) ?_
    refine cz_iast (n := 551) X hM h hk70 (by decide) dX5_writes_134 (fun M72 H locs h hM => ?_)
    refine lv_aload_n hx hb dX5_writes_135 rfl (lv_at hl 0 rfl) ?_
    refine cz_getR X hM ff_X5_0 ka lk_X5_7 dX5_writes_136 (fun hk73 => ?_)
    refine lv_iload_n hx hb dX5_writes_139 rfl (lv_at hl 3 rfl) ?_
    refine lv_bipush (v := nI 8) hx hb dX5_writes_140 (by decide) ?_
    obtain ⟨v74, hq, h⟩ := cz_bd_t h
    refine cz_runS (rest := [.ref (a + 1)]) (As := [.int v2, .int (nI 8)]) X hM hl.1 (c_X5_at (l := l) (g := g) (b := b)  hq) mv_X5_at ml_X5_42 ⟨Nat.le_trans (Nat.le_of_ble_eq_true rfl) hRf, Nat.le_trans (Nat.le_of_ble_eq_true rfl) hRl⟩ rfl rfl (Nat.le_of_ble_eq_true rfl) dX5_writes_142 (fun H locs hM => ?_)
    refine lv_iload_n hx hb dX5_writes_145 rfl (lv_at hl 2 rfl) ?_
    refine lv_iconst (v := nI 2) hx hb dX5_writes_146 (by decide) ?_
    refine lv_isub hx hb dX5_writes_147 ?_
    refine cz_iast (n := 551) X hM h hk73 (by decide) dX5_writes_148 (fun M75 H locs h hM => ?_)
    refine lv_iload_n hx hb dX5_writes_149 rfl (lv_at hl 2 rfl) ?_
    refine lv_iconst (v := nI 3) hx hb dX5_writes_150 (by decide) ?_
    refine lv_isub hx hb dX5_writes_151 ?_
    refine cz_nmi h (fun v76 h => ?_)
    refine lv_istore (lv' := [(5, .int v76), (0, .ref a), (1, .int x1), (2, .int x2), (3, .int v2), (4, .int (nI 0))]) hx hb dX5_writes_152 hl (by decide) rfl (fun ls hl => ?_)
    refine w_X5_writes_L154 X hRf hRl ka _ (fun x77 M78 H locs ls h hM hl => ?_) _ _ _ _ _ _ h hM (lv_sub hl [1, 2, 4, 5, 0] rfl)
    refine lv_aload_n hx hb dX5_writes_209 rfl (lv_at hl 0 rfl) ?_
    refine cz_getR X hM ff_X5_0 ka lk_X5_7 dX5_writes_210 (fun hk79 => ?_)
    refine lv_iload hx hb dX5_writes_213 (lv_at hl 3 rfl) ?_
    refine lv_aload_n hx hb dX5_writes_215 rfl (lv_at hl 0 rfl) ?_
    refine cz_getR X hM ff_X5_0 ka lk_X5_7 dX5_writes_216 (fun hk80 => ?_)
    refine lv_bipush (v := nI 29) hx hb dX5_writes_219 (by decide) ?_
    refine lv_iload hx hb dX5_writes_221 (lv_at hl 3 rfl) ?_
    refine lv_iadd hx hb dX5_writes_223 ?_
    refine cz_iald (n := 551) X hM h hk80 (by decide) dX5_writes_224 (fun h => ?_)
    obtain ⟨v81, hq, h⟩ := cz_bd_t h
    refine cz_runS (rest := [.ref (a + 1)]) (As := [.int (nI 0), .int (M78.1 (a + 1) (Int32.toNatClampNeg ((nI 29) + (nI 0))))]) X hM hl.1 (c_X5_inRow (l := l) (g := g) (b := b)  hq) mv_X5_inRow ml_X5_69 ⟨Nat.le_trans (Nat.le_of_ble_eq_true rfl) hRf, Nat.le_trans (Nat.le_of_ble_eq_true rfl) hRl⟩ rfl rfl (Nat.le_of_ble_eq_true rfl) dX5_writes_225 (fun H locs hM => ?_)
    refine lv_iload_n hx hb dX5_writes_228 rfl (lv_at hl 2 rfl) ?_
    refine cz_iast (n := 551) X hM h hk79 (by decide) dX5_writes_229 (fun M82 H locs h hM => ?_)
    refine lv_aload_n hx hb dX5_writes_230 rfl (lv_at hl 0 rfl) ?_
    refine cz_getR X hM ff_X5_0 ka lk_X5_7 dX5_writes_231 (fun hk83 => ?_)
    refine lv_bipush (v := nI 29) hx hb dX5_writes_234 (by decide) ?_
    refine lv_iload hx hb dX5_writes_236 (lv_at hl 3 rfl) ?_
    refine lv_iadd hx hb dX5_writes_238 ?_
    refine lv_dup2_11 hx hb dX5_writes_239 rfl rfl ?_
    refine cz_iald (n := 551) X hM h hk83 (by decide) dX5_writes_240 (fun h => ?_)
    refine lv_iconst (v := nI 1) hx hb dX5_writes_241 (by decide) ?_
    refine lv_iadd hx hb dX5_writes_242 ?_
    refine cz_iast (n := 551) X hM h hk83 (by decide) dX5_writes_243 (fun M84 H locs h hM => ?_)
    exact cz_retv X hM h dX5_writes_244
theorem mv_X5_read : cz_MV yX5_read cX5_read 3 (some .int) RX5 0 := ⟨mi_X5_read, ms_X5_read, mc_X5_read, ini_X5, by decide +kernel⟩
set_option maxHeartbeats 4000000 in
set_option maxRecDepth 100000 in
theorem w_X5_read_L37 {p : Program} {l : Launch} {e : Env} {R : Room} {s : State} {m : MethodId} {args : Array Value} {below : List Frame} {meth : Method} {c : Code} {g : cz_G} {b : Nat} (X : cz_X p s m args meth c cX5_read 3 RX5 g b (some .int)) (hRf : 4 ≤ R.frames) (hRl : 88 ≤ R.locals) {r0 : Int32} {M9 : cz_M} {a0 : Nat} (ka0 : cz_K b a0 5)
    (K : Int32 → cz_M → Option (Int32 × cz_M)) (hX : ∀ (x1 : Int32) (M : cz_M) (H : Heap) (locs : List Loc) (ls : Array Slot), K x1 M = some (r0, M9) → cz_WS g b M s H locs → lv_has ls 3 [(0, .ref a0), (1, .int x1)] → W p l e R s m args below meth c H locs 0 0 (MQ below (cz_Q g b (some (.int r0)) M9) args s 0 0 (fun q => b ≤ q)) (F0 m 66 ls [])) :
    ∀ (n : Nat) (x1 : Int32) (M : cz_M) (H : Heap) (locs : List Loc) (ls : Array Slot), cz_it2 (f_X5_read_L37 a0 K) n x1 M = some (r0, M9) → cz_WS g b M s H locs → lv_has ls 3 [(0, .ref a0), (1, .int x1)] → W p l e R s m args below meth c H locs 0 0 (MQ below (cz_Q g b (some (.int r0)) M9) args s 0 0 (fun q => b ≤ q)) (F0 m 37 ls []) := by
  obtain ⟨hx, hb, -, ho, ht, -⟩ := id X
  intro n
  induction n with
  | zero => intro x1 M H locs ls h; cases (show none = some _ from h)
  | succ n ih =>
    intro x1 M H locs ls h hM hl
    have h : f_X5_read_L37 a0 K (cz_it2 (f_X5_read_L37 a0 K) n) x1 M = some (r0, M9) := h
    rw [f_X5_read_L37] at h
    refine lv_iload_n hx hb dX5_read_37 rfl (lv_at hl 1 rfl) ?_
    refine lv_aload_n hx hb dX5_read_38 rfl (lv_at hl 0 rfl) ?_
    refine cz_getI X hM ff_X5_7 ka0 lk_X5_136 dX5_read_39 ?_
    refine lv_icmp_ge (tgt := 66) hx hb dX5_read_42 (by decide) (fun c7 => ?_) (fun c7 => ?_)
    · have h := cz_ite_t c7 h
      exact hX _ _ _ _ _ h hM (lv_sub hl [0, 1] rfl)
    · have h := cz_ite_f c7 h
      refine lv_aload_n hx hb dX5_read_45 rfl (lv_at hl 0 rfl) ?_
      refine lv_iload_n hx hb dX5_read_46 rfl (lv_at hl 1 rfl) ?_
      obtain ⟨v8, hq, h⟩ := cz_bd_t h
      refine cz_runV (rest := []) (As := [.int x1]) (T := TX5) (N0 := 12) X hM hl.1 (c_X5_right (l := l) (g := g) (b := b) ka0 hq) mv_X5_right rfl (by decide) ka0 ml_X5_153 ⟨Nat.le_trans (Nat.le_of_ble_eq_true rfl) hRf, Nat.le_trans (Nat.le_of_ble_eq_true rfl) hRl⟩ rfl rfl (Nat.le_of_ble_eq_true rfl) dX5_read_47 (fun H locs hM => ?_)
      refine lv_istore_n (lv' := [(2, .int v8), (0, .ref a0), (1, .int x1)]) hx hb dX5_read_50 rfl hl (by decide) rfl (fun ls hl => ?_)
      refine lv_aload_n hx hb dX5_read_51 rfl (lv_at hl 1 rfl) ?_
      refine lv_iload_n hx hb dX5_read_52 rfl (lv_at hl 2 rfl) ?_
      refine lv_iload_n hx hb dX5_read_53 rfl (lv_at hl 0 rfl) ?_
      obtain ⟨M9, hq, h⟩ := cz_bd_t h
      refine cz_runV (rest := []) (As := [.int x1, .int v8]) (T := TX5) (N0 := 12) X hM hl.1 (c_X5_writes (l := l) (g := g) (b := b) ka0 hq) mv_X5_writes rfl (by decide) ka0 ml_X5_159 ⟨Nat.le_trans (Nat.le_of_ble_eq_true rfl) hRf, Nat.le_trans (Nat.le_of_ble_eq_true rfl) hRl⟩ rfl rfl (Nat.le_of_ble_eq_true rfl) dX5_read_54 (fun H locs hM => ?_)
      refine lv_iload_n hx hb dX5_read_57 rfl (lv_at hl 2 rfl) ?_
      refine lv_iload_n hx hb dX5_read_58 rfl (lv_at hl 0 rfl) ?_
      refine lv_iconst (v := nI 1) hx hb dX5_read_59 (by decide) ?_
      refine lv_iadd hx hb dX5_read_60 ?_
      refine lv_iadd hx hb dX5_read_61 ?_
      refine cz_nmi h (fun v10 h => ?_)
      refine lv_istore_n (lv' := [(1, .int v10), (2, .int v8), (0, .ref a0)]) hx hb dX5_read_62 rfl hl (by decide) rfl (fun ls hl => ?_)
      refine lv_goto (tgt := 37) hx hb dX5_read_63 (by decide) ?_
      exact ih _ _ _ _ _ h hM (lv_sub hl [2, 0] rfl)
set_option maxHeartbeats 4000000 in
set_option maxRecDepth 100000 in
theorem c_X5_read {l : Launch} {g : cz_G} {b : Nat} {M : cz_M} {r0 : Int32} {M9 : cz_M} {a : Nat} (ka : cz_K b a 5) (h : f_X5_read M a = some (r0, M9)) : cz_C l yX5_read cX5_read 3 (some .int) 4 88 g b [.ref a] M (some (.int r0)) M9 := by
  refine cz_start (by decide) (Nat.le_of_ble_eq_true rfl) (fun p e s m args below meth c X H ls hM hl => ?_)
  have X : cz_X p s m args meth c cX5_read 3 RX5 g b (some .int) := X
  obtain ⟨hx, hb, -, ho, ht, -⟩ := id X
  have hRf : 4 ≤ ({ frames := 4, cells := 0, slots := 0, locals := 88 } : Room).frames := Nat.le_refl _
  have hRl : 88 ≤ ({ frames := 4, cells := 0, slots := 0, locals := 88 } : Room).locals := Nat.le_refl _
  have hl : lv_has ls 3 [(0, .ref a)] := hl
  rw [f_X5_read] at h
  refine lv_aload_n hx hb dX5_read_0 rfl (lv_at hl 0 rfl) ?_
  obtain ⟨v2, M1, hq, h⟩ := cz_b2_t h
  refine cz_runV (rest := []) (As := []) (T := TX5) (N0 := 12) X hM hl.1 (c_X5_wrong (l := l) (g := g) (b := b) ka hq) mv_X5_wrong rfl (by decide) ka ml_X5_156 ⟨Nat.le_trans (Nat.le_of_ble_eq_true rfl) hRf, Nat.le_trans (Nat.le_of_ble_eq_true rfl) hRl⟩ rfl rfl (Nat.le_of_ble_eq_true rfl) dX5_read_1 (fun H locs hM => ?_)
  refine lv_bipush (v := -6) hx hb dX5_read_4 (by decide) ?_
  refine lv_icmp_eq (tgt := 12) hx hb dX5_read_6 (by decide) (fun c3 => ?_) (fun c3 => ?_)
  · have h := cz_ite_t c3 h
    refine lv_aload_n hx hb dX5_read_12 rfl (lv_at hl 0 rfl) ?_
    refine cz_getR X hM ff_X5_0 ka lk_X5_7 dX5_read_13 (fun hk4 => ?_)
    refine lv_iconst (v := nI 4) hx hb dX5_read_16 (by decide) ?_
    refine cz_iald (n := 551) X hM h hk4 (by decide) dX5_read_17 (fun h => ?_)
    refine lv_aload_n hx hb dX5_read_18 rfl (lv_at hl 0 rfl) ?_
    refine cz_getI X hM ff_X5_11 ka lk_X5_150 dX5_read_19 ?_
    refine lv_iadd hx hb dX5_read_22 ?_
    refine lv_bipush (v := nI 40) hx hb dX5_read_23 (by decide) ?_
    refine lv_icmp_le (tgt := 31) hx hb dX5_read_25 (by decide) (fun c5 => ?_) (fun c5 => ?_)
    · have h := cz_ite_t c5 h
      refine lv_aload_n hx hb dX5_read_31 rfl (lv_at hl 0 rfl) ?_
      obtain ⟨M6, hq, h⟩ := cz_bd_t h
      refine cz_runV (rest := []) (As := []) (T := TX5) (N0 := 12) X hM hl.1 (c_X5_record (l := l) (g := g) (b := b) ka hq) mv_X5_record rfl (by decide) ka ml_X5_88 ⟨Nat.le_trans (Nat.le_of_ble_eq_true rfl) hRf, Nat.le_trans (Nat.le_of_ble_eq_true rfl) hRl⟩ rfl rfl (Nat.le_of_ble_eq_true rfl) dX5_read_32 (fun H locs hM => ?_)
      refine lv_iconst (v := nI 0) hx hb dX5_read_35 (by decide) ?_
      refine lv_istore_n (lv' := [(1, .int (nI 0)), (0, .ref a)]) hx hb dX5_read_36 rfl hl (by decide) rfl (fun ls hl => ?_)
      refine w_X5_read_L37 X hRf hRl ka _ (fun x11 M12 H locs ls h hM hl => ?_) _ _ _ _ _ _ h hM (lv_sub hl [1, 0] rfl)
      refine lv_aload_n hx hb dX5_read_66 rfl (lv_at hl 0 rfl) ?_
      refine lv_iconst (v := nI 0) hx hb dX5_read_67 (by decide) ?_
      refine cz_putI X hM h ff_X5_7 ka lk_X5_136 dX5_read_68 (fun M13 H locs h hM => ?_)
      refine lv_aload_n hx hb dX5_read_71 rfl (lv_at hl 0 rfl) ?_
      refine cz_getR X hM ff_X5_0 ka lk_X5_7 dX5_read_72 (fun hk14 => ?_)
      refine lv_iconst (v := nI 4) hx hb dX5_read_75 (by decide) ?_
      refine cz_iald (n := 551) X hM h hk14 (by decide) dX5_read_76 (fun h => ?_)
      exact cz_reti X hM h rfl dX5_read_77
    · have h := cz_ite_f c5 h
      refine lv_bipush (v := -4) hx hb dX5_read_28 (by decide) ?_
      exact cz_reti X hM h rfl dX5_read_30
  · have h := cz_ite_f c3 h
    refine lv_bipush (v := -3) hx hb dX5_read_9 (by decide) ?_
    exact cz_reti X hM h rfl dX5_read_11
theorem mv_X5_undo : cz_MV yX5_undo cX5_undo 2 (some .int) RX5 0 := ⟨mi_X5_undo, ms_X5_undo, mc_X5_undo, ini_X5, by decide +kernel⟩
set_option maxHeartbeats 4000000 in
set_option maxRecDepth 100000 in
theorem w_X5_undo_L22 {p : Program} {l : Launch} {e : Env} {R : Room} {s : State} {m : MethodId} {args : Array Value} {below : List Frame} {meth : Method} {c : Code} {g : cz_G} {b : Nat} (X : cz_X p s m args meth c cX5_undo 2 RX5 g b (some .int)) (hRf : 0 ≤ R.frames) (hRl : 0 ≤ R.locals) {r0 : Int32} {M9 : cz_M} {a0 : Nat} (ka0 : cz_K b a0 5)
    (K : Int32 → cz_M → Option (Int32 × cz_M)) (hX : ∀ (x1 : Int32) (M : cz_M) (H : Heap) (locs : List Loc) (ls : Array Slot), K x1 M = some (r0, M9) → cz_WS g b M s H locs → lv_has ls 2 [(0, .ref a0), (1, .int x1)] → W p l e R s m args below meth c H locs 0 0 (MQ below (cz_Q g b (some (.int r0)) M9) args s 0 0 (fun q => b ≤ q)) (F0 m 56 ls [])) :
    ∀ (n : Nat) (x1 : Int32) (M : cz_M) (H : Heap) (locs : List Loc) (ls : Array Slot), cz_it2 (f_X5_undo_L22 a0 K) n x1 M = some (r0, M9) → cz_WS g b M s H locs → lv_has ls 2 [(0, .ref a0), (1, .int x1)] → W p l e R s m args below meth c H locs 0 0 (MQ below (cz_Q g b (some (.int r0)) M9) args s 0 0 (fun q => b ≤ q)) (F0 m 22 ls []) := by
  obtain ⟨hx, hb, -, ho, ht, -⟩ := id X
  intro n
  induction n with
  | zero => intro x1 M H locs ls h; cases (show none = some _ from h)
  | succ n ih =>
    intro x1 M H locs ls h hM hl
    have h : f_X5_undo_L22 a0 K (cz_it2 (f_X5_undo_L22 a0 K) n) x1 M = some (r0, M9) := h
    rw [f_X5_undo_L22] at h
    refine lv_iload_n hx hb dX5_undo_22 rfl (lv_at hl 1 rfl) ?_
    refine lv_sipush (v := nI 551) hx hb dX5_undo_23 (by decide) ?_
    refine lv_icmp_ge (tgt := 56) hx hb dX5_undo_26 (by decide) (fun c3 => ?_) (fun c3 => ?_)
    · have h := cz_ite_t c3 h
      exact hX _ _ _ _ _ h hM (lv_sub hl [0, 1] rfl)
    · have h := cz_ite_f c3 h
      refine lv_aload_n hx hb dX5_undo_29 rfl (lv_at hl 0 rfl) ?_
      refine cz_getR X hM ff_X5_0 ka0 lk_X5_7 dX5_undo_30 (fun hk4 => ?_)
      refine lv_iload_n hx hb dX5_undo_33 rfl (lv_at hl 1 rfl) ?_
      refine lv_aload_n hx hb dX5_undo_34 rfl (lv_at hl 0 rfl) ?_
      refine cz_getR X hM ff_X5_2 ka0 lk_X5_16 dX5_undo_35 (fun hk5 => ?_)
      refine lv_sipush (v := nI 551) hx hb dX5_undo_38 (by decide) ?_
      refine lv_aload_n hx hb dX5_undo_41 rfl (lv_at hl 0 rfl) ?_
      refine cz_getI X hM ff_X5_3 ka0 lk_X5_46 dX5_undo_42 ?_
      refine lv_imul hx hb dX5_undo_45 ?_
      refine lv_iload_n hx hb dX5_undo_46 rfl (lv_at hl 1 rfl) ?_
      refine lv_iadd hx hb dX5_undo_47 ?_
      refine cz_iald (n := 2204) X hM h hk5 (by decide) dX5_undo_48 (fun h => ?_)
      refine cz_iast (n := 551) X hM h hk4 (by decide) dX5_undo_49 (fun M6 H locs h hM => ?_)
      refine cz_nmL (v := x1 + nI 1) h (fun v7 e8 h => ?_)
      refine lv_iinc (v := v7) (lv' := [(1, .int v7), (0, .ref a0)]) hx hb dX5_undo_50 hl (k := 1) rfl (by rw [e8]; rfl) (by decide) rfl (fun ls hl => ?_)
      refine lv_goto (tgt := 22) hx hb dX5_undo_53 (by decide) ?_
      exact ih _ _ _ _ _ h hM (lv_sub hl [1, 0] rfl)
set_option maxHeartbeats 4000000 in
set_option maxRecDepth 100000 in
theorem c_X5_undo {l : Launch} {g : cz_G} {b : Nat} {M : cz_M} {r0 : Int32} {M9 : cz_M} {a : Nat} (ka : cz_K b a 5) (h : f_X5_undo M a = some (r0, M9)) : cz_C l yX5_undo cX5_undo 2 (some .int) 0 0 g b [.ref a] M (some (.int r0)) M9 := by
  refine cz_start (by decide) (Nat.le_of_ble_eq_true rfl) (fun p e s m args below meth c X H ls hM hl => ?_)
  have X : cz_X p s m args meth c cX5_undo 2 RX5 g b (some .int) := X
  obtain ⟨hx, hb, -, ho, ht, -⟩ := id X
  have hRf : 0 ≤ ({ frames := 0, cells := 0, slots := 0, locals := 0 } : Room).frames := Nat.le_refl _
  have hRl : 0 ≤ ({ frames := 0, cells := 0, slots := 0, locals := 0 } : Room).locals := Nat.le_refl _
  have hl : lv_has ls 2 [(0, .ref a)] := hl
  rw [f_X5_undo] at h
  refine lv_aload_n hx hb dX5_undo_0 rfl (lv_at hl 0 rfl) ?_
  refine cz_getI X hM ff_X5_3 ka lk_X5_46 dX5_undo_1 ?_
  refine lv_if_ne (tgt := 10) hx hb dX5_undo_4 (by decide) (fun c1 => ?_) (fun c1 => ?_)
  · have h := cz_ite_f c1 h
    refine lv_aload_n hx hb dX5_undo_10 rfl (lv_at hl 0 rfl) ?_
    refine lv_dup hx hb dX5_undo_11 rfl ?_
    refine cz_getI X hM ff_X5_3 ka lk_X5_46 dX5_undo_12 ?_
    refine lv_iconst (v := nI 1) hx hb dX5_undo_15 (by decide) ?_
    refine lv_isub hx hb dX5_undo_16 ?_
    refine cz_putI X hM h ff_X5_3 ka lk_X5_46 dX5_undo_17 (fun M2 H locs h hM => ?_)
    refine lv_iconst (v := nI 0) hx hb dX5_undo_20 (by decide) ?_
    refine lv_istore_n (lv' := [(1, .int (nI 0)), (0, .ref a)]) hx hb dX5_undo_21 rfl hl (by decide) rfl (fun ls hl => ?_)
    refine w_X5_undo_L22 X hRf hRl ka _ (fun x9 M10 H locs ls h hM hl => ?_) _ _ _ _ _ _ h hM (lv_sub hl [1, 0] rfl)
    refine lv_aload_n hx hb dX5_undo_56 rfl (lv_at hl 0 rfl) ?_
    refine cz_getI X hM ff_X5_3 ka lk_X5_46 dX5_undo_57 ?_
    exact cz_reti X hM h rfl dX5_undo_60
  · have h := cz_ite_t c1 h
    refine lv_bipush (v := -5) hx hb dX5_undo_7 (by decide) ?_
    exact cz_reti X hM h rfl dX5_undo_9
theorem mv_X5_save : cz_MV yX5_save cX5_save 3 (some .int) RX5 1 := ⟨mi_X5_save, ms_X5_save, mc_X5_save, ini_X5, by decide +kernel⟩
set_option maxHeartbeats 4000000 in
set_option maxRecDepth 100000 in
theorem w_X5_save_L14 {p : Program} {l : Launch} {e : Env} {R : Room} {s : State} {m : MethodId} {args : Array Value} {below : List Frame} {meth : Method} {c : Code} {g : cz_G} {b : Nat} (X : cz_X p s m args meth c cX5_save 3 RX5 g b (some .int)) (hRf : 1 ≤ R.frames) (hRl : 22 ≤ R.locals) {r0 : Int32} {M9 : cz_M} {a0 : Nat} {x1 : Int32} (ka0 : cz_K b a0 5)
    (K : Int32 → cz_M → Option (Int32 × cz_M)) (hX : ∀ (x2 : Int32) (M : cz_M) (H : Heap) (locs : List Loc) (ls : Array Slot), K x2 M = some (r0, M9) → cz_WS g b M s H locs → lv_has ls 3 [(0, .ref a0), (1, .int x1), (2, .int x2)] → W p l e R s m args below meth c H locs 0 0 (MQ below (cz_Q g b (some (.int r0)) M9) args s 0 0 (fun q => b ≤ q)) (F0 m 45 ls [])) :
    ∀ (n : Nat) (x2 : Int32) (M : cz_M) (H : Heap) (locs : List Loc) (ls : Array Slot), cz_it2 (f_X5_save_L14 a0 x1 K) n x2 M = some (r0, M9) → cz_WS g b M s H locs → lv_has ls 3 [(0, .ref a0), (1, .int x1), (2, .int x2)] → W p l e R s m args below meth c H locs 0 0 (MQ below (cz_Q g b (some (.int r0)) M9) args s 0 0 (fun q => b ≤ q)) (F0 m 14 ls []) := by
  obtain ⟨hx, hb, -, ho, ht, -⟩ := id X
  intro n
  induction n with
  | zero => intro x2 M H locs ls h; cases (show none = some _ from h)
  | succ n ih =>
    intro x2 M H locs ls h hM hl
    have h : f_X5_save_L14 a0 x1 K (cz_it2 (f_X5_save_L14 a0 x1 K) n) x2 M = some (r0, M9) := h
    rw [f_X5_save_L14] at h
    refine lv_iload_n hx hb dX5_save_14 rfl (lv_at hl 2 rfl) ?_
    refine lv_sipush (v := nI 551) hx hb dX5_save_15 (by decide) ?_
    refine lv_icmp_ge (tgt := 45) hx hb dX5_save_18 (by decide) (fun c3 => ?_) (fun c3 => ?_)
    · have h := cz_ite_t c3 h
      exact hX _ _ _ _ _ h hM (lv_sub hl [0, 1, 2] rfl)
    · have h := cz_ite_f c3 h
      refine lv_aload_n hx hb dX5_save_21 rfl (lv_at hl 0 rfl) ?_
      refine cz_getR X hM ff_X5_4 ka0 lk_X5_19 dX5_save_22 (fun hk4 => ?_)
      refine lv_sipush (v := nI 551) hx hb dX5_save_25 (by decide) ?_
      refine lv_iload_n hx hb dX5_save_28 rfl (lv_at hl 1 rfl) ?_
      refine lv_imul hx hb dX5_save_29 ?_
      refine lv_iload_n hx hb dX5_save_30 rfl (lv_at hl 2 rfl) ?_
      refine lv_iadd hx hb dX5_save_31 ?_
      refine lv_aload_n hx hb dX5_save_32 rfl (lv_at hl 0 rfl) ?_
      refine cz_getR X hM ff_X5_0 ka0 lk_X5_7 dX5_save_33 (fun hk5 => ?_)
      refine lv_iload_n hx hb dX5_save_36 rfl (lv_at hl 2 rfl) ?_
      refine cz_iald (n := 551) X hM h hk5 (by decide) dX5_save_37 (fun h => ?_)
      refine cz_iast (n := 1102) X hM h hk4 (by decide) dX5_save_38 (fun M6 H locs h hM => ?_)
      refine cz_nmL (v := x2 + nI 1) h (fun v7 e8 h => ?_)
      refine lv_iinc (v := v7) (lv' := [(2, .int v7), (0, .ref a0), (1, .int x1)]) hx hb dX5_save_39 hl (k := 2) rfl (by rw [e8]; rfl) (by decide) rfl (fun ls hl => ?_)
      refine lv_goto (tgt := 14) hx hb dX5_save_42 (by decide) ?_
      exact ih _ _ _ _ _ h hM (lv_sub hl [1, 2, 0] rfl)
set_option maxHeartbeats 4000000 in
set_option maxRecDepth 100000 in
theorem c_X5_save {l : Launch} {g : cz_G} {b : Nat} {M : cz_M} {r0 : Int32} {M9 : cz_M} {a : Nat} {x1 : Int32} (ka : cz_K b a 5) (h : f_X5_save M a x1 = some (r0, M9)) : cz_C l yX5_save cX5_save 3 (some .int) 1 22 g b [.ref a, .int x1] M (some (.int r0)) M9 := by
  refine cz_start (by decide) (Nat.le_of_ble_eq_true rfl) (fun p e s m args below meth c X H ls hM hl => ?_)
  have X : cz_X p s m args meth c cX5_save 3 RX5 g b (some .int) := X
  obtain ⟨hx, hb, -, ho, ht, -⟩ := id X
  have hRf : 1 ≤ ({ frames := 1, cells := 0, slots := 0, locals := 22 } : Room).frames := Nat.le_refl _
  have hRl : 22 ≤ ({ frames := 1, cells := 0, slots := 0, locals := 22 } : Room).locals := Nat.le_refl _
  have hl : lv_has ls 3 [(0, .ref a), (1, .int x1)] := hl
  rw [f_X5_save] at h
  refine lv_iload_n hx hb dX5_save_0 rfl (lv_at hl 1 rfl) ?_
  refine lv_iconst (v := nI 0) hx hb dX5_save_1 (by decide) ?_
  refine lv_iconst (v := nI 1) hx hb dX5_save_2 (by decide) ?_
  obtain ⟨v1, hq, h⟩ := cz_bd_t h
  refine cz_runS (rest := []) (As := [.int x1, .int (nI 0), .int (nI 1)]) X hM hl.1 (c_X5_in (l := l) (g := g) (b := b)  hq) mv_X5_in ml_X5_38 ⟨Nat.le_trans (Nat.le_of_ble_eq_true rfl) hRf, Nat.le_trans (Nat.le_of_ble_eq_true rfl) hRl⟩ rfl rfl (Nat.le_of_ble_eq_true rfl) dX5_save_3 (fun H locs hM => ?_)
  refine lv_if_ne (tgt := 12) hx hb dX5_save_6 (by decide) (fun c2 => ?_) (fun c2 => ?_)
  · have h := cz_ite_f c2 h
    refine lv_iconst (v := nI 0) hx hb dX5_save_12 (by decide) ?_
    refine lv_istore_n (lv' := [(2, .int (nI 0)), (0, .ref a), (1, .int x1)]) hx hb dX5_save_13 rfl hl (by decide) rfl (fun ls hl => ?_)
    refine w_X5_save_L14 X hRf hRl ka _ (fun x9 M10 H locs ls h hM hl => ?_) _ _ _ _ _ _ h hM (lv_sub hl [1, 2, 0] rfl)
    refine lv_aload_n hx hb dX5_save_45 rfl (lv_at hl 0 rfl) ?_
    refine cz_getR X hM ff_X5_5 ka lk_X5_22 dX5_save_46 (fun hk11 => ?_)
    refine lv_iload_n hx hb dX5_save_49 rfl (lv_at hl 1 rfl) ?_
    refine lv_iconst (v := nI 1) hx hb dX5_save_50 (by decide) ?_
    refine cz_zast (n := 2) X hM h hk11 dX5_save_51 (fun M12 H locs h hM => ?_)
    refine lv_aload_n hx hb dX5_save_52 rfl (lv_at hl 0 rfl) ?_
    refine cz_getR X hM ff_X5_0 ka lk_X5_7 dX5_save_53 (fun hk13 => ?_)
    refine lv_iconst (v := nI 3) hx hb dX5_save_56 (by decide) ?_
    refine cz_iald (n := 551) X hM h hk13 (by decide) dX5_save_57 (fun h => ?_)
    exact cz_reti X hM h rfl dX5_save_58
  · have h := cz_ite_t c2 h
    refine lv_bipush (v := -2) hx hb dX5_save_9 (by decide) ?_
    exact cz_reti X hM h rfl dX5_save_11
theorem mv_X5_restore : cz_MV yX5_restore cX5_restore 3 (some .int) RX5 1 := ⟨mi_X5_restore, ms_X5_restore, mc_X5_restore, ini_X5, by decide +kernel⟩
set_option maxHeartbeats 4000000 in
set_option maxRecDepth 100000 in
theorem w_X5_restore_L30 {p : Program} {l : Launch} {e : Env} {R : Room} {s : State} {m : MethodId} {args : Array Value} {below : List Frame} {meth : Method} {c : Code} {g : cz_G} {b : Nat} (X : cz_X p s m args meth c cX5_restore 3 RX5 g b (some .int)) (hRf : 1 ≤ R.frames) (hRl : 22 ≤ R.locals) {r0 : Int32} {M9 : cz_M} {a0 : Nat} {x1 : Int32} (ka0 : cz_K b a0 5)
    (K : Int32 → cz_M → Option (Int32 × cz_M)) (hX : ∀ (x2 : Int32) (M : cz_M) (H : Heap) (locs : List Loc) (ls : Array Slot), K x2 M = some (r0, M9) → cz_WS g b M s H locs → lv_has ls 3 [(0, .ref a0), (1, .int x1), (2, .int x2)] → W p l e R s m args below meth c H locs 0 0 (MQ below (cz_Q g b (some (.int r0)) M9) args s 0 0 (fun q => b ≤ q)) (F0 m 61 ls [])) :
    ∀ (n : Nat) (x2 : Int32) (M : cz_M) (H : Heap) (locs : List Loc) (ls : Array Slot), cz_it2 (f_X5_restore_L30 a0 x1 K) n x2 M = some (r0, M9) → cz_WS g b M s H locs → lv_has ls 3 [(0, .ref a0), (1, .int x1), (2, .int x2)] → W p l e R s m args below meth c H locs 0 0 (MQ below (cz_Q g b (some (.int r0)) M9) args s 0 0 (fun q => b ≤ q)) (F0 m 30 ls []) := by
  obtain ⟨hx, hb, -, ho, ht, -⟩ := id X
  intro n
  induction n with
  | zero => intro x2 M H locs ls h; cases (show none = some _ from h)
  | succ n ih =>
    intro x2 M H locs ls h hM hl
    have h : f_X5_restore_L30 a0 x1 K (cz_it2 (f_X5_restore_L30 a0 x1 K) n) x2 M = some (r0, M9) := h
    rw [f_X5_restore_L30] at h
    refine lv_iload_n hx hb dX5_restore_30 rfl (lv_at hl 2 rfl) ?_
    refine lv_sipush (v := nI 551) hx hb dX5_restore_31 (by decide) ?_
    refine lv_icmp_ge (tgt := 61) hx hb dX5_restore_34 (by decide) (fun c6 => ?_) (fun c6 => ?_)
    · have h := cz_ite_t c6 h
      exact hX _ _ _ _ _ h hM (lv_sub hl [0, 1, 2] rfl)
    · have h := cz_ite_f c6 h
      refine lv_aload_n hx hb dX5_restore_37 rfl (lv_at hl 0 rfl) ?_
      refine cz_getR X hM ff_X5_0 ka0 lk_X5_7 dX5_restore_38 (fun hk7 => ?_)
      refine lv_iload_n hx hb dX5_restore_41 rfl (lv_at hl 2 rfl) ?_
      refine lv_aload_n hx hb dX5_restore_42 rfl (lv_at hl 0 rfl) ?_
      refine cz_getR X hM ff_X5_4 ka0 lk_X5_19 dX5_restore_43 (fun hk8 => ?_)
      refine lv_sipush (v := nI 551) hx hb dX5_restore_46 (by decide) ?_
      refine lv_iload_n hx hb dX5_restore_49 rfl (lv_at hl 1 rfl) ?_
      refine lv_imul hx hb dX5_restore_50 ?_
      refine lv_iload_n hx hb dX5_restore_51 rfl (lv_at hl 2 rfl) ?_
      refine lv_iadd hx hb dX5_restore_52 ?_
      refine cz_iald (n := 1102) X hM h hk8 (by decide) dX5_restore_53 (fun h => ?_)
      refine cz_iast (n := 551) X hM h hk7 (by decide) dX5_restore_54 (fun M9 H locs h hM => ?_)
      refine cz_nmL (v := x2 + nI 1) h (fun v10 e11 h => ?_)
      refine lv_iinc (v := v10) (lv' := [(2, .int v10), (0, .ref a0), (1, .int x1)]) hx hb dX5_restore_55 hl (k := 2) rfl (by rw [e11]; rfl) (by decide) rfl (fun ls hl => ?_)
      refine lv_goto (tgt := 30) hx hb dX5_restore_58 (by decide) ?_
      exact ih _ _ _ _ _ h hM (lv_sub hl [1, 2, 0] rfl)
set_option maxHeartbeats 4000000 in
set_option maxRecDepth 100000 in
theorem c_X5_restore {l : Launch} {g : cz_G} {b : Nat} {M : cz_M} {r0 : Int32} {M9 : cz_M} {a : Nat} {x1 : Int32} (ka : cz_K b a 5) (h : f_X5_restore M a x1 = some (r0, M9)) : cz_C l yX5_restore cX5_restore 3 (some .int) 1 22 g b [.ref a, .int x1] M (some (.int r0)) M9 := by
  refine cz_start (by decide) (Nat.le_of_ble_eq_true rfl) (fun p e s m args below meth c X H ls hM hl => ?_)
  have X : cz_X p s m args meth c cX5_restore 3 RX5 g b (some .int) := X
  obtain ⟨hx, hb, -, ho, ht, -⟩ := id X
  have hRf : 1 ≤ ({ frames := 1, cells := 0, slots := 0, locals := 22 } : Room).frames := Nat.le_refl _
  have hRl : 22 ≤ ({ frames := 1, cells := 0, slots := 0, locals := 22 } : Room).locals := Nat.le_refl _
  have hl : lv_has ls 3 [(0, .ref a), (1, .int x1)] := hl
  rw [f_X5_restore] at h
  refine lv_iload_n hx hb dX5_restore_0 rfl (lv_at hl 1 rfl) ?_
  refine lv_iconst (v := nI 0) hx hb dX5_restore_1 (by decide) ?_
  refine lv_iconst (v := nI 1) hx hb dX5_restore_2 (by decide) ?_
  obtain ⟨v1, hq, h⟩ := cz_bd_t h
  refine cz_runS (rest := []) (As := [.int x1, .int (nI 0), .int (nI 1)]) X hM hl.1 (c_X5_in (l := l) (g := g) (b := b)  hq) mv_X5_in ml_X5_38 ⟨Nat.le_trans (Nat.le_of_ble_eq_true rfl) hRf, Nat.le_trans (Nat.le_of_ble_eq_true rfl) hRl⟩ rfl rfl (Nat.le_of_ble_eq_true rfl) dX5_restore_3 (fun H locs hM => ?_)
  refine lv_if_ne (tgt := 12) hx hb dX5_restore_6 (by decide) (fun c2 => ?_) (fun c2 => ?_)
  · have h := cz_ite_f c2 h
    refine lv_aload_n hx hb dX5_restore_12 rfl (lv_at hl 0 rfl) ?_
    refine cz_getR X hM ff_X5_5 ka lk_X5_22 dX5_restore_13 (fun hk3 => ?_)
    refine lv_iload_n hx hb dX5_restore_16 rfl (lv_at hl 1 rfl) ?_
    refine cz_zald (n := 2) X hM h hk3 dX5_restore_17 (fun h => ?_)
    refine lv_if_ne (tgt := 24) hx hb dX5_restore_18 (by decide) (fun c4 => ?_) (fun c4 => ?_)
    · have h := cz_ite_f c4 h
      refine lv_aload_n hx hb dX5_restore_24 rfl (lv_at hl 0 rfl) ?_
      obtain ⟨M5, hq, h⟩ := cz_bd_t h
      refine cz_runV (rest := []) (As := []) (T := TX5) (N0 := 12) X hM hl.1 (c_X5_record (l := l) (g := g) (b := b) ka hq) mv_X5_record rfl (by decide) ka ml_X5_88 ⟨Nat.le_trans (Nat.le_of_ble_eq_true rfl) hRf, Nat.le_trans (Nat.le_of_ble_eq_true rfl) hRl⟩ rfl rfl (Nat.le_of_ble_eq_true rfl) dX5_restore_25 (fun H locs hM => ?_)
      refine lv_iconst (v := nI 0) hx hb dX5_restore_28 (by decide) ?_
      refine lv_istore_n (lv' := [(2, .int (nI 0)), (0, .ref a), (1, .int x1)]) hx hb dX5_restore_29 rfl hl (by decide) rfl (fun ls hl => ?_)
      refine w_X5_restore_L30 X hRf hRl ka _ (fun x12 M13 H locs ls h hM hl => ?_) _ _ _ _ _ _ h hM (lv_sub hl [1, 2, 0] rfl)
      refine lv_aload_n hx hb dX5_restore_61 rfl (lv_at hl 0 rfl) ?_
      refine cz_getR X hM ff_X5_0 ka lk_X5_7 dX5_restore_62 (fun hk14 => ?_)
      refine lv_iconst (v := nI 3) hx hb dX5_restore_65 (by decide) ?_
      refine cz_iald (n := 551) X hM h hk14 (by decide) dX5_restore_66 (fun h => ?_)
      exact cz_reti X hM h rfl dX5_restore_67
    · have h := cz_ite_t c4 h
      refine lv_bipush (v := -5) hx hb dX5_restore_21 (by decide) ?_
      exact cz_reti X hM h rfl dX5_restore_23
  · have h := cz_ite_t c2 h
    refine lv_bipush (v := -2) hx hb dX5_restore_9 (by decide) ?_
    exact cz_reti X hM h rfl dX5_restore_11
