set_option maxHeartbeats 4000000 in
set_option maxRecDepth 100000 in
theorem c_X2_threadsThatWait {l : Launch} {g : cz_G} {b : Nat} {M : cz_M} {r0 : Int32} {M9 : cz_M} {a : Nat} (ka : cz_K b a 2) (h : f_X2_threadsThatWait M a = some (r0, M9)) : cz_C l yX2_threadsThatWait cX2_threadsThatWait 3 (some .int) 2 45 g b [.ref a] M (some (.int r0)) M9 := by
  refine cz_start (by decide) (Nat.le_of_ble_eq_true rfl) (fun p e s m args below meth c X H ls hM hl => ?_)
  have X : cz_X p s m args meth c cX2_threadsThatWait 3 RX2 g b (some .int) := X
  obtain ⟨hx, hb, -, ho, ht, -⟩ := id X
  have hRf : 2 ≤ ({ frames := 2, cells := 0, slots := 0, locals := 45 } : Room).frames := Nat.le_refl _
  have hRl : 45 ≤ ({ frames := 2, cells := 0, slots := 0, locals := 45 } : Room).locals := Nat.le_refl _
  have hl : lv_has ls 3 [(0, .ref a)] := hl
  rw [f_X2_threadsThatWait] at h
  refine lv_aload_n hx hb dX2_threadsThatWait_0 rfl (lv_at hl 0 rfl) ?_
  obtain ⟨M1, hq, h⟩ := cz_bd_t h
  refine cz_runV (rest := []) (As := []) (T := TX2) (N0 := 9) X hM hl.1 (c_X2_findHeads (l := l) (g := g) (b := b) ka hq) mv_X2_findHeads rfl (by decide) ka ml_X2_102 ⟨Nat.le_trans (Nat.le_of_ble_eq_true rfl) hRf, Nat.le_trans (Nat.le_of_ble_eq_true rfl) hRl⟩ rfl rfl (Nat.le_of_ble_eq_true rfl) dX2_threadsThatWait_1 (fun H locs hM => ?_)
  refine lv_iconst (v := nI 0) hx hb dX2_threadsThatWait_4 (by decide) ?_
  refine lv_istore_n (lv' := [(1, .int (nI 0)), (0, .ref a)]) hx hb dX2_threadsThatWait_5 rfl hl (by decide) rfl (fun ls hl => ?_)
  refine lv_iconst (v := nI 0) hx hb dX2_threadsThatWait_6 (by decide) ?_
  refine lv_istore_n (lv' := [(2, .int (nI 0)), (1, .int (nI 0)), (0, .ref a)]) hx hb dX2_threadsThatWait_7 rfl hl (by decide) rfl (fun ls hl => ?_)
  refine w_X2_threadsThatWait_L8 X hRf hRl ka _ (fun y11 y12 H locs ls h hM hl => ?_) _ _ _ _ _ _ h hM (lv_sub hl [2, 1, 0] rfl)
  refine lv_iload_n hx hb dX2_threadsThatWait_33 rfl (lv_at hl 1 rfl) ?_
  exact cz_reti X hM h rfl dX2_threadsThatWait_34
theorem mv_X2_lettersTurnedByAll : cz_MV yX2_lettersTurnedByAll cX2_lettersTurnedByAll 3 (some .int) RX2 0 := ⟨mi_X2_lettersTurnedByAll, ms_X2_lettersTurnedByAll, mc_X2_lettersTurnedByAll, ini_X2, by decide +kernel⟩
set_option maxHeartbeats 4000000 in
set_option maxRecDepth 100000 in
theorem w_X2_lettersTurnedByAll_L4 {p : Program} {l : Launch} {e : Env} {R : Room} {s : State} {m : MethodId} {args : Array Value} {below : List Frame} {meth : Method} {c : Code} {g : cz_G} {b : Nat} (X : cz_X p s m args meth c cX2_lettersTurnedByAll 3 RX2 g b (some .int)) (hRf : 0 ≤ R.frames) (hRl : 0 ≤ R.locals) {r0 : Int32} {a0 : Nat} {M : cz_M} (ka0 : cz_K b a0 2)
    (K : Int32 → Int32 → Option (Int32)) (hX : ∀ (x1 : Int32) (x2 : Int32)  (H : Heap) (locs : List Loc) (ls : Array Slot), K x1 x2 = some r0 → cz_WS g b M s H locs → lv_has ls 3 [(0, .ref a0), (1, .int x1), (2, .int x2)] → W p l e R s m args below meth c H locs 0 0 (MQ below (cz_Q g b (some (.int r0)) M) args s 0 0 (cz_Ar b)) (F0 m 27 ls [])) :
    ∀ (n : Nat) (x1 : Int32) (x2 : Int32)  (H : Heap) (locs : List Loc) (ls : Array Slot), cz_it2 (f_X2_lettersTurnedByAll_L4 a0 M K) n x1 x2 = some r0 → cz_WS g b M s H locs → lv_has ls 3 [(0, .ref a0), (1, .int x1), (2, .int x2)] → W p l e R s m args below meth c H locs 0 0 (MQ below (cz_Q g b (some (.int r0)) M) args s 0 0 (cz_Ar b)) (F0 m 4 ls []) := by
  obtain ⟨hx, hb, -, ho, ht, -⟩ := id X
  intro n
  induction n with
  | zero => intro x1 x2 H locs ls h; cases (show none = some _ from h)
  | succ n ih =>
    intro x1 x2 H locs ls h hM hl
    have h : f_X2_lettersTurnedByAll_L4 a0 M K (cz_it2 (f_X2_lettersTurnedByAll_L4 a0 M K) n) x1 x2 = some r0 := h
    rw [f_X2_lettersTurnedByAll_L4] at h
    refine lv_iload_n hx hb dX2_lettersTurnedByAll_4 rfl (lv_at hl 2 rfl) ?_
    refine lv_iconst (v := nI 4) hx hb dX2_lettersTurnedByAll_5 (by decide) ?_
    refine lv_icmp_ge (tgt := 27) hx hb dX2_lettersTurnedByAll_6 (by decide) (fun c1 => ?_) (fun c1 => ?_)
    · have h := cz_ite_t c1 h
      exact hX _ _ _ _ _ h hM (lv_sub hl [0, 1, 2] rfl)
    · have h := cz_ite_f c1 h
      refine lv_iload_n hx hb dX2_lettersTurnedByAll_9 rfl (lv_at hl 1 rfl) ?_
      refine lv_aload_n hx hb dX2_lettersTurnedByAll_10 rfl (lv_at hl 0 rfl) ?_
      refine cz_getR X hM ff_X2_1 ka0 lk_X2_17 dX2_lettersTurnedByAll_11 (fun hk2 => ?_)
      refine lv_iload_n hx hb dX2_lettersTurnedByAll_14 rfl (lv_at hl 2 rfl) ?_
      refine cz_aald0 X hM h hk2 dX2_lettersTurnedByAll_15 (fun h hk3 => ?_)
      refine cz_getI X hM ff_X0_3 hk3 lk_X2_105 dX2_lettersTurnedByAll_16 ?_
      refine lv_iadd hx hb dX2_lettersTurnedByAll_19 ?_
      refine cz_nmi h (fun v4 h => ?_)
      refine lv_istore_n (lv' := [(1, .int v4), (0, .ref a0), (2, .int x2)]) hx hb dX2_lettersTurnedByAll_20 rfl hl (by decide) rfl (fun ls hl => ?_)
      refine cz_nmL (v := x2 + nI 1) h (fun v5 e6 h => ?_)
      refine lv_iinc (v := v5) (lv' := [(2, .int v5), (1, .int v4), (0, .ref a0)]) hx hb dX2_lettersTurnedByAll_21 hl (k := 2) rfl (by rw [e6]; rfl) (by decide) rfl (fun ls hl => ?_)
      refine lv_goto (tgt := 4) hx hb dX2_lettersTurnedByAll_24 (by decide) ?_
      exact ih _ _ _ _ _ h hM (lv_sub hl [2, 1, 0] rfl)
set_option maxHeartbeats 4000000 in
set_option maxRecDepth 100000 in
theorem c_X2_lettersTurnedByAll {l : Launch} {g : cz_G} {b : Nat} {M : cz_M} {r0 : Int32} {a : Nat} (ka : cz_K b a 2) (h : f_X2_lettersTurnedByAll M a = some r0) : cz_C l yX2_lettersTurnedByAll cX2_lettersTurnedByAll 3 (some .int) 0 0 g b [.ref a] M (some (.int r0)) M := by
  refine cz_start (by decide) (Nat.le_of_ble_eq_true rfl) (fun p e s m args below meth c X H ls hM hl => ?_)
  have X : cz_X p s m args meth c cX2_lettersTurnedByAll 3 RX2 g b (some .int) := X
  obtain ⟨hx, hb, -, ho, ht, -⟩ := id X
  have hRf : 0 ≤ ({ frames := 0, cells := 0, slots := 0, locals := 0 } : Room).frames := Nat.le_refl _
  have hRl : 0 ≤ ({ frames := 0, cells := 0, slots := 0, locals := 0 } : Room).locals := Nat.le_refl _
  have hl : lv_has ls 3 [(0, .ref a)] := hl
  rw [f_X2_lettersTurnedByAll] at h
  refine lv_iconst (v := nI 0) hx hb dX2_lettersTurnedByAll_0 (by decide) ?_
  refine lv_istore_n (lv' := [(1, .int (nI 0)), (0, .ref a)]) hx hb dX2_lettersTurnedByAll_1 rfl hl (by decide) rfl (fun ls hl => ?_)
  refine lv_iconst (v := nI 0) hx hb dX2_lettersTurnedByAll_2 (by decide) ?_
  refine lv_istore_n (lv' := [(2, .int (nI 0)), (1, .int (nI 0)), (0, .ref a)]) hx hb dX2_lettersTurnedByAll_3 rfl hl (by decide) rfl (fun ls hl => ?_)
  refine w_X2_lettersTurnedByAll_L4 X hRf hRl ka _ (fun y7 y8 H locs ls h hM hl => ?_) _ _ _ _ _ _ h hM (lv_sub hl [2, 1, 0] rfl)
  refine lv_iload_n hx hb dX2_lettersTurnedByAll_27 rfl (lv_at hl 1 rfl) ?_
  exact cz_retp X hM h rfl dX2_lettersTurnedByAll_28
theorem mv_X2_fateIfRead : cz_MV yX2_fateIfRead cX2_fateIfRead 3 (some .int) RX2 2 := ⟨mi_X2_fateIfRead, ms_X2_fateIfRead, mc_X2_fateIfRead, ini_X2, by decide +kernel⟩
set_option maxHeartbeats 4000000 in
set_option maxRecDepth 100000 in
theorem c_X2_fateIfRead {l : Launch} {g : cz_G} {b : Nat} {M : cz_M} {r0 : Int32} {a : Nat} {a1 : Nat} {x2 : Int32} (ka : cz_K b a 2) (ka1 : cz_K b a1 1) (h : f_X2_fateIfRead M a a1 x2 = some r0) : cz_C l yX2_fateIfRead cX2_fateIfRead 3 (some .int) 1 26 g b [.ref a, .ref a1, .int x2] M (some (.int r0)) M := by
  refine cz_start (by decide) (Nat.le_of_ble_eq_true rfl) (fun p e s m args below meth c X H ls hM hl => ?_)
  have X : cz_X p s m args meth c cX2_fateIfRead 3 RX2 g b (some .int) := X
  obtain ⟨hx, hb, -, ho, ht, -⟩ := id X
  have hRf : 1 ≤ ({ frames := 1, cells := 0, slots := 0, locals := 26 } : Room).frames := Nat.le_refl _
  have hRl : 26 ≤ ({ frames := 1, cells := 0, slots := 0, locals := 26 } : Room).locals := Nat.le_refl _
  have hl : lv_has ls 3 [(0, .ref a), (1, .ref a1), (2, .int x2)] := hl
  rw [f_X2_fateIfRead] at h
  refine lv_aload_n hx hb dX2_fateIfRead_0 rfl (lv_at hl 1 rfl) ?_
  refine lv_iload_n hx hb dX2_fateIfRead_1 rfl (lv_at hl 2 rfl) ?_
  obtain ⟨v1, hq, h⟩ := cz_bd_t h
  refine cz_runV (rest := []) (As := [.int x2]) (T := TX1) (N0 := 11) X hM hl.1 (c_X1_placesOf (l := l) (g := g) (b := b) ka1 hq) mv_X1_placesOf rfl (by decide) ka1 ml_X2_133 ⟨Nat.le_trans (Nat.le_of_ble_eq_true rfl) hRf, Nat.le_trans (Nat.le_of_ble_eq_true rfl) hRl⟩ rfl rfl (Nat.le_of_ble_eq_true rfl) dX2_fateIfRead_2 (fun H locs hM => ?_)
  obtain ⟨v2, hq, h⟩ := cz_bd_t h
  refine cz_runS (rest := []) (As := [.int v1]) X hM hl.1 (c_J6_bitCount_0f7a4 (l := l) (g := g) (b := b)  hq) mv_J6_bitCount_0f7a4 ml_X2_137 ⟨Nat.le_trans (Nat.le_of_ble_eq_true rfl) hRf, Nat.le_trans (Nat.le_of_ble_eq_true rfl) hRl⟩ rfl rfl (Nat.le_of_ble_eq_true rfl) dX2_fateIfRead_5 (fun H locs hM => ?_)
  refine lv_aload_n hx hb dX2_fateIfRead_8 rfl (lv_at hl 0 rfl) ?_
  refine cz_getR X hM ff_X2_0 ka lk_X2_9 dX2_fateIfRead_9 (fun hk3 => ?_)
  refine lv_iconst (v := nI 1) hx hb dX2_fateIfRead_12 (by decide) ?_
  refine cz_iald (n := 3) X hM h hk3 (by decide) dX2_fateIfRead_13 (fun h => ?_)
  refine lv_icmp_gt (tgt := 19) hx hb dX2_fateIfRead_14 (by decide) (fun c4 => ?_) (fun c4 => ?_)
  · have h := cz_ite_t c4 h
    refine lv_aload_n hx hb dX2_fateIfRead_19 rfl (lv_at hl 1 rfl) ?_
    refine cz_getI X hM ff_X1_7 ka1 lk_X2_142 dX2_fateIfRead_20 ?_
    refine lv_iconst (v := nI 1) hx hb dX2_fateIfRead_23 (by decide) ?_
    refine lv_iadd hx hb dX2_fateIfRead_24 ?_
    refine lv_aload_n hx hb dX2_fateIfRead_25 rfl (lv_at hl 0 rfl) ?_
    refine cz_getR X hM ff_X2_0 ka lk_X2_9 dX2_fateIfRead_26 (fun hk5 => ?_)
    refine lv_iconst (v := nI 2) hx hb dX2_fateIfRead_29 (by decide) ?_
    refine cz_iald (n := 3) X hM h hk5 (by decide) dX2_fateIfRead_30 (fun h => ?_)
    refine lv_icmp_lt (tgt := 38) hx hb dX2_fateIfRead_31 (by decide) (fun c6 => ?_) (fun c6 => ?_)
    · have h := cz_ite_t c6 h
      refine lv_iconst (v := nI 4) hx hb dX2_fateIfRead_38 (by decide) ?_
      exact cz_retp X hM h rfl dX2_fateIfRead_39
    · have h := cz_ite_f c6 h
      refine lv_iconst (v := nI 5) hx hb dX2_fateIfRead_34 (by decide) ?_
      refine lv_goto (tgt := 39) hx hb dX2_fateIfRead_35 (by decide) ?_
      exact cz_retp X hM h rfl dX2_fateIfRead_39
  · have h := cz_ite_f c4 h
    refine lv_iconst (v := nI 0) hx hb dX2_fateIfRead_17 (by decide) ?_
    exact cz_retp X hM h rfl dX2_fateIfRead_18
theorem mv_X2_judgeRow : cz_MV yX2_judgeRow cX2_judgeRow 8 none RX2 1 := ⟨mi_X2_judgeRow, ms_X2_judgeRow, mc_X2_judgeRow, ini_X2, by decide +kernel⟩
set_option maxHeartbeats 4000000 in
set_option maxRecDepth 100000 in
theorem w_X2_judgeRow_L31 {p : Program} {l : Launch} {e : Env} {R : Room} {s : State} {m : MethodId} {args : Array Value} {below : List Frame} {meth : Method} {c : Code} {g : cz_G} {b : Nat} (X : cz_X p s m args meth c cX2_judgeRow 8 RX2 g b none) (hRf : 2 ≤ R.frames) (hRl : 48 ≤ R.locals) {M9 : cz_M} {a0 : Nat} {a2 : Nat} {x3 : Int32} (ka0 : cz_K b a0 2) (ka2 : cz_K b a2 3)
    (K : Int32 → Int32 → cz_M → Option (cz_M)) (hX : ∀ (x4 : Int32) (x5 : Int32)  (M : cz_M) (H : Heap) (locs : List Loc) (ls : Array Slot), K x4 x5 M = some M9 → cz_WS g b M s H locs → lv_has ls 8 [(0, .ref a0), (2, .ref a2), (3, .int x3), (4, .int x4), (5, .int x5)] → W p l e R s m args below meth c H locs 0 0 (MQ below (cz_Q g b none M9) args s 0 0 (cz_Ar b)) (F0 m 123 ls [])) :
    ∀ (n : Nat) (x4 : Int32) (x5 : Int32)  (M : cz_M) (H : Heap) (locs : List Loc) (ls : Array Slot), cz_it3 (f_X2_judgeRow_L31 a0 a2 x3 K) n x4 x5 M = some M9 → cz_WS g b M s H locs → lv_has ls 8 [(0, .ref a0), (2, .ref a2), (3, .int x3), (4, .int x4), (5, .int x5)] → W p l e R s m args below meth c H locs 0 0 (MQ below (cz_Q g b none M9) args s 0 0 (cz_Ar b)) (F0 m 31 ls []) := by
  obtain ⟨hx, hb, -, ho, ht, -⟩ := id X
  intro n
  induction n with
  | zero => intro x4 x5 M H locs ls h; cases (show none = some _ from h)
  | succ n ih =>
    intro x4 x5 M H locs ls h hM hl
    have h : f_X2_judgeRow_L31 a0 a2 x3 K (cz_it3 (f_X2_judgeRow_L31 a0 a2 x3 K) n) x4 x5 M = some M9 := h
    rw [f_X2_judgeRow_L31] at h
    refine lv_iload hx hb dX2_judgeRow_31 (lv_at hl 4 rfl) ?_
    refine lv_aload_n hx hb dX2_judgeRow_33 rfl (lv_at hl 1 rfl) ?_
    refine cz_getI X hM ff_X3_1 ka2 lk_X2_111 dX2_judgeRow_34 ?_
    refine lv_icmp_ge (tgt := 123) hx hb dX2_judgeRow_37 (by decide) (fun c9 => ?_) (fun c9 => ?_)
    · have h := cz_ite_t c9 h
      exact hX _ _ _ _ _ _ h hM (lv_sub hl [0, 1, 2, 3, 4] rfl)
    · have h := cz_ite_f c9 h
      refine lv_aload_n hx hb dX2_judgeRow_40 rfl (lv_at hl 1 rfl) ?_
      refine cz_getR X hM ff_X3_0 ka2 lk_X2_114 dX2_judgeRow_41 (fun hk10 => ?_)
      refine lv_iload hx hb dX2_judgeRow_44 (lv_at hl 4 rfl) ?_
      refine cz_iald (n := 40) X hM h hk10 (by decide) dX2_judgeRow_46 (fun h => ?_)
      refine cz_nmi h (fun v11 h => ?_)
      refine lv_istore (lv' := [(6, .int v11), (0, .ref a0), (2, .ref a2), (3, .int x3), (4, .int x4), (5, .int x5)]) hx hb dX2_judgeRow_47 hl (by decide) rfl (fun ls hl => ?_)
      refine lv_aload_n hx hb dX2_judgeRow_49 rfl (lv_at hl 1 rfl) ?_
      refine cz_getR X hM ff_X2_3 ka0 lk_X2_26 dX2_judgeRow_50 (fun hk12 => ?_)
      refine lv_iload hx hb dX2_judgeRow_53 (lv_at hl 0 rfl) ?_
      refine cz_aald1 X hM h hk12 dX2_judgeRow_55 (fun h hk13 => ?_)
      refine cz_nmr h hk13 (fun r14 h hk15 => ?_)
      refine lv_astore (lv' := [(7, .ref r14), (6, .int v11), (0, .ref a0), (2, .ref a2), (3, .int x3), (4, .int x4), (5, .int x5)]) hx hb dX2_judgeRow_56 hl (by decide) rfl (fun ls hl => ?_)
      refine lv_aload_n hx hb dX2_judgeRow_58 rfl (lv_at hl 2 rfl) ?_
      refine cz_getR X hM ff_X2_6 ka0 lk_X2_41 dX2_judgeRow_59 (fun hk16 => ?_)
      refine lv_aload hx hb dX2_judgeRow_62 (lv_at hl 0 rfl) ?_
      refine cz_getI X hM ff_X1_0 hk15 lk_X2_86 dX2_judgeRow_64 ?_
      refine cz_iald (n := 5) X hM h hk16 (by decide) dX2_judgeRow_67 (fun h => ?_)
      refine lv_iload hx hb dX2_judgeRow_68 (lv_at hl 1 rfl) ?_
      refine lv_icmp_eq (tgt := 82) hx hb dX2_judgeRow_70 (by decide) (fun c17 => ?_) (fun c17 => ?_)
      · have h := cz_ite_t c17 h
        refine lv_iload hx hb dX2_judgeRow_82 (lv_at hl 5 rfl) ?_
        refine lv_aload_n hx hb dX2_judgeRow_84 rfl (lv_at hl 2 rfl) ?_
        refine cz_getR X hM ff_X2_0 ka0 lk_X2_9 dX2_judgeRow_85 (fun hk18 => ?_)
        refine lv_iconst (v := nI 0) hx hb dX2_judgeRow_88 (by decide) ?_
        refine cz_iald (n := 3) X hM h hk18 (by decide) dX2_judgeRow_89 (fun h => ?_)
        refine lv_icmp_lt (tgt := 102) hx hb dX2_judgeRow_90 (by decide) (fun c19 => ?_) (fun c19 => ?_)
        · have h := cz_ite_t c19 h
          refine lv_aload hx hb dX2_judgeRow_102 (lv_at hl 0 rfl) ?_
          refine lv_aload_n hx hb dX2_judgeRow_104 rfl (lv_at hl 2 rfl) ?_
          refine lv_aload hx hb dX2_judgeRow_105 (lv_at hl 0 rfl) ?_
          refine lv_iload_n hx hb dX2_judgeRow_107 rfl (lv_at hl 4 rfl) ?_
          obtain ⟨v20, hq, h⟩ := cz_bd_t h
          refine cz_runV (rest := [.ref r14]) (As := [.ref r14, .int x3]) (T := TX2) (N0 := 9) X hM hl.1 (c_X2_fateIfRead (l := l) (g := g) (b := b) ka0 hk15 hq) mv_X2_fateIfRead rfl (by decide) ka0 ml_X2_129 ⟨Nat.le_trans (Nat.le_of_ble_eq_true rfl) hRf, Nat.le_trans (Nat.le_of_ble_eq_true rfl) hRl⟩ rfl rfl (Nat.le_of_ble_eq_true rfl) dX2_judgeRow_108 (fun H locs hM => ?_)
          refine cz_putI X hM h ff_X1_10 hk15 lk_X2_126 dX2_judgeRow_111 (fun M21 H locs h hM => ?_)
          refine cz_nmL (v := x4 + nI 1) h (fun v22 e23 h => ?_)
          refine lv_iinc (v := v22) (lv' := [(4, .int v22), (7, .ref r14), (6, .int v11), (0, .ref a0), (2, .ref a2), (3, .int x3), (5, .int x5)]) hx hb dX2_judgeRow_114 hl (k := 5) rfl (by rw [e23]; rfl) (by decide) rfl (fun ls hl => ?_)
          refine cz_nmL (v := x5 + nI 1) h (fun v24 e25 h => ?_)
          refine lv_iinc (v := v24) (lv' := [(5, .int v24), (4, .int v22), (7, .ref r14), (6, .int v11), (0, .ref a0), (2, .ref a2), (3, .int x3)]) hx hb dX2_judgeRow_117 hl (k := 6) rfl (by rw [e25]; rfl) (by decide) rfl (fun ls hl => ?_)
          refine lv_goto (tgt := 31) hx hb dX2_judgeRow_120 (by decide) ?_
          exact ih _ _ _ _ _ _ h hM (lv_sub hl [4, 5, 6, 1, 0] rfl)
        · have h := cz_ite_f c19 h
          refine lv_aload hx hb dX2_judgeRow_93 (lv_at hl 0 rfl) ?_
          refine lv_iconst (v := nI 3) hx hb dX2_judgeRow_95 (by decide) ?_
          refine cz_putI X hM h ff_X1_10 hk15 lk_X2_126 dX2_judgeRow_96 (fun M26 H locs h hM => ?_)
          refine lv_goto (tgt := 117) hx hb dX2_judgeRow_99 (by decide) ?_
          refine cz_nmL (v := x5 + nI 1) h (fun v27 e28 h => ?_)
          refine lv_iinc (v := v27) (lv' := [(5, .int v27), (7, .ref r14), (6, .int v11), (0, .ref a0), (2, .ref a2), (3, .int x3), (4, .int x4)]) hx hb dX2_judgeRow_117 hl (k := 6) rfl (by rw [e28]; rfl) (by decide) rfl (fun ls hl => ?_)
          refine lv_goto (tgt := 31) hx hb dX2_judgeRow_120 (by decide) ?_
          exact ih _ _ _ _ _ _ h hM (lv_sub hl [3, 4, 5, 6, 0] rfl)
      · have h := cz_ite_f c17 h
        refine lv_aload hx hb dX2_judgeRow_73 (lv_at hl 0 rfl) ?_
        refine lv_iconst (v := nI 2) hx hb dX2_judgeRow_75 (by decide) ?_
        refine cz_putI X hM h ff_X1_10 hk15 lk_X2_126 dX2_judgeRow_76 (fun M29 H locs h hM => ?_)
        refine lv_goto (tgt := 117) hx hb dX2_judgeRow_79 (by decide) ?_
        refine cz_nmL (v := x5 + nI 1) h (fun v30 e31 h => ?_)
        refine lv_iinc (v := v30) (lv' := [(5, .int v30), (7, .ref r14), (6, .int v11), (0, .ref a0), (2, .ref a2), (3, .int x3), (4, .int x4)]) hx hb dX2_judgeRow_117 hl (k := 6) rfl (by rw [e31]; rfl) (by decide) rfl (fun ls hl => ?_)
        refine lv_goto (tgt := 31) hx hb dX2_judgeRow_120 (by decide) ?_
        exact ih _ _ _ _ _ _ h hM (lv_sub hl [3, 4, 5, 6, 0] rfl)
set_option maxHeartbeats 4000000 in
set_option maxRecDepth 100000 in
theorem c_X2_judgeRow {l : Launch} {g : cz_G} {b : Nat} {M : cz_M} {M9 : cz_M} {a : Nat} {x1 : Int32} (ka : cz_K b a 2) (h : f_X2_judgeRow M a x1 = some M9) : cz_C l yX2_judgeRow cX2_judgeRow 8 none 2 48 g b [.ref a, .int x1] M none M9 := by
  refine cz_start (by decide) (Nat.le_of_ble_eq_true rfl) (fun p e s m args below meth c X H ls hM hl => ?_)
  have X : cz_X p s m args meth c cX2_judgeRow 8 RX2 g b none := X
  obtain ⟨hx, hb, -, ho, ht, -⟩ := id X
  have hRf : 2 ≤ ({ frames := 2, cells := 0, slots := 0, locals := 48 } : Room).frames := Nat.le_refl _
  have hRl : 48 ≤ ({ frames := 2, cells := 0, slots := 0, locals := 48 } : Room).locals := Nat.le_refl _
  have hl : lv_has ls 8 [(0, .ref a), (1, .int x1)] := hl
  rw [f_X2_judgeRow] at h
  refine lv_aload_n hx hb dX2_judgeRow_0 rfl (lv_at hl 0 rfl) ?_
  refine cz_getR X hM ff_X2_4 ka lk_X2_32 dX2_judgeRow_1 (fun hk1 => ?_)
  refine lv_iload_n hx hb dX2_judgeRow_4 rfl (lv_at hl 1 rfl) ?_
  refine cz_aald2 X hM h hk1 dX2_judgeRow_5 (fun h hk2 => ?_)
  refine cz_nmr h hk2 (fun r3 h hk4 => ?_)
  refine lv_astore_n (lv' := [(2, .ref r3), (0, .ref a), (1, .int x1)]) hx hb dX2_judgeRow_6 rfl hl (by decide) rfl (fun ls hl => ?_)
  refine lv_aload_n hx hb dX2_judgeRow_7 rfl (lv_at hl 1 rfl) ?_
  refine cz_getR X hM ff_X2_1 ka lk_X2_17 dX2_judgeRow_8 (fun hk5 => ?_)
  refine lv_aload_n hx hb dX2_judgeRow_11 rfl (lv_at hl 1 rfl) ?_
  refine lv_aload_n hx hb dX2_judgeRow_12 rfl (lv_at hl 1 rfl) ?_
  refine cz_getI X hM ff_X2_8 ka lk_X2_66 dX2_judgeRow_13 ?_
  refine lv_iload_n hx hb dX2_judgeRow_16 rfl (lv_at hl 2 rfl) ?_
  obtain ⟨v6, hq, h⟩ := cz_bd_t h
  refine cz_runV (rest := [.ref (a + 2)]) (As := [.int (M.1 a 8), .int x1]) (T := TX2) (N0 := 9) X hM hl.1 (c_X2_censorNumber (l := l) (g := g) (b := b) ka hq) mv_X2_censorNumber rfl (by decide) ka ml_X2_120 ⟨Nat.le_trans (Nat.le_of_ble_eq_true rfl) hRf, Nat.le_trans (Nat.le_of_ble_eq_true rfl) hRl⟩ rfl rfl (Nat.le_of_ble_eq_true rfl) dX2_judgeRow_17 (fun H locs hM => ?_)
  refine cz_aald0 X hM h hk5 dX2_judgeRow_20 (fun h hk7 => ?_)
  refine cz_getI X hM ff_X0_0 hk7 lk_X2_123 dX2_judgeRow_21 ?_
  refine cz_nmi h (fun v8 h => ?_)
  refine lv_istore_n (lv' := [(3, .int v8), (2, .ref r3), (0, .ref a), (1, .int x1)]) hx hb dX2_judgeRow_24 rfl hl (by decide) rfl (fun ls hl => ?_)
  refine lv_iconst (v := nI 0) hx hb dX2_judgeRow_25 (by decide) ?_
  refine lv_istore (lv' := [(4, .int (nI 0)), (3, .int v8), (2, .ref r3), (0, .ref a), (1, .int x1)]) hx hb dX2_judgeRow_26 hl (by decide) rfl (fun ls hl => ?_)
  refine lv_iconst (v := nI 0) hx hb dX2_judgeRow_28 (by decide) ?_
  refine lv_istore (lv' := [(5, .int (nI 0)), (4, .int (nI 0)), (3, .int v8), (2, .ref r3), (0, .ref a), (1, .int x1)]) hx hb dX2_judgeRow_29 hl (by decide) rfl (fun ls hl => ?_)
  refine w_X2_judgeRow_L31 X hRf hRl ka hk4 _ (fun y32 y33 M34 H locs ls h hM hl => ?_) _ _ _ _ _ _ _ h hM (lv_sub hl [4, 3, 2, 1, 0] rfl)
  exact cz_retv X hM h dX2_judgeRow_123
theorem mv_X2_judgeWeek : cz_MV yX2_judgeWeek cX2_judgeWeek 2 none RX2 0 := ⟨mi_X2_judgeWeek, ms_X2_judgeWeek, mc_X2_judgeWeek, ini_X2, by decide +kernel⟩
set_option maxHeartbeats 4000000 in
set_option maxRecDepth 100000 in
theorem w_X2_judgeWeek_L6 {p : Program} {l : Launch} {e : Env} {R : Room} {s : State} {m : MethodId} {args : Array Value} {below : List Frame} {meth : Method} {c : Code} {g : cz_G} {b : Nat} (X : cz_X p s m args meth c cX2_judgeWeek 2 RX2 g b none) (hRf : 3 ≤ R.frames) (hRl : 75 ≤ R.locals) {M9 : cz_M} {a0 : Nat} (ka0 : cz_K b a0 2)
    (K : Int32 → cz_M → Option (cz_M)) (hX : ∀ (x1 : Int32)  (M : cz_M) (H : Heap) (locs : List Loc) (ls : Array Slot), K x1 M = some M9 → cz_WS g b M s H locs → lv_has ls 2 [(0, .ref a0), (1, .int x1)] → W p l e R s m args below meth c H locs 0 0 (MQ below (cz_Q g b none M9) args s 0 0 (cz_Ar b)) (F0 m 22 ls [])) :
    ∀ (n : Nat) (x1 : Int32)  (M : cz_M) (H : Heap) (locs : List Loc) (ls : Array Slot), cz_it2 (f_X2_judgeWeek_L6 a0 K) n x1 M = some M9 → cz_WS g b M s H locs → lv_has ls 2 [(0, .ref a0), (1, .int x1)] → W p l e R s m args below meth c H locs 0 0 (MQ below (cz_Q g b none M9) args s 0 0 (cz_Ar b)) (F0 m 6 ls []) := by
  obtain ⟨hx, hb, -, ho, ht, -⟩ := id X
  intro n
  induction n with
  | zero => intro x1 M H locs ls h; cases (show none = some _ from h)
  | succ n ih =>
    intro x1 M H locs ls h hM hl
    have h : f_X2_judgeWeek_L6 a0 K (cz_it2 (f_X2_judgeWeek_L6 a0 K) n) x1 M = some M9 := h
    rw [f_X2_judgeWeek_L6] at h
    refine lv_iload_n hx hb dX2_judgeWeek_6 rfl (lv_at hl 1 rfl) ?_
    refine lv_iconst (v := nI 2) hx hb dX2_judgeWeek_7 (by decide) ?_
    refine lv_icmp_ge (tgt := 22) hx hb dX2_judgeWeek_8 (by decide) (fun c2 => ?_) (fun c2 => ?_)
    · have h := cz_ite_t c2 h
      exact hX _ _ _ _ _ h hM (lv_sub hl [0, 1] rfl)
    · have h := cz_ite_f c2 h
      refine lv_aload_n hx hb dX2_judgeWeek_11 rfl (lv_at hl 0 rfl) ?_
      refine lv_iload_n hx hb dX2_judgeWeek_12 rfl (lv_at hl 1 rfl) ?_
      obtain ⟨M3, hq, h⟩ := cz_bd_t h
      refine cz_runV (rest := []) (As := [.int x1]) (T := TX2) (N0 := 9) X hM hl.1 (c_X2_judgeRow (l := l) (g := g) (b := b) ka0 hq) mv_X2_judgeRow rfl (by decide) ka0 ml_X2_117 ⟨Nat.le_trans (Nat.le_of_ble_eq_true rfl) hRf, Nat.le_trans (Nat.le_of_ble_eq_true rfl) hRl⟩ rfl rfl (Nat.le_of_ble_eq_true rfl) dX2_judgeWeek_13 (fun H locs hM => ?_)
      refine cz_nmL (v := x1 + nI 1) h (fun v4 e5 h => ?_)
      refine lv_iinc (v := v4) (lv' := [(1, .int v4), (0, .ref a0)]) hx hb dX2_judgeWeek_16 hl (k := 1) rfl (by rw [e5]; rfl) (by decide) rfl (fun ls hl => ?_)
      refine lv_goto (tgt := 6) hx hb dX2_judgeWeek_19 (by decide) ?_
      exact ih _ _ _ _ _ h hM (lv_sub hl [1, 0] rfl)
set_option maxHeartbeats 4000000 in
set_option maxRecDepth 100000 in
theorem c_X2_judgeWeek {l : Launch} {g : cz_G} {b : Nat} {M : cz_M} {M9 : cz_M} {a : Nat} (ka : cz_K b a 2) (h : f_X2_judgeWeek M a = some M9) : cz_C l yX2_judgeWeek cX2_judgeWeek 2 none 3 75 g b [.ref a] M none M9 := by
  refine cz_start (by decide) (Nat.le_of_ble_eq_true rfl) (fun p e s m args below meth c X H ls hM hl => ?_)
  have X : cz_X p s m args meth c cX2_judgeWeek 2 RX2 g b none := X
  obtain ⟨hx, hb, -, ho, ht, -⟩ := id X
  have hRf : 3 ≤ ({ frames := 3, cells := 0, slots := 0, locals := 75 } : Room).frames := Nat.le_refl _
  have hRl : 75 ≤ ({ frames := 3, cells := 0, slots := 0, locals := 75 } : Room).locals := Nat.le_refl _
  have hl : lv_has ls 2 [(0, .ref a)] := hl
  rw [f_X2_judgeWeek] at h
  refine lv_aload_n hx hb dX2_judgeWeek_0 rfl (lv_at hl 0 rfl) ?_
  obtain ⟨M1, hq, h⟩ := cz_bd_t h
  refine cz_runV (rest := []) (As := []) (T := TX2) (N0 := 9) X hM hl.1 (c_X2_findHeads (l := l) (g := g) (b := b) ka hq) mv_X2_findHeads rfl (by decide) ka ml_X2_102 ⟨Nat.le_trans (Nat.le_of_ble_eq_true rfl) hRf, Nat.le_trans (Nat.le_of_ble_eq_true rfl) hRl⟩ rfl rfl (Nat.le_of_ble_eq_true rfl) dX2_judgeWeek_1 (fun H locs hM => ?_)
  refine lv_iconst (v := nI 0) hx hb dX2_judgeWeek_4 (by decide) ?_
  refine lv_istore_n (lv' := [(1, .int (nI 0)), (0, .ref a)]) hx hb dX2_judgeWeek_5 rfl hl (by decide) rfl (fun ls hl => ?_)
  refine w_X2_judgeWeek_L6 X hRf hRl ka _ (fun y6 M7 H locs ls h hM hl => ?_) _ _ _ _ _ _ h hM (lv_sub hl [1, 0] rfl)
  exact cz_retv X hM h dX2_judgeWeek_22
theorem mv_X2_letThrough : cz_MV yX2_letThrough cX2_letThrough 3 none RX2 2 := ⟨mi_X2_letThrough, ms_X2_letThrough, mc_X2_letThrough, ini_X2, by decide +kernel⟩
set_option maxHeartbeats 4000000 in
set_option maxRecDepth 100000 in
theorem c_X2_letThrough {l : Launch} {g : cz_G} {b : Nat} {M : cz_M} {M9 : cz_M} {a : Nat} {a1 : Nat} {x2 : Int32} (ka : cz_K b a 2) (ka1 : cz_K b a1 1) (h : f_X2_letThrough M a a1 x2 = some M9) : cz_C l yX2_letThrough cX2_letThrough 3 none 2 40 g b [.ref a, .ref a1, .int x2] M none M9 := by
  refine cz_start (by decide) (Nat.le_of_ble_eq_true rfl) (fun p e s m args below meth c X H ls hM hl => ?_)
  have X : cz_X p s m args meth c cX2_letThrough 3 RX2 g b none := X
  obtain ⟨hx, hb, -, ho, ht, -⟩ := id X
  have hRf : 2 ≤ ({ frames := 2, cells := 0, slots := 0, locals := 40 } : Room).frames := Nat.le_refl _
  have hRl : 40 ≤ ({ frames := 2, cells := 0, slots := 0, locals := 40 } : Room).locals := Nat.le_refl _
  have hl : lv_has ls 3 [(0, .ref a), (1, .ref a1), (2, .int x2)] := hl
  rw [f_X2_letThrough] at h
  refine lv_aload_n hx hb dX2_letThrough_0 rfl (lv_at hl 1 rfl) ?_
  refine lv_aload_n hx hb dX2_letThrough_1 rfl (lv_at hl 1 rfl) ?_
  refine lv_aload_n hx hb dX2_letThrough_2 rfl (lv_at hl 0 rfl) ?_
  refine cz_getR X hM ff_X2_1 ka lk_X2_17 dX2_letThrough_3 (fun hk1 => ?_)
  refine lv_iload_n hx hb dX2_letThrough_6 rfl (lv_at hl 2 rfl) ?_
  refine cz_aald0 X hM h hk1 dX2_letThrough_7 (fun h hk2 => ?_)
  refine cz_getI X hM ff_X0_0 hk2 lk_X2_123 dX2_letThrough_8 ?_
  obtain ⟨v3, hq, h⟩ := cz_bd_t h
  refine cz_runV (rest := [.ref a1]) (As := [.int (M.1 ((a + 2) + (7 + Int32.toNatClampNeg x2)) 0)]) (T := TX1) (N0 := 11) X hM hl.1 (c_X1_placesOf (l := l) (g := g) (b := b) ka1 hq) mv_X1_placesOf rfl (by decide) ka1 ml_X2_133 ⟨Nat.le_trans (Nat.le_of_ble_eq_true rfl) hRf, Nat.le_trans (Nat.le_of_ble_eq_true rfl) hRl⟩ rfl rfl (Nat.le_of_ble_eq_true rfl) dX2_letThrough_11 (fun H locs hM => ?_)
  refine cz_putI X hM h ff_X1_8 ka1 lk_X2_165 dX2_letThrough_14 (fun M4 H locs h hM => ?_)
  refine lv_aload_n hx hb dX2_letThrough_17 rfl (lv_at hl 1 rfl) ?_
  refine lv_iconst (v := nI 1) hx hb dX2_letThrough_18 (by decide) ?_
  refine cz_putI X hM h ff_X1_5 ka1 lk_X2_80 dX2_letThrough_19 (fun M5 H locs h hM => ?_)
  refine lv_aload_n hx hb dX2_letThrough_22 rfl (lv_at hl 1 rfl) ?_
  refine lv_aload_n hx hb dX2_letThrough_23 rfl (lv_at hl 0 rfl) ?_
  refine cz_getI X hM ff_X2_8 ka lk_X2_66 dX2_letThrough_24 ?_
  refine lv_iconst (v := nI 1) hx hb dX2_letThrough_27 (by decide) ?_
  refine lv_iadd hx hb dX2_letThrough_28 ?_
  refine lv_aload_n hx hb dX2_letThrough_29 rfl (lv_at hl 1 rfl) ?_
  refine cz_getI X hM ff_X1_4 ka1 lk_X2_168 dX2_letThrough_30 ?_
  refine lv_isub hx hb dX2_letThrough_33 ?_
  refine cz_putI X hM h ff_X1_6 ka1 lk_X2_89 dX2_letThrough_34 (fun M6 H locs h hM => ?_)
  refine lv_aload_n hx hb dX2_letThrough_37 rfl (lv_at hl 1 rfl) ?_
  refine lv_iload_n hx hb dX2_letThrough_38 rfl (lv_at hl 2 rfl) ?_
  refine cz_putI X hM h ff_X1_9 ka1 lk_X2_171 dX2_letThrough_39 (fun M7 H locs h hM => ?_)
  refine lv_aload_n hx hb dX2_letThrough_42 rfl (lv_at hl 0 rfl) ?_
  refine cz_getR X hM ff_X2_1 ka lk_X2_17 dX2_letThrough_43 (fun hk8 => ?_)
  refine lv_iload_n hx hb dX2_letThrough_46 rfl (lv_at hl 2 rfl) ?_
  refine cz_aald0 X hM h hk8 dX2_letThrough_47 (fun h hk9 => ?_)
  refine lv_dup hx hb dX2_letThrough_48 rfl ?_
  refine cz_getI X hM ff_X0_1 hk9 lk_X2_174 dX2_letThrough_49 ?_
  refine lv_iconst (v := nI 1) hx hb dX2_letThrough_52 (by decide) ?_
  refine lv_iadd hx hb dX2_letThrough_53 ?_
  refine cz_putI X hM h ff_X0_1 hk9 lk_X2_174 dX2_letThrough_54 (fun M10 H locs h hM => ?_)
  refine lv_aload_n hx hb dX2_letThrough_57 rfl (lv_at hl 0 rfl) ?_
  refine cz_getR X hM ff_X2_1 ka lk_X2_17 dX2_letThrough_58 (fun hk11 => ?_)
  refine lv_iload_n hx hb dX2_letThrough_61 rfl (lv_at hl 2 rfl) ?_
  refine cz_aald0 X hM h hk11 dX2_letThrough_62 (fun h hk12 => ?_)
  refine lv_dup hx hb dX2_letThrough_63 rfl ?_
  refine cz_getI X hM ff_X0_2 hk12 lk_X2_177 dX2_letThrough_64 ?_
  refine lv_aload_n hx hb dX2_letThrough_67 rfl (lv_at hl 1 rfl) ?_
  obtain ⟨v13, hq, h⟩ := cz_bd_t h
  refine cz_runV (rest := [.int (M10.1 ((a + 2) + (7 + Int32.toNatClampNeg x2)) 2), .ref ((a + 2) + (7 + Int32.toNatClampNeg x2))]) (As := []) (T := TX1) (N0 := 11) X hM hl.1 (c_X1_struckCount (l := l) (g := g) (b := b) ka1 hq) mv_X1_struckCount rfl (by decide) ka1 ml_X2_98 ⟨Nat.le_trans (Nat.le_of_ble_eq_true rfl) hRf, Nat.le_trans (Nat.le_of_ble_eq_true rfl) hRl⟩ rfl rfl (Nat.le_of_ble_eq_true rfl) dX2_letThrough_68 (fun H locs hM => ?_)
  refine lv_iadd hx hb dX2_letThrough_71 ?_
  refine cz_putI X hM h ff_X0_2 hk12 lk_X2_177 dX2_letThrough_72 (fun M14 H locs h hM => ?_)
  exact cz_retv X hM h dX2_letThrough_75
theorem mv_X2_turnBack : cz_MV yX2_turnBack cX2_turnBack 3 none RX2 2 := ⟨mi_X2_turnBack, ms_X2_turnBack, mc_X2_turnBack, ini_X2, by decide +kernel⟩
set_option maxHeartbeats 4000000 in
set_option maxRecDepth 100000 in
theorem c_X2_turnBack {l : Launch} {g : cz_G} {b : Nat} {M : cz_M} {M9 : cz_M} {a : Nat} {a1 : Nat} {x2 : Int32} (ka : cz_K b a 2) (ka1 : cz_K b a1 1) (h : f_X2_turnBack M a a1 x2 = some M9) : cz_C l yX2_turnBack cX2_turnBack 3 none 0 0 g b [.ref a, .ref a1, .int x2] M none M9 := by
  refine cz_start (by decide) (Nat.le_of_ble_eq_true rfl) (fun p e s m args below meth c X H ls hM hl => ?_)
  have X : cz_X p s m args meth c cX2_turnBack 3 RX2 g b none := X
  obtain ⟨hx, hb, -, ho, ht, -⟩ := id X
  have hRf : 0 ≤ ({ frames := 0, cells := 0, slots := 0, locals := 0 } : Room).frames := Nat.le_refl _
  have hRl : 0 ≤ ({ frames := 0, cells := 0, slots := 0, locals := 0 } : Room).locals := Nat.le_refl _
  have hl : lv_has ls 3 [(0, .ref a), (1, .ref a1), (2, .int x2)] := hl
  rw [f_X2_turnBack] at h
  refine lv_aload_n hx hb dX2_turnBack_0 rfl (lv_at hl 1 rfl) ?_
  refine lv_dup hx hb dX2_turnBack_1 rfl ?_
  refine cz_getI X hM ff_X1_7 ka1 lk_X2_142 dX2_turnBack_2 ?_
  refine lv_iconst (v := nI 1) hx hb dX2_turnBack_5 (by decide) ?_
  refine lv_iadd hx hb dX2_turnBack_6 ?_
  refine cz_putI X hM h ff_X1_7 ka1 lk_X2_142 dX2_turnBack_7 (fun M1 H locs h hM => ?_)
  refine lv_aload_n hx hb dX2_turnBack_10 rfl (lv_at hl 1 rfl) ?_
  refine cz_getI X hM ff_X1_10 ka1 lk_X2_126 dX2_turnBack_11 ?_
  refine lv_iconst (v := nI 5) hx hb dX2_turnBack_14 (by decide) ?_
  refine lv_icmp_ne (tgt := 23) hx hb dX2_turnBack_15 (by decide) (fun c2 => ?_) (fun c2 => ?_)
  · have h := cz_ite_f c2 h
    refine lv_aload_n hx hb dX2_turnBack_23 rfl (lv_at hl 0 rfl) ?_
    refine cz_getR X hM ff_X2_1 ka lk_X2_17 dX2_turnBack_24 (fun hk3 => ?_)
    refine lv_iload_n hx hb dX2_turnBack_27 rfl (lv_at hl 2 rfl) ?_
    refine cz_aald0 X hM h hk3 dX2_turnBack_28 (fun h hk4 => ?_)
    refine lv_dup hx hb dX2_turnBack_29 rfl ?_
    refine cz_getI X hM ff_X0_1 hk4 lk_X2_174 dX2_turnBack_30 ?_
    refine lv_iconst (v := nI 1) hx hb dX2_turnBack_33 (by decide) ?_
    refine lv_iadd hx hb dX2_turnBack_34 ?_
    refine cz_putI X hM h ff_X0_1 hk4 lk_X2_174 dX2_turnBack_35 (fun M5 H locs h hM => ?_)
    refine lv_aload_n hx hb dX2_turnBack_38 rfl (lv_at hl 0 rfl) ?_
    refine cz_getR X hM ff_X2_1 ka lk_X2_17 dX2_turnBack_39 (fun hk6 => ?_)
    refine lv_iload_n hx hb dX2_turnBack_42 rfl (lv_at hl 2 rfl) ?_
    refine cz_aald0 X hM h hk6 dX2_turnBack_43 (fun h hk7 => ?_)
    refine lv_dup hx hb dX2_turnBack_44 rfl ?_
    refine cz_getI X hM ff_X0_3 hk7 lk_X2_105 dX2_turnBack_45 ?_
    refine lv_iconst (v := nI 1) hx hb dX2_turnBack_48 (by decide) ?_
    refine lv_iadd hx hb dX2_turnBack_49 ?_
    refine cz_putI X hM h ff_X0_3 hk7 lk_X2_105 dX2_turnBack_50 (fun M8 H locs h hM => ?_)
    exact cz_retv X hM h dX2_turnBack_53
  · have h := cz_ite_t c2 h
    refine lv_aload_n hx hb dX2_turnBack_18 rfl (lv_at hl 1 rfl) ?_
    refine lv_iconst (v := nI 2) hx hb dX2_turnBack_19 (by decide) ?_
    refine cz_putI X hM h ff_X1_5 ka1 lk_X2_80 dX2_turnBack_20 (fun M9 H locs h hM => ?_)
    refine lv_aload_n hx hb dX2_turnBack_23 rfl (lv_at hl 0 rfl) ?_
    refine cz_getR X hM ff_X2_1 ka lk_X2_17 dX2_turnBack_24 (fun hk10 => ?_)
    refine lv_iload_n hx hb dX2_turnBack_27 rfl (lv_at hl 2 rfl) ?_
    refine cz_aald0 X hM h hk10 dX2_turnBack_28 (fun h hk11 => ?_)
    refine lv_dup hx hb dX2_turnBack_29 rfl ?_
    refine cz_getI X hM ff_X0_1 hk11 lk_X2_174 dX2_turnBack_30 ?_
    refine lv_iconst (v := nI 1) hx hb dX2_turnBack_33 (by decide) ?_
    refine lv_iadd hx hb dX2_turnBack_34 ?_
    refine cz_putI X hM h ff_X0_1 hk11 lk_X2_174 dX2_turnBack_35 (fun M12 H locs h hM => ?_)
    refine lv_aload_n hx hb dX2_turnBack_38 rfl (lv_at hl 0 rfl) ?_
    refine cz_getR X hM ff_X2_1 ka lk_X2_17 dX2_turnBack_39 (fun hk13 => ?_)
    refine lv_iload_n hx hb dX2_turnBack_42 rfl (lv_at hl 2 rfl) ?_
    refine cz_aald0 X hM h hk13 dX2_turnBack_43 (fun h hk14 => ?_)
    refine lv_dup hx hb dX2_turnBack_44 rfl ?_
    refine cz_getI X hM ff_X0_3 hk14 lk_X2_105 dX2_turnBack_45 ?_
    refine lv_iconst (v := nI 1) hx hb dX2_turnBack_48 (by decide) ?_
    refine lv_iadd hx hb dX2_turnBack_49 ?_
    refine cz_putI X hM h ff_X0_3 hk14 lk_X2_105 dX2_turnBack_50 (fun M15 H locs h hM => ?_)
    exact cz_retv X hM h dX2_turnBack_53
theorem mv_X2_appendIfFate : cz_MV yX2_appendIfFate cX2_appendIfFate 6 none RX2 3 := ⟨mi_X2_appendIfFate, ms_X2_appendIfFate, mc_X2_appendIfFate, ini_X2, by decide +kernel⟩
set_option maxHeartbeats 4000000 in
set_option maxRecDepth 100000 in
theorem w_X2_appendIfFate_L3 {p : Program} {l : Launch} {e : Env} {R : Room} {s : State} {m : MethodId} {args : Array Value} {below : List Frame} {meth : Method} {c : Code} {g : cz_G} {b : Nat} (X : cz_X p s m args meth c cX2_appendIfFate 6 RX2 g b none) (hRf : 1 ≤ R.frames) (hRl : 21 ≤ R.locals) {M9 : cz_M} {a0 : Nat} {a1 : Nat} {x2 : Int32} {x3 : Int32} (ka0 : cz_K b a0 2) (ka1 : cz_K b a1 3)
    (K : Int32 → cz_M → Option (cz_M)) (hX : ∀ (x4 : Int32)  (M : cz_M) (H : Heap) (locs : List Loc) (ls : Array Slot), K x4 M = some M9 → cz_WS g b M s H locs → lv_has ls 6 [(0, .ref a0), (1, .ref a1), (2, .int x2), (3, .int x3), (4, .int x4)] → W p l e R s m args below meth c H locs 0 0 (MQ below (cz_Q g b none M9) args s 0 0 (cz_Ar b)) (F0 m 61 ls [])) :
    ∀ (n : Nat) (x4 : Int32)  (M : cz_M) (H : Heap) (locs : List Loc) (ls : Array Slot), cz_it2 (f_X2_appendIfFate_L3 a0 a1 x2 x3 K) n x4 M = some M9 → cz_WS g b M s H locs → lv_has ls 6 [(0, .ref a0), (1, .ref a1), (2, .int x2), (3, .int x3), (4, .int x4)] → W p l e R s m args below meth c H locs 0 0 (MQ below (cz_Q g b none M9) args s 0 0 (cz_Ar b)) (F0 m 3 ls []) := by
  obtain ⟨hx, hb, -, ho, ht, -⟩ := id X
  intro n
  induction n with
  | zero => intro x4 M H locs ls h; cases (show none = some _ from h)
  | succ n ih =>
    intro x4 M H locs ls h hM hl
    have h : f_X2_appendIfFate_L3 a0 a1 x2 x3 K (cz_it2 (f_X2_appendIfFate_L3 a0 a1 x2 x3 K) n) x4 M = some M9 := h
    rw [f_X2_appendIfFate_L3] at h
    refine lv_iload hx hb dX2_appendIfFate_3 (lv_at hl 4 rfl) ?_
    refine lv_aload_n hx hb dX2_appendIfFate_5 rfl (lv_at hl 1 rfl) ?_
    refine cz_getI X hM ff_X3_1 ka1 lk_X2_111 dX2_appendIfFate_6 ?_
    refine lv_icmp_ge (tgt := 61) hx hb dX2_appendIfFate_9 (by decide) (fun c1 => ?_) (fun c1 => ?_)
    · have h := cz_ite_t c1 h
      exact hX _ _ _ _ _ h hM (lv_sub hl [0, 1, 2, 3, 4] rfl)
    · have h := cz_ite_f c1 h
      refine lv_aload_n hx hb dX2_appendIfFate_12 rfl (lv_at hl 0 rfl) ?_
      refine cz_getR X hM ff_X2_3 ka0 lk_X2_26 dX2_appendIfFate_13 (fun hk2 => ?_)
      refine lv_aload_n hx hb dX2_appendIfFate_16 rfl (lv_at hl 1 rfl) ?_
      refine cz_getR X hM ff_X3_0 ka1 lk_X2_114 dX2_appendIfFate_17 (fun hk3 => ?_)
      refine lv_iload hx hb dX2_appendIfFate_20 (lv_at hl 4 rfl) ?_
      refine cz_iald (n := 40) X hM h hk3 (by decide) dX2_appendIfFate_22 (fun h => ?_)
      refine cz_aald1 X hM h hk2 dX2_appendIfFate_23 (fun h hk4 => ?_)
      refine cz_getI X hM ff_X1_10 hk4 lk_X2_126 dX2_appendIfFate_24 ?_
      refine cz_nmi h (fun v5 h => ?_)
      refine lv_istore (lv' := [(5, .int v5), (0, .ref a0), (1, .ref a1), (2, .int x2), (3, .int x3), (4, .int x4)]) hx hb dX2_appendIfFate_27 hl (by decide) rfl (fun ls hl => ?_)
      refine lv_iload hx hb dX2_appendIfFate_29 (lv_at hl 0 rfl) ?_
      refine lv_iload_n hx hb dX2_appendIfFate_31 rfl (lv_at hl 3 rfl) ?_
      refine lv_icmp_eq (tgt := 41) hx hb dX2_appendIfFate_32 (by decide) (fun c6 => ?_) (fun c6 => ?_)
      · have h := cz_ite_t c6 h
        refine lv_aload_n hx hb dX2_appendIfFate_41 rfl (lv_at hl 1 rfl) ?_
        refine cz_getR X hM ff_X2_5 ka0 lk_X2_37 dX2_appendIfFate_42 (fun hk7 => ?_)
        refine lv_aload_n hx hb dX2_appendIfFate_45 rfl (lv_at hl 2 rfl) ?_
        refine cz_getR X hM ff_X3_0 ka1 lk_X2_114 dX2_appendIfFate_46 (fun hk8 => ?_)
        refine lv_iload hx hb dX2_appendIfFate_49 (lv_at hl 5 rfl) ?_
        refine cz_iald (n := 40) X hM h hk8 (by decide) dX2_appendIfFate_51 (fun h => ?_)
        obtain ⟨M9, hq, h⟩ := cz_bd_t h
        refine cz_runV (rest := []) (As := [.int (M.1 (a1 + 1) (Int32.toNatClampNeg x4))]) (T := TX3) (N0 := 2) X hM hl.1 (c_X3_append (l := l) (g := g) (b := b) hk7 hq) mv_X3_append rfl (by decide) hk7 ml_X2_76 ⟨Nat.le_trans (Nat.le_of_ble_eq_true rfl) hRf, Nat.le_trans (Nat.le_of_ble_eq_true rfl) hRl⟩ rfl rfl (Nat.le_of_ble_eq_true rfl) dX2_appendIfFate_52 (fun H locs hM => ?_)
        refine cz_nmL (v := x4 + nI 1) h (fun v10 e11 h => ?_)
        refine lv_iinc (v := v10) (lv' := [(4, .int v10), (5, .int v5), (0, .ref a0), (1, .ref a1), (2, .int x2), (3, .int x3)]) hx hb dX2_appendIfFate_55 hl (k := 5) rfl (by rw [e11]; rfl) (by decide) rfl (fun ls hl => ?_)
        refine lv_goto (tgt := 3) hx hb dX2_appendIfFate_58 (by decide) ?_
        exact ih _ _ _ _ _ h hM (lv_sub hl [2, 3, 4, 5, 0] rfl)
      · have h := cz_ite_f c6 h
        refine lv_iload hx hb dX2_appendIfFate_35 (lv_at hl 0 rfl) ?_
        refine lv_iload_n hx hb dX2_appendIfFate_37 rfl (lv_at hl 4 rfl) ?_
        refine lv_icmp_ne (tgt := 55) hx hb dX2_appendIfFate_38 (by decide) (fun c12 => ?_) (fun c12 => ?_)
        · have h := cz_ite_f c12 h
          refine cz_nmL (v := x4 + nI 1) h (fun v13 e14 h => ?_)
          refine lv_iinc (v := v13) (lv' := [(4, .int v13), (5, .int v5), (0, .ref a0), (1, .ref a1), (2, .int x2), (3, .int x3)]) hx hb dX2_appendIfFate_55 hl (k := 5) rfl (by rw [e14]; rfl) (by decide) rfl (fun ls hl => ?_)
          refine lv_goto (tgt := 3) hx hb dX2_appendIfFate_58 (by decide) ?_
          exact ih _ _ _ _ _ h hM (lv_sub hl [2, 3, 4, 5, 0] rfl)
        · have h := cz_ite_t c12 h
          refine lv_aload_n hx hb dX2_appendIfFate_41 rfl (lv_at hl 1 rfl) ?_
          refine cz_getR X hM ff_X2_5 ka0 lk_X2_37 dX2_appendIfFate_42 (fun hk15 => ?_)
          refine lv_aload_n hx hb dX2_appendIfFate_45 rfl (lv_at hl 2 rfl) ?_
          refine cz_getR X hM ff_X3_0 ka1 lk_X2_114 dX2_appendIfFate_46 (fun hk16 => ?_)
          refine lv_iload hx hb dX2_appendIfFate_49 (lv_at hl 5 rfl) ?_
          refine cz_iald (n := 40) X hM h hk16 (by decide) dX2_appendIfFate_51 (fun h => ?_)
          obtain ⟨M17, hq, h⟩ := cz_bd_t h
          refine cz_runV (rest := []) (As := [.int (M.1 (a1 + 1) (Int32.toNatClampNeg x4))]) (T := TX3) (N0 := 2) X hM hl.1 (c_X3_append (l := l) (g := g) (b := b) hk15 hq) mv_X3_append rfl (by decide) hk15 ml_X2_76 ⟨Nat.le_trans (Nat.le_of_ble_eq_true rfl) hRf, Nat.le_trans (Nat.le_of_ble_eq_true rfl) hRl⟩ rfl rfl (Nat.le_of_ble_eq_true rfl) dX2_appendIfFate_52 (fun H locs hM => ?_)
          refine cz_nmL (v := x4 + nI 1) h (fun v18 e19 h => ?_)
          refine lv_iinc (v := v18) (lv' := [(4, .int v18), (5, .int v5), (0, .ref a0), (1, .ref a1), (2, .int x2), (3, .int x3)]) hx hb dX2_appendIfFate_55 hl (k := 5) rfl (by rw [e19]; rfl) (by decide) rfl (fun ls hl => ?_)
          refine lv_goto (tgt := 3) hx hb dX2_appendIfFate_58 (by decide) ?_
          exact ih _ _ _ _ _ h hM (lv_sub hl [2, 3, 4, 5, 0] rfl)
set_option maxHeartbeats 4000000 in
set_option maxRecDepth 100000 in
theorem c_X2_appendIfFate {l : Launch} {g : cz_G} {b : Nat} {M : cz_M} {M9 : cz_M} {a : Nat} {a1 : Nat} {x2 : Int32} {x3 : Int32} (ka : cz_K b a 2) (ka1 : cz_K b a1 3) (h : f_X2_appendIfFate M a a1 x2 x3 = some M9) : cz_C l yX2_appendIfFate cX2_appendIfFate 6 none 1 21 g b [.ref a, .ref a1, .int x2, .int x3] M none M9 := by
  refine cz_start (by decide) (Nat.le_of_ble_eq_true rfl) (fun p e s m args below meth c X H ls hM hl => ?_)
  have X : cz_X p s m args meth c cX2_appendIfFate 6 RX2 g b none := X
  obtain ⟨hx, hb, -, ho, ht, -⟩ := id X
  have hRf : 1 ≤ ({ frames := 1, cells := 0, slots := 0, locals := 21 } : Room).frames := Nat.le_refl _
  have hRl : 21 ≤ ({ frames := 1, cells := 0, slots := 0, locals := 21 } : Room).locals := Nat.le_refl _
  have hl : lv_has ls 6 [(0, .ref a), (1, .ref a1), (2, .int x2), (3, .int x3)] := hl
  rw [f_X2_appendIfFate] at h
  refine lv_iconst (v := nI 0) hx hb dX2_appendIfFate_0 (by decide) ?_
  refine lv_istore (lv' := [(4, .int (nI 0)), (0, .ref a), (1, .ref a1), (2, .int x2), (3, .int x3)]) hx hb dX2_appendIfFate_1 hl (by decide) rfl (fun ls hl => ?_)
  refine w_X2_appendIfFate_L3 X hRf hRl ka ka1 _ (fun y20 M21 H locs ls h hM hl => ?_) _ _ _ _ _ _ h hM (lv_sub hl [1, 2, 3, 4, 0] rfl)
  exact cz_retv X hM h dX2_appendIfFate_61
theorem mv_X2_readRow : cz_MV yX2_readRow cX2_readRow 7 (some .int) RX2 1 := ⟨mi_X2_readRow, ms_X2_readRow, mc_X2_readRow, ini_X2, by decide +kernel⟩
set_option maxHeartbeats 4000000 in
set_option maxRecDepth 100000 in
theorem w_X2_readRow_L23 {p : Program} {l : Launch} {e : Env} {R : Room} {s : State} {m : MethodId} {args : Array Value} {below : List Frame} {meth : Method} {c : Code} {g : cz_G} {b : Nat} (X : cz_X p s m args meth c cX2_readRow 7 RX2 g b (some .int)) (hRf : 3 ≤ R.frames) (hRl : 69 ≤ R.locals) {r0 : Int32} {M9 : cz_M} {a0 : Nat} {a2 : Nat} {x3 : Int32} (ka0 : cz_K b a0 2) (ka2 : cz_K b a2 3)
    (K : Int32 → Int32 → cz_M → Option (Int32 × cz_M)) (hX : ∀ (x4 : Int32) (x5 : Int32)  (M : cz_M) (H : Heap) (locs : List Loc) (ls : Array Slot), K x4 x5 M = some (r0, M9) → cz_WS g b M s H locs → lv_has ls 7 [(0, .ref a0), (2, .ref a2), (3, .int x3), (4, .int x4), (5, .int x5)] → W p l e R s m args below meth c H locs 0 0 (MQ below (cz_Q g b (some (.int r0)) M9) args s 0 0 (cz_Ar b)) (F0 m 98 ls [])) :
    ∀ (n : Nat) (x4 : Int32) (x5 : Int32)  (M : cz_M) (H : Heap) (locs : List Loc) (ls : Array Slot), cz_it3 (f_X2_readRow_L23 a0 a2 x3 K) n x4 x5 M = some (r0, M9) → cz_WS g b M s H locs → lv_has ls 7 [(0, .ref a0), (2, .ref a2), (3, .int x3), (4, .int x4), (5, .int x5)] → W p l e R s m args below meth c H locs 0 0 (MQ below (cz_Q g b (some (.int r0)) M9) args s 0 0 (cz_Ar b)) (F0 m 23 ls []) := by
  obtain ⟨hx, hb, -, ho, ht, -⟩ := id X
  intro n
  induction n with
  | zero => intro x4 x5 M H locs ls h; cases (show none = some _ from h)
  | succ n ih =>
    intro x4 x5 M H locs ls h hM hl
    have h : f_X2_readRow_L23 a0 a2 x3 K (cz_it3 (f_X2_readRow_L23 a0 a2 x3 K) n) x4 x5 M = some (r0, M9) := h
    rw [f_X2_readRow_L23] at h
    refine lv_iload hx hb dX2_readRow_23 (lv_at hl 4 rfl) ?_
    refine lv_aload_n hx hb dX2_readRow_25 rfl (lv_at hl 1 rfl) ?_
    refine cz_getI X hM ff_X3_1 ka2 lk_X2_111 dX2_readRow_26 ?_
    refine lv_icmp_ge (tgt := 98) hx hb dX2_readRow_29 (by decide) (fun c6 => ?_) (fun c6 => ?_)
    · have h := cz_ite_t c6 h
      exact hX _ _ _ _ _ _ h hM (lv_sub hl [0, 1, 2, 3, 4] rfl)
    · have h := cz_ite_f c6 h
      refine lv_aload_n hx hb dX2_readRow_32 rfl (lv_at hl 0 rfl) ?_
      refine cz_getR X hM ff_X2_3 ka0 lk_X2_26 dX2_readRow_33 (fun hk7 => ?_)
      refine lv_aload_n hx hb dX2_readRow_36 rfl (lv_at hl 1 rfl) ?_
      refine cz_getR X hM ff_X3_0 ka2 lk_X2_114 dX2_readRow_37 (fun hk8 => ?_)
      refine lv_iload hx hb dX2_readRow_40 (lv_at hl 4 rfl) ?_
      refine cz_iald (n := 40) X hM h hk8 (by decide) dX2_readRow_42 (fun h => ?_)
      refine cz_aald1 X hM h hk7 dX2_readRow_43 (fun h hk9 => ?_)
      refine cz_nmr h hk9 (fun r10 h hk11 => ?_)
      refine lv_astore (lv' := [(6, .ref r10), (0, .ref a0), (2, .ref a2), (3, .int x3), (4, .int x4), (5, .int x5)]) hx hb dX2_readRow_44 hl (by decide) rfl (fun ls hl => ?_)
      refine lv_aload hx hb dX2_readRow_46 (lv_at hl 0 rfl) ?_
      refine cz_getI X hM ff_X1_10 hk11 lk_X2_126 dX2_readRow_48 ?_
      refine lv_if_ne (tgt := 67) hx hb dX2_readRow_51 (by decide) (fun c12 => ?_) (fun c12 => ?_)
      · have h := cz_ite_f c12 h
        refine lv_aload hx hb dX2_readRow_67 (lv_at hl 0 rfl) ?_
        refine cz_getI X hM ff_X1_10 hk11 lk_X2_126 dX2_readRow_69 ?_
        refine lv_iconst (v := nI 4) hx hb dX2_readRow_72 (by decide) ?_
        refine lv_icmp_eq (tgt := 85) hx hb dX2_readRow_73 (by decide) (fun c13 => ?_) (fun c13 => ?_)
        · have h := cz_ite_t c13 h
          refine lv_aload_n hx hb dX2_readRow_85 rfl (lv_at hl 1 rfl) ?_
          refine lv_aload hx hb dX2_readRow_86 (lv_at hl 0 rfl) ?_
          refine lv_iload_n hx hb dX2_readRow_88 rfl (lv_at hl 3 rfl) ?_
          obtain ⟨M14, hq, h⟩ := cz_bd_t h
          refine cz_runV (rest := []) (As := [.ref r10, .int x3]) (T := TX2) (N0 := 9) X hM hl.1 (c_X2_turnBack (l := l) (g := g) (b := b) ka0 hk11 hq) mv_X2_turnBack rfl (by decide) ka0 ml_X2_158 ⟨Nat.le_trans (Nat.le_of_ble_eq_true rfl) hRf, Nat.le_trans (Nat.le_of_ble_eq_true rfl) hRl⟩ rfl rfl (Nat.le_of_ble_eq_true rfl) dX2_readRow_89 (fun H locs hM => ?_)
          refine cz_nmL (v := x5 + nI 1) h (fun v15 e16 h => ?_)
          refine lv_iinc (v := v15) (lv' := [(5, .int v15), (6, .ref r10), (0, .ref a0), (2, .ref a2), (3, .int x3), (4, .int x4)]) hx hb dX2_readRow_92 hl (k := 5) rfl (by rw [e16]; rfl) (by decide) rfl (fun ls hl => ?_)
          refine lv_goto (tgt := 23) hx hb dX2_readRow_95 (by decide) ?_
          exact ih _ _ _ _ _ _ h hM (lv_sub hl [2, 3, 4, 5, 0] rfl)
        · have h := cz_ite_f c13 h
          refine lv_aload hx hb dX2_readRow_76 (lv_at hl 0 rfl) ?_
          refine cz_getI X hM ff_X1_10 hk11 lk_X2_126 dX2_readRow_78 ?_
          refine lv_iconst (v := nI 5) hx hb dX2_readRow_81 (by decide) ?_
          refine lv_icmp_ne (tgt := 92) hx hb dX2_readRow_82 (by decide) (fun c17 => ?_) (fun c17 => ?_)
          · have h := cz_ite_f c17 h
            refine cz_nmL (v := x5 + nI 1) h (fun v18 e19 h => ?_)
            refine lv_iinc (v := v18) (lv' := [(5, .int v18), (6, .ref r10), (0, .ref a0), (2, .ref a2), (3, .int x3), (4, .int x4)]) hx hb dX2_readRow_92 hl (k := 5) rfl (by rw [e19]; rfl) (by decide) rfl (fun ls hl => ?_)
            refine lv_goto (tgt := 23) hx hb dX2_readRow_95 (by decide) ?_
            exact ih _ _ _ _ _ _ h hM (lv_sub hl [2, 3, 4, 5, 0] rfl)
          · have h := cz_ite_t c17 h
            refine lv_aload_n hx hb dX2_readRow_85 rfl (lv_at hl 1 rfl) ?_
            refine lv_aload hx hb dX2_readRow_86 (lv_at hl 0 rfl) ?_
            refine lv_iload_n hx hb dX2_readRow_88 rfl (lv_at hl 3 rfl) ?_
            obtain ⟨M20, hq, h⟩ := cz_bd_t h
            refine cz_runV (rest := []) (As := [.ref r10, .int x3]) (T := TX2) (N0 := 9) X hM hl.1 (c_X2_turnBack (l := l) (g := g) (b := b) ka0 hk11 hq) mv_X2_turnBack rfl (by decide) ka0 ml_X2_158 ⟨Nat.le_trans (Nat.le_of_ble_eq_true rfl) hRf, Nat.le_trans (Nat.le_of_ble_eq_true rfl) hRl⟩ rfl rfl (Nat.le_of_ble_eq_true rfl) dX2_readRow_89 (fun H locs hM => ?_)
            refine cz_nmL (v := x5 + nI 1) h (fun v21 e22 h => ?_)
            refine lv_iinc (v := v21) (lv' := [(5, .int v21), (6, .ref r10), (0, .ref a0), (2, .ref a2), (3, .int x3), (4, .int x4)]) hx hb dX2_readRow_92 hl (k := 5) rfl (by rw [e22]; rfl) (by decide) rfl (fun ls hl => ?_)
            refine lv_goto (tgt := 23) hx hb dX2_readRow_95 (by decide) ?_
            exact ih _ _ _ _ _ _ h hM (lv_sub hl [2, 3, 4, 5, 0] rfl)
      · have h := cz_ite_t c12 h
        refine lv_aload_n hx hb dX2_readRow_54 rfl (lv_at hl 1 rfl) ?_
        refine lv_aload hx hb dX2_readRow_55 (lv_at hl 0 rfl) ?_
        refine lv_iload_n hx hb dX2_readRow_57 rfl (lv_at hl 3 rfl) ?_
        obtain ⟨M23, hq, h⟩ := cz_bd_t h
        refine cz_runV (rest := []) (As := [.ref r10, .int x3]) (T := TX2) (N0 := 9) X hM hl.1 (c_X2_letThrough (l := l) (g := g) (b := b) ka0 hk11 hq) mv_X2_letThrough rfl (by decide) ka0 ml_X2_154 ⟨Nat.le_trans (Nat.le_of_ble_eq_true rfl) hRf, Nat.le_trans (Nat.le_of_ble_eq_true rfl) hRl⟩ rfl rfl (Nat.le_of_ble_eq_true rfl) dX2_readRow_58 (fun H locs hM => ?_)
        refine cz_nmL (v := x4 + nI 1) h (fun v24 e25 h => ?_)
        refine lv_iinc (v := v24) (lv' := [(4, .int v24), (6, .ref r10), (0, .ref a0), (2, .ref a2), (3, .int x3), (5, .int x5)]) hx hb dX2_readRow_61 hl (k := 4) rfl (by rw [e25]; rfl) (by decide) rfl (fun ls hl => ?_)
        refine lv_goto (tgt := 92) hx hb dX2_readRow_64 (by decide) ?_
        refine cz_nmL (v := x5 + nI 1) h (fun v26 e27 h => ?_)
        refine lv_iinc (v := v26) (lv' := [(5, .int v26), (4, .int v24), (6, .ref r10), (0, .ref a0), (2, .ref a2), (3, .int x3)]) hx hb dX2_readRow_92 hl (k := 5) rfl (by rw [e27]; rfl) (by decide) rfl (fun ls hl => ?_)
        refine lv_goto (tgt := 23) hx hb dX2_readRow_95 (by decide) ?_
        exact ih _ _ _ _ _ _ h hM (lv_sub hl [3, 4, 5, 1, 0] rfl)
set_option maxHeartbeats 4000000 in
set_option maxRecDepth 100000 in
theorem c_X2_readRow {l : Launch} {g : cz_G} {b : Nat} {M : cz_M} {r0 : Int32} {M9 : cz_M} {a : Nat} {x1 : Int32} (ka : cz_K b a 2) (h : f_X2_readRow M a x1 = some (r0, M9)) : cz_C l yX2_readRow cX2_readRow 7 (some .int) 3 69 g b [.ref a, .int x1] M (some (.int r0)) M9 := by
  refine cz_start (by decide) (Nat.le_of_ble_eq_true rfl) (fun p e s m args below meth c X H ls hM hl => ?_)
  have X : cz_X p s m args meth c cX2_readRow 7 RX2 g b (some .int) := X
  obtain ⟨hx, hb, -, ho, ht, -⟩ := id X
  have hRf : 3 ≤ ({ frames := 3, cells := 0, slots := 0, locals := 69 } : Room).frames := Nat.le_refl _
  have hRl : 69 ≤ ({ frames := 3, cells := 0, slots := 0, locals := 69 } : Room).locals := Nat.le_refl _
  have hl : lv_has ls 7 [(0, .ref a), (1, .int x1)] := hl
  rw [f_X2_readRow] at h
  refine lv_aload_n hx hb dX2_readRow_0 rfl (lv_at hl 0 rfl) ?_
  refine cz_getR X hM ff_X2_4 ka lk_X2_32 dX2_readRow_1 (fun hk1 => ?_)
  refine lv_iload_n hx hb dX2_readRow_4 rfl (lv_at hl 1 rfl) ?_
  refine cz_aald2 X hM h hk1 dX2_readRow_5 (fun h hk2 => ?_)
  refine cz_nmr h hk2 (fun r3 h hk4 => ?_)
  refine lv_astore_n (lv' := [(2, .ref r3), (0, .ref a), (1, .int x1)]) hx hb dX2_readRow_6 rfl hl (by decide) rfl (fun ls hl => ?_)
  refine lv_aload_n hx hb dX2_readRow_7 rfl (lv_at hl 1 rfl) ?_
  refine lv_aload_n hx hb dX2_readRow_8 rfl (lv_at hl 1 rfl) ?_
  refine cz_getI X hM ff_X2_8 ka lk_X2_66 dX2_readRow_9 ?_
  refine lv_iload_n hx hb dX2_readRow_12 rfl (lv_at hl 2 rfl) ?_
  obtain ⟨v5, hq, h⟩ := cz_bd_t h
  refine cz_runV (rest := []) (As := [.int (M.1 a 8), .int x1]) (T := TX2) (N0 := 9) X hM hl.1 (c_X2_censorNumber (l := l) (g := g) (b := b) ka hq) mv_X2_censorNumber rfl (by decide) ka ml_X2_120 ⟨Nat.le_trans (Nat.le_of_ble_eq_true rfl) hRf, Nat.le_trans (Nat.le_of_ble_eq_true rfl) hRl⟩ rfl rfl (Nat.le_of_ble_eq_true rfl) dX2_readRow_13 (fun H locs hM => ?_)
  refine lv_istore_n (lv' := [(3, .int v5), (2, .ref r3), (0, .ref a), (1, .int x1)]) hx hb dX2_readRow_16 rfl hl (by decide) rfl (fun ls hl => ?_)
  refine lv_iconst (v := nI 0) hx hb dX2_readRow_17 (by decide) ?_
  refine lv_istore (lv' := [(4, .int (nI 0)), (3, .int v5), (2, .ref r3), (0, .ref a), (1, .int x1)]) hx hb dX2_readRow_18 hl (by decide) rfl (fun ls hl => ?_)
  refine lv_iconst (v := nI 0) hx hb dX2_readRow_20 (by decide) ?_
  refine lv_istore (lv' := [(5, .int (nI 0)), (4, .int (nI 0)), (3, .int v5), (2, .ref r3), (0, .ref a), (1, .int x1)]) hx hb dX2_readRow_21 hl (by decide) rfl (fun ls hl => ?_)
  refine w_X2_readRow_L23 X hRf hRl ka hk4 _ (fun y28 y29 M30 H locs ls h hM hl => ?_) _ _ _ _ _ _ _ h hM (lv_sub hl [4, 3, 2, 1, 0] rfl)
  refine lv_aload_n hx hb dX2_readRow_98 rfl (lv_at hl 0 rfl) ?_
  refine cz_getR X hM ff_X2_5 ka lk_X2_37 dX2_readRow_99 (fun hk31 => ?_)
  refine lv_iconst (v := nI 0) hx hb dX2_readRow_102 (by decide) ?_
  refine cz_putI X hM h ff_X3_1 hk31 lk_X2_111 dX2_readRow_103 (fun M32 H locs h hM => ?_)
  refine lv_aload_n hx hb dX2_readRow_106 rfl (lv_at hl 0 rfl) ?_
  refine lv_aload_n hx hb dX2_readRow_107 rfl (lv_at hl 1 rfl) ?_
  refine lv_iconst (v := nI 2) hx hb dX2_readRow_108 (by decide) ?_
  refine lv_iconst (v := nI 3) hx hb dX2_readRow_109 (by decide) ?_
  obtain ⟨M33, hq, h⟩ := cz_bd_t h
  refine cz_runV (rest := []) (As := [.ref r3, .int (nI 2), .int (nI 3)]) (T := TX2) (N0 := 9) X hM hl.1 (c_X2_appendIfFate (l := l) (g := g) (b := b) ka hk4 hq) mv_X2_appendIfFate rfl (by decide) ka ml_X2_161 ⟨Nat.le_trans (Nat.le_of_ble_eq_true rfl) hRf, Nat.le_trans (Nat.le_of_ble_eq_true rfl) hRl⟩ rfl rfl (Nat.le_of_ble_eq_true rfl) dX2_readRow_110 (fun H locs hM => ?_)
  refine lv_aload_n hx hb dX2_readRow_113 rfl (lv_at hl 0 rfl) ?_
  refine lv_aload_n hx hb dX2_readRow_114 rfl (lv_at hl 1 rfl) ?_
  refine lv_iconst (v := nI 4) hx hb dX2_readRow_115 (by decide) ?_
  refine lv_iconst (v := nI 4) hx hb dX2_readRow_116 (by decide) ?_
  obtain ⟨M34, hq, h⟩ := cz_bd_t h
  refine cz_runV (rest := []) (As := [.ref r3, .int (nI 4), .int (nI 4)]) (T := TX2) (N0 := 9) X hM hl.1 (c_X2_appendIfFate (l := l) (g := g) (b := b) ka hk4 hq) mv_X2_appendIfFate rfl (by decide) ka ml_X2_161 ⟨Nat.le_trans (Nat.le_of_ble_eq_true rfl) hRf, Nat.le_trans (Nat.le_of_ble_eq_true rfl) hRl⟩ rfl rfl (Nat.le_of_ble_eq_true rfl) dX2_readRow_117 (fun H locs hM => ?_)
  refine lv_aload_n hx hb dX2_readRow_120 rfl (lv_at hl 1 rfl) ?_
  refine lv_aload_n hx hb dX2_readRow_121 rfl (lv_at hl 0 rfl) ?_
  refine cz_getR X hM ff_X2_5 ka lk_X2_37 dX2_readRow_122 (fun hk35 => ?_)
  obtain ⟨M36, hq, h⟩ := cz_bd_t h
  refine cz_runV (rest := []) (As := [.ref (a + 6)]) (T := TX3) (N0 := 2) X hM hl.1 (c_X3_copyFrom (l := l) (g := g) (b := b) hk4 hk35 hq) mv_X3_copyFrom rfl (by decide) hk4 ml_X2_63 ⟨Nat.le_trans (Nat.le_of_ble_eq_true rfl) hRf, Nat.le_trans (Nat.le_of_ble_eq_true rfl) hRl⟩ rfl rfl (Nat.le_of_ble_eq_true rfl) dX2_readRow_125 (fun H locs hM => ?_)
  refine lv_iload hx hb dX2_readRow_128 (lv_at hl 3 rfl) ?_
  exact cz_reti X hM h rfl dX2_readRow_130
theorem mv_X2_passWeek : cz_MV yX2_passWeek cX2_passWeek 3 (some .int) RX2 0 := ⟨mi_X2_passWeek, ms_X2_passWeek, mc_X2_passWeek, ini_X2, by decide +kernel⟩
set_option maxHeartbeats 4000000 in
set_option maxRecDepth 100000 in
theorem w_X2_passWeek_L8 {p : Program} {l : Launch} {e : Env} {R : Room} {s : State} {m : MethodId} {args : Array Value} {below : List Frame} {meth : Method} {c : Code} {g : cz_G} {b : Nat} (X : cz_X p s m args meth c cX2_passWeek 3 RX2 g b (some .int)) (hRf : 4 ≤ R.frames) (hRl : 96 ≤ R.locals) {r0 : Int32} {M9 : cz_M} {a0 : Nat} (ka0 : cz_K b a0 2)
    (K : Int32 → Int32 → cz_M → Option (Int32 × cz_M)) (hX : ∀ (x1 : Int32) (x2 : Int32)  (M : cz_M) (H : Heap) (locs : List Loc) (ls : Array Slot), K x1 x2 M = some (r0, M9) → cz_WS g b M s H locs → lv_has ls 3 [(0, .ref a0), (1, .int x1), (2, .int x2)] → W p l e R s m args below meth c H locs 0 0 (MQ below (cz_Q g b (some (.int r0)) M9) args s 0 0 (cz_Ar b)) (F0 m 27 ls [])) :
    ∀ (n : Nat) (x1 : Int32) (x2 : Int32)  (M : cz_M) (H : Heap) (locs : List Loc) (ls : Array Slot), cz_it3 (f_X2_passWeek_L8 a0 K) n x1 x2 M = some (r0, M9) → cz_WS g b M s H locs → lv_has ls 3 [(0, .ref a0), (1, .int x1), (2, .int x2)] → W p l e R s m args below meth c H locs 0 0 (MQ below (cz_Q g b (some (.int r0)) M9) args s 0 0 (cz_Ar b)) (F0 m 8 ls []) := by
  obtain ⟨hx, hb, -, ho, ht, -⟩ := id X
  intro n
  induction n with
  | zero => intro x1 x2 M H locs ls h; cases (show none = some _ from h)
  | succ n ih =>
    intro x1 x2 M H locs ls h hM hl
    have h : f_X2_passWeek_L8 a0 K (cz_it3 (f_X2_passWeek_L8 a0 K) n) x1 x2 M = some (r0, M9) := h
    rw [f_X2_passWeek_L8] at h
    refine lv_iload_n hx hb dX2_passWeek_8 rfl (lv_at hl 2 rfl) ?_
    refine lv_iconst (v := nI 2) hx hb dX2_passWeek_9 (by decide) ?_
    refine lv_icmp_ge (tgt := 27) hx hb dX2_passWeek_10 (by decide) (fun c2 => ?_) (fun c2 => ?_)
    · have h := cz_ite_t c2 h
      exact hX _ _ _ _ _ _ h hM (lv_sub hl [0, 1, 2] rfl)
    · have h := cz_ite_f c2 h
      refine lv_iload_n hx hb dX2_passWeek_13 rfl (lv_at hl 1 rfl) ?_
      refine lv_aload_n hx hb dX2_passWeek_14 rfl (lv_at hl 0 rfl) ?_
      refine lv_iload_n hx hb dX2_passWeek_15 rfl (lv_at hl 2 rfl) ?_
      obtain ⟨v4, M3, hq, h⟩ := cz_b2_t h
      refine cz_runV (rest := [.int x1]) (As := [.int x2]) (T := TX2) (N0 := 9) X hM hl.1 (c_X2_readRow (l := l) (g := g) (b := b) ka0 hq) mv_X2_readRow rfl (by decide) ka0 ml_X2_151 ⟨Nat.le_trans (Nat.le_of_ble_eq_true rfl) hRf, Nat.le_trans (Nat.le_of_ble_eq_true rfl) hRl⟩ rfl rfl (Nat.le_of_ble_eq_true rfl) dX2_passWeek_16 (fun H locs hM => ?_)
      refine lv_iadd hx hb dX2_passWeek_19 ?_
      refine cz_nmi h (fun v5 h => ?_)
      refine lv_istore_n (lv' := [(1, .int v5), (0, .ref a0), (2, .int x2)]) hx hb dX2_passWeek_20 rfl hl (by decide) rfl (fun ls hl => ?_)
      refine cz_nmL (v := x2 + nI 1) h (fun v6 e7 h => ?_)
      refine lv_iinc (v := v6) (lv' := [(2, .int v6), (1, .int v5), (0, .ref a0)]) hx hb dX2_passWeek_21 hl (k := 2) rfl (by rw [e7]; rfl) (by decide) rfl (fun ls hl => ?_)
      refine lv_goto (tgt := 8) hx hb dX2_passWeek_24 (by decide) ?_
      exact ih _ _ _ _ _ _ h hM (lv_sub hl [2, 1, 0] rfl)
set_option maxHeartbeats 4000000 in
set_option maxRecDepth 100000 in
theorem c_X2_passWeek {l : Launch} {g : cz_G} {b : Nat} {M : cz_M} {r0 : Int32} {M9 : cz_M} {a : Nat} (ka : cz_K b a 2) (h : f_X2_passWeek M a = some (r0, M9)) : cz_C l yX2_passWeek cX2_passWeek 3 (some .int) 4 96 g b [.ref a] M (some (.int r0)) M9 := by
  refine cz_start (by decide) (Nat.le_of_ble_eq_true rfl) (fun p e s m args below meth c X H ls hM hl => ?_)
  have X : cz_X p s m args meth c cX2_passWeek 3 RX2 g b (some .int) := X
  obtain ⟨hx, hb, -, ho, ht, -⟩ := id X
  have hRf : 4 ≤ ({ frames := 4, cells := 0, slots := 0, locals := 96 } : Room).frames := Nat.le_refl _
  have hRl : 96 ≤ ({ frames := 4, cells := 0, slots := 0, locals := 96 } : Room).locals := Nat.le_refl _
  have hl : lv_has ls 3 [(0, .ref a)] := hl
  rw [f_X2_passWeek] at h
  refine lv_aload_n hx hb dX2_passWeek_0 rfl (lv_at hl 0 rfl) ?_
  obtain ⟨M1, hq, h⟩ := cz_bd_t h
  refine cz_runV (rest := []) (As := []) (T := TX2) (N0 := 9) X hM hl.1 (c_X2_judgeWeek (l := l) (g := g) (b := b) ka hq) mv_X2_judgeWeek rfl (by decide) ka ml_X2_148 ⟨Nat.le_trans (Nat.le_of_ble_eq_true rfl) hRf, Nat.le_trans (Nat.le_of_ble_eq_true rfl) hRl⟩ rfl rfl (Nat.le_of_ble_eq_true rfl) dX2_passWeek_1 (fun H locs hM => ?_)
  refine lv_iconst (v := nI 0) hx hb dX2_passWeek_4 (by decide) ?_
  refine lv_istore_n (lv' := [(1, .int (nI 0)), (0, .ref a)]) hx hb dX2_passWeek_5 rfl hl (by decide) rfl (fun ls hl => ?_)
  refine lv_iconst (v := nI 0) hx hb dX2_passWeek_6 (by decide) ?_
  refine lv_istore_n (lv' := [(2, .int (nI 0)), (1, .int (nI 0)), (0, .ref a)]) hx hb dX2_passWeek_7 rfl hl (by decide) rfl (fun ls hl => ?_)
  refine w_X2_passWeek_L8 X hRf hRl ka _ (fun y8 y9 M10 H locs ls h hM hl => ?_) _ _ _ _ _ _ _ h hM (lv_sub hl [2, 1, 0] rfl)
  refine lv_aload_n hx hb dX2_passWeek_27 rfl (lv_at hl 0 rfl) ?_
  refine lv_dup hx hb dX2_passWeek_28 rfl ?_
  refine cz_getI X hM ff_X2_8 ka lk_X2_66 dX2_passWeek_29 ?_
  refine lv_iconst (v := nI 1) hx hb dX2_passWeek_32 (by decide) ?_
  refine lv_iadd hx hb dX2_passWeek_33 ?_
  refine cz_putI X hM h ff_X2_8 ka lk_X2_66 dX2_passWeek_34 (fun M11 H locs h hM => ?_)
  refine lv_iload_n hx hb dX2_passWeek_37 rfl (lv_at hl 1 rfl) ?_
  exact cz_reti X hM h rfl dX2_passWeek_38
theorem mv_X2_passWeeks : cz_MV yX2_passWeeks cX2_passWeeks 4 (some .int) RX2 1 := ⟨mi_X2_passWeeks, ms_X2_passWeeks, mc_X2_passWeeks, ini_X2, by decide +kernel⟩
set_option maxHeartbeats 4000000 in
set_option maxRecDepth 100000 in
theorem w_X2_passWeeks_L4 {p : Program} {l : Launch} {e : Env} {R : Room} {s : State} {m : MethodId} {args : Array Value} {below : List Frame} {meth : Method} {c : Code} {g : cz_G} {b : Nat} (X : cz_X p s m args meth c cX2_passWeeks 4 RX2 g b (some .int)) (hRf : 5 ≤ R.frames) (hRl : 118 ≤ R.locals) {r0 : Int32} {M9 : cz_M} {a0 : Nat} {x1 : Int32} (ka0 : cz_K b a0 2)
    (K : Int32 → Int32 → cz_M → Option (Int32 × cz_M)) (hX : ∀ (x2 : Int32) (x3 : Int32)  (M : cz_M) (H : Heap) (locs : List Loc) (ls : Array Slot), K x2 x3 M = some (r0, M9) → cz_WS g b M s H locs → lv_has ls 4 [(0, .ref a0), (1, .int x1), (2, .int x2), (3, .int x3)] → W p l e R s m args below meth c H locs 0 0 (MQ below (cz_Q g b (some (.int r0)) M9) args s 0 0 (cz_Ar b)) (F0 m 22 ls [])) :
    ∀ (n : Nat) (x2 : Int32) (x3 : Int32)  (M : cz_M) (H : Heap) (locs : List Loc) (ls : Array Slot), cz_it3 (f_X2_passWeeks_L4 a0 x1 K) n x2 x3 M = some (r0, M9) → cz_WS g b M s H locs → lv_has ls 4 [(0, .ref a0), (1, .int x1), (2, .int x2), (3, .int x3)] → W p l e R s m args below meth c H locs 0 0 (MQ below (cz_Q g b (some (.int r0)) M9) args s 0 0 (cz_Ar b)) (F0 m 4 ls []) := by
  obtain ⟨hx, hb, -, ho, ht, -⟩ := id X
  intro n
  induction n with
  | zero => intro x2 x3 M H locs ls h; cases (show none = some _ from h)
  | succ n ih =>
    intro x2 x3 M H locs ls h hM hl
    have h : f_X2_passWeeks_L4 a0 x1 K (cz_it3 (f_X2_passWeeks_L4 a0 x1 K) n) x2 x3 M = some (r0, M9) := h
    rw [f_X2_passWeeks_L4] at h
    refine lv_iload_n hx hb dX2_passWeeks_4 rfl (lv_at hl 3 rfl) ?_
    refine lv_iload_n hx hb dX2_passWeeks_5 rfl (lv_at hl 1 rfl) ?_
    refine lv_icmp_ge (tgt := 22) hx hb dX2_passWeeks_6 (by decide) (fun c1 => ?_) (fun c1 => ?_)
    · have h := cz_ite_t c1 h
      exact hX _ _ _ _ _ _ h hM (lv_sub hl [0, 1, 2, 3] rfl)
    · have h := cz_ite_f c1 h
      refine lv_iload_n hx hb dX2_passWeeks_9 rfl (lv_at hl 2 rfl) ?_
      refine lv_aload_n hx hb dX2_passWeeks_10 rfl (lv_at hl 0 rfl) ?_
      obtain ⟨v3, M2, hq, h⟩ := cz_b2_t h
      refine cz_runV (rest := [.int x2]) (As := []) (T := TX2) (N0 := 9) X hM hl.1 (c_X2_passWeek (l := l) (g := g) (b := b) ka0 hq) mv_X2_passWeek rfl (by decide) ka0 ml_X2_145 ⟨Nat.le_trans (Nat.le_of_ble_eq_true rfl) hRf, Nat.le_trans (Nat.le_of_ble_eq_true rfl) hRl⟩ rfl rfl (Nat.le_of_ble_eq_true rfl) dX2_passWeeks_11 (fun H locs hM => ?_)
      refine lv_iadd hx hb dX2_passWeeks_14 ?_
      refine cz_nmi h (fun v4 h => ?_)
      refine lv_istore_n (lv' := [(2, .int v4), (0, .ref a0), (1, .int x1), (3, .int x3)]) hx hb dX2_passWeeks_15 rfl hl (by decide) rfl (fun ls hl => ?_)
      refine cz_nmL (v := x3 + nI 1) h (fun v5 e6 h => ?_)
      refine lv_iinc (v := v5) (lv' := [(3, .int v5), (2, .int v4), (0, .ref a0), (1, .int x1)]) hx hb dX2_passWeeks_16 hl (k := 3) rfl (by rw [e6]; rfl) (by decide) rfl (fun ls hl => ?_)
      refine lv_goto (tgt := 4) hx hb dX2_passWeeks_19 (by decide) ?_
      exact ih _ _ _ _ _ _ h hM (lv_sub hl [2, 3, 1, 0] rfl)
set_option maxHeartbeats 4000000 in
set_option maxRecDepth 100000 in
theorem c_X2_passWeeks {l : Launch} {g : cz_G} {b : Nat} {M : cz_M} {r0 : Int32} {M9 : cz_M} {a : Nat} {x1 : Int32} (ka : cz_K b a 2) (h : f_X2_passWeeks M a x1 = some (r0, M9)) : cz_C l yX2_passWeeks cX2_passWeeks 4 (some .int) 5 118 g b [.ref a, .int x1] M (some (.int r0)) M9 := by
  refine cz_start (by decide) (Nat.le_of_ble_eq_true rfl) (fun p e s m args below meth c X H ls hM hl => ?_)
  have X : cz_X p s m args meth c cX2_passWeeks 4 RX2 g b (some .int) := X
  obtain ⟨hx, hb, -, ho, ht, -⟩ := id X
  have hRf : 5 ≤ ({ frames := 5, cells := 0, slots := 0, locals := 118 } : Room).frames := Nat.le_refl _
  have hRl : 118 ≤ ({ frames := 5, cells := 0, slots := 0, locals := 118 } : Room).locals := Nat.le_refl _
  have hl : lv_has ls 4 [(0, .ref a), (1, .int x1)] := hl
  rw [f_X2_passWeeks] at h
  refine lv_iconst (v := nI 0) hx hb dX2_passWeeks_0 (by decide) ?_
  refine lv_istore_n (lv' := [(2, .int (nI 0)), (0, .ref a), (1, .int x1)]) hx hb dX2_passWeeks_1 rfl hl (by decide) rfl (fun ls hl => ?_)
  refine lv_iconst (v := nI 0) hx hb dX2_passWeeks_2 (by decide) ?_
  refine lv_istore_n (lv' := [(3, .int (nI 0)), (2, .int (nI 0)), (0, .ref a), (1, .int x1)]) hx hb dX2_passWeeks_3 rfl hl (by decide) rfl (fun ls hl => ?_)
  refine w_X2_passWeeks_L4 X hRf hRl ka _ (fun y7 y8 M9 H locs ls h hM hl => ?_) _ _ _ _ _ _ _ h hM (lv_sub hl [2, 3, 1, 0] rfl)
  refine lv_iload_n hx hb dX2_passWeeks_22 rfl (lv_at hl 2 rfl) ?_
  exact cz_reti X hM h rfl dX2_passWeeks_23
theorem mv_X3_placeOf : cz_MV yX3_placeOf cX3_placeOf 3 (some .int) RX3 1 := ⟨mi_X3_placeOf, ms_X3_placeOf, mc_X3_placeOf, ini_X3, by decide +kernel⟩
set_option maxHeartbeats 4000000 in
set_option maxRecDepth 100000 in
theorem w_X3_placeOf_L2 {p : Program} {l : Launch} {e : Env} {R : Room} {s : State} {m : MethodId} {args : Array Value} {below : List Frame} {meth : Method} {c : Code} {g : cz_G} {b : Nat} (X : cz_X p s m args meth c cX3_placeOf 3 RX3 g b (some .int)) (hRf : 0 ≤ R.frames) (hRl : 0 ≤ R.locals) {r0 : Int32} {a0 : Nat} {x1 : Int32} {M : cz_M} (ka0 : cz_K b a0 3)
    (K : Int32 → Option (Int32)) (hX : ∀ (x2 : Int32)  (H : Heap) (locs : List Loc) (ls : Array Slot), K x2 = some r0 → cz_WS g b M s H locs → lv_has ls 3 [(0, .ref a0), (1, .int x1), (2, .int x2)] → W p l e R s m args below meth c H locs 0 0 (MQ below (cz_Q g b (some (.int r0)) M) args s 0 0 (cz_Ar b)) (F0 m 28 ls [])) :
    ∀ (n : Nat) (x2 : Int32)  (H : Heap) (locs : List Loc) (ls : Array Slot), cz_it1 (f_X3_placeOf_L2 a0 x1 M K) n x2 = some r0 → cz_WS g b M s H locs → lv_has ls 3 [(0, .ref a0), (1, .int x1), (2, .int x2)] → W p l e R s m args below meth c H locs 0 0 (MQ below (cz_Q g b (some (.int r0)) M) args s 0 0 (cz_Ar b)) (F0 m 2 ls []) := by
  obtain ⟨hx, hb, -, ho, ht, -⟩ := id X
  intro n
  induction n with
  | zero => intro x2 H locs ls h; cases (show none = some _ from h)
  | succ n ih =>
    intro x2 H locs ls h hM hl
    have h : f_X3_placeOf_L2 a0 x1 M K (cz_it1 (f_X3_placeOf_L2 a0 x1 M K) n) x2 = some r0 := h
    rw [f_X3_placeOf_L2] at h
    refine lv_iload_n hx hb dX3_placeOf_2 rfl (lv_at hl 2 rfl) ?_
    refine lv_aload_n hx hb dX3_placeOf_3 rfl (lv_at hl 0 rfl) ?_
    refine cz_getI X hM ff_X3_1 ka0 lk_X3_15 dX3_placeOf_4 ?_
    refine lv_icmp_ge (tgt := 28) hx hb dX3_placeOf_7 (by decide) (fun c1 => ?_) (fun c1 => ?_)
    · have h := cz_ite_t c1 h
      exact hX _ _ _ _ h hM (lv_sub hl [0, 1, 2] rfl)
    · have h := cz_ite_f c1 h
      refine lv_aload_n hx hb dX3_placeOf_10 rfl (lv_at hl 0 rfl) ?_
      refine cz_getR X hM ff_X3_0 ka0 lk_X3_9 dX3_placeOf_11 (fun hk2 => ?_)
      refine lv_iload_n hx hb dX3_placeOf_14 rfl (lv_at hl 2 rfl) ?_
      refine cz_iald (n := 40) X hM h hk2 (by decide) dX3_placeOf_15 (fun h => ?_)
      refine lv_iload_n hx hb dX3_placeOf_16 rfl (lv_at hl 1 rfl) ?_
      refine lv_icmp_ne (tgt := 22) hx hb dX3_placeOf_17 (by decide) (fun c3 => ?_) (fun c3 => ?_)
      · have h := cz_ite_f c3 h
        refine cz_nmL (v := x2 + nI 1) h (fun v4 e5 h => ?_)
        refine lv_iinc (v := v4) (lv' := [(2, .int v4), (0, .ref a0), (1, .int x1)]) hx hb dX3_placeOf_22 hl (k := 2) rfl (by rw [e5]; rfl) (by decide) rfl (fun ls hl => ?_)
        refine lv_goto (tgt := 2) hx hb dX3_placeOf_25 (by decide) ?_
        exact ih _ _ _ _ h hM (lv_sub hl [1, 2, 0] rfl)
      · have h := cz_ite_t c3 h
        refine lv_iload_n hx hb dX3_placeOf_20 rfl (lv_at hl 2 rfl) ?_
        exact cz_retp X hM h rfl dX3_placeOf_21
set_option maxHeartbeats 4000000 in
set_option maxRecDepth 100000 in
theorem c_X3_placeOf {l : Launch} {g : cz_G} {b : Nat} {M : cz_M} {r0 : Int32} {a : Nat} {x1 : Int32} (ka : cz_K b a 3) (h : f_X3_placeOf M a x1 = some r0) : cz_C l yX3_placeOf cX3_placeOf 3 (some .int) 0 0 g b [.ref a, .int x1] M (some (.int r0)) M := by
  refine cz_start (by decide) (Nat.le_of_ble_eq_true rfl) (fun p e s m args below meth c X H ls hM hl => ?_)
  have X : cz_X p s m args meth c cX3_placeOf 3 RX3 g b (some .int) := X
  obtain ⟨hx, hb, -, ho, ht, -⟩ := id X
  have hRf : 0 ≤ ({ frames := 0, cells := 0, slots := 0, locals := 0 } : Room).frames := Nat.le_refl _
  have hRl : 0 ≤ ({ frames := 0, cells := 0, slots := 0, locals := 0 } : Room).locals := Nat.le_refl _
  have hl : lv_has ls 3 [(0, .ref a), (1, .int x1)] := hl
  rw [f_X3_placeOf] at h
  refine lv_iconst (v := nI 0) hx hb dX3_placeOf_0 (by decide) ?_
  refine lv_istore_n (lv' := [(2, .int (nI 0)), (0, .ref a), (1, .int x1)]) hx hb dX3_placeOf_1 rfl hl (by decide) rfl (fun ls hl => ?_)
  refine w_X3_placeOf_L2 X hRf hRl ka _ (fun y6 H locs ls h hM hl => ?_) _ _ _ _ _ h hM (lv_sub hl [1, 2, 0] rfl)
  refine lv_bipush (v := -6) hx hb dX3_placeOf_28 (by decide) ?_
  exact cz_retp X hM h rfl dX3_placeOf_30
theorem mv_X4_remember : cz_MV yX4_remember cX4_remember 3 none RX4 0 := ⟨mi_X4_remember, ms_X4_remember, mc_X4_remember, ini_X4, by decide +kernel⟩
set_option maxHeartbeats 4000000 in
set_option maxRecDepth 100000 in
theorem w_X4_remember_L17 {p : Program} {l : Launch} {e : Env} {R : Room} {s : State} {m : MethodId} {args : Array Value} {below : List Frame} {meth : Method} {c : Code} {g : cz_G} {b : Nat} (X : cz_X p s m args meth c cX4_remember 3 RX4 g b none) (hRf : 3 ≤ R.frames) (hRl : 91 ≤ R.locals) {M9 : cz_M} {a0 : Nat} {a1 : Nat} (ka0 : cz_K b a0 4) (ka1 : cz_K b a1 2)
    (K : Int32 → cz_M → Option (cz_M)) (hX : ∀ (x2 : Int32)  (M : cz_M) (H : Heap) (locs : List Loc) (ls : Array Slot), K x2 M = some M9 → cz_WS g b M s H locs → lv_has ls 3 [(0, .ref a0), (1, .ref a1), (2, .int x2)] → W p l e R s m args below meth c H locs 0 0 (MQ below (cz_Q g b none M9) args s 0 0 (cz_Ar b)) (F0 m 42 ls [])) :
    ∀ (n : Nat) (x2 : Int32)  (M : cz_M) (H : Heap) (locs : List Loc) (ls : Array Slot), cz_it2 (f_X4_remember_L17 a0 a1 K) n x2 M = some M9 → cz_WS g b M s H locs → lv_has ls 3 [(0, .ref a0), (1, .ref a1), (2, .int x2)] → W p l e R s m args below meth c H locs 0 0 (MQ below (cz_Q g b none M9) args s 0 0 (cz_Ar b)) (F0 m 17 ls []) := by
  obtain ⟨hx, hb, -, ho, ht, -⟩ := id X
  intro n
  induction n with
  | zero => intro x2 M H locs ls h; cases (show none = some _ from h)
  | succ n ih =>
    intro x2 M H locs ls h hM hl
    have h : f_X4_remember_L17 a0 a1 K (cz_it2 (f_X4_remember_L17 a0 a1 K) n) x2 M = some M9 := h
    rw [f_X4_remember_L17] at h
    refine lv_iload_n hx hb dX4_remember_17 rfl (lv_at hl 2 rfl) ?_
    refine lv_iconst (v := nI 4) hx hb dX4_remember_18 (by decide) ?_
    refine lv_icmp_ge (tgt := 42) hx hb dX4_remember_19 (by decide) (fun c11 => ?_) (fun c11 => ?_)
    · have h := cz_ite_t c11 h
      exact hX _ _ _ _ _ h hM (lv_sub hl [0, 1, 2] rfl)
    · have h := cz_ite_f c11 h
      refine lv_aload_n hx hb dX4_remember_22 rfl (lv_at hl 0 rfl) ?_
      refine cz_getR X hM ff_X4_2 ka0 lk_X4_19 dX4_remember_23 (fun hk12 => ?_)
      refine lv_iload_n hx hb dX4_remember_26 rfl (lv_at hl 2 rfl) ?_
      refine lv_iconst (v := nI 1) hx hb dX4_remember_27 (by decide) ?_
      refine lv_isub hx hb dX4_remember_28 ?_
      refine lv_aload_n hx hb dX4_remember_29 rfl (lv_at hl 0 rfl) ?_
      refine cz_getR X hM ff_X4_2 ka0 lk_X4_19 dX4_remember_30 (fun hk13 => ?_)
      refine lv_iload_n hx hb dX4_remember_33 rfl (lv_at hl 2 rfl) ?_
      refine cz_aald3 X hM h hk13 dX4_remember_34 (fun h hk14 => ?_)
      refine cz_aast X hM h hk12 hk14 dX4_remember_35 (fun M15 H locs h hM => ?_)
      refine cz_nmL (v := x2 + nI 1) h (fun v16 e17 h => ?_)
      refine lv_iinc (v := v16) (lv' := [(2, .int v16), (0, .ref a0), (1, .ref a1)]) hx hb dX4_remember_36 hl (k := 2) rfl (by rw [e17]; rfl) (by decide) rfl (fun ls hl => ?_)
      refine lv_goto (tgt := 17) hx hb dX4_remember_39 (by decide) ?_
      exact ih _ _ _ _ _ h hM (lv_sub hl [1, 2, 0] rfl)
set_option maxHeartbeats 4000000 in
set_option maxRecDepth 100000 in
theorem c_X4_remember {l : Launch} {g : cz_G} {b : Nat} {M : cz_M} {M9 : cz_M} {a : Nat} (ka : cz_K b a 4) (h : f_X4_remember M a = some M9) : cz_C l yX4_remember cX4_remember 3 none 3 91 g b [.ref a] M none M9 := by
  refine cz_start (by decide) (Nat.le_of_ble_eq_true rfl) (fun p e s m args below meth c X H ls hM hl => ?_)
  have X : cz_X p s m args meth c cX4_remember 3 RX4 g b none := X
  obtain ⟨hx, hb, -, ho, ht, -⟩ := id X
  have hRf : 3 ≤ ({ frames := 3, cells := 0, slots := 0, locals := 91 } : Room).frames := Nat.le_refl _
  have hRl : 91 ≤ ({ frames := 3, cells := 0, slots := 0, locals := 91 } : Room).locals := Nat.le_refl _
  have hl : lv_has ls 3 [(0, .ref a)] := hl
  rw [f_X4_remember] at h
  refine lv_aload_n hx hb dX4_remember_0 rfl (lv_at hl 0 rfl) ?_
  refine cz_getI X hM ff_X4_6 ka lk_X4_191 dX4_remember_1 ?_
  refine lv_iconst (v := nI 4) hx hb dX4_remember_4 (by decide) ?_
  refine lv_icmp_ne (tgt := 59) hx hb dX4_remember_5 (by decide) (fun c1 => ?_) (fun c1 => ?_)
  · have h := cz_ite_f c1 h
    refine lv_aload_n hx hb dX4_remember_59 rfl (lv_at hl 0 rfl) ?_
    refine cz_getR X hM ff_X4_2 ka lk_X4_19 dX4_remember_60 (fun hk2 => ?_)
    refine lv_aload_n hx hb dX4_remember_63 rfl (lv_at hl 0 rfl) ?_
    refine cz_getI X hM ff_X4_6 ka lk_X4_191 dX4_remember_64 ?_
    refine cz_aald3 X hM h hk2 dX4_remember_67 (fun h hk3 => ?_)
    refine lv_aload_n hx hb dX4_remember_68 rfl (lv_at hl 0 rfl) ?_
    refine cz_getR X hM ff_X4_0 ka lk_X4_12 dX4_remember_69 (fun hk4 => ?_)
    obtain ⟨M5, hq, h⟩ := cz_bd_t h
    refine cz_runV (rest := []) (As := [.ref (a + 1)]) (T := TX2) (N0 := 9) X hM hl.1 (c_X2_copyFrom (l := l) (g := g) (b := b) hk3 hk4 hq) mv_X2_copyFrom rfl (by decide) hk3 ml_X4_194 ⟨Nat.le_trans (Nat.le_of_ble_eq_true rfl) hRf, Nat.le_trans (Nat.le_of_ble_eq_true rfl) hRl⟩ rfl rfl (Nat.le_of_ble_eq_true rfl) dX4_remember_72 (fun H locs hM => ?_)
    refine lv_aload_n hx hb dX4_remember_75 rfl (lv_at hl 0 rfl) ?_
    refine lv_dup hx hb dX4_remember_76 rfl ?_
    refine cz_getI X hM ff_X4_6 ka lk_X4_191 dX4_remember_77 ?_
    refine lv_iconst (v := nI 1) hx hb dX4_remember_80 (by decide) ?_
    refine lv_iadd hx hb dX4_remember_81 ?_
    refine cz_putI X hM h ff_X4_6 ka lk_X4_191 dX4_remember_82 (fun M6 H locs h hM => ?_)
    exact cz_retv X hM h dX4_remember_85
  · have h := cz_ite_t c1 h
    refine lv_aload_n hx hb dX4_remember_8 rfl (lv_at hl 0 rfl) ?_
    refine cz_getR X hM ff_X4_2 ka lk_X4_19 dX4_remember_9 (fun hk7 => ?_)
    refine lv_iconst (v := nI 0) hx hb dX4_remember_12 (by decide) ?_
    refine cz_aald3 X hM h hk7 dX4_remember_13 (fun h hk8 => ?_)
    refine cz_nmr h hk8 (fun r9 h hk10 => ?_)
    refine lv_astore_n (lv' := [(1, .ref r9), (0, .ref a)]) hx hb dX4_remember_14 rfl hl (by decide) rfl (fun ls hl => ?_)
    refine lv_iconst (v := nI 1) hx hb dX4_remember_15 (by decide) ?_
    refine lv_istore_n (lv' := [(2, .int (nI 1)), (1, .ref r9), (0, .ref a)]) hx hb dX4_remember_16 rfl hl (by decide) rfl (fun ls hl => ?_)
    refine w_X4_remember_L17 X hRf hRl ka hk10 _ (fun y18 M19 H locs ls h hM hl => ?_) _ _ _ _ _ _ h hM (lv_sub hl [2, 1, 0] rfl)
    refine lv_aload_n hx hb dX4_remember_42 rfl (lv_at hl 0 rfl) ?_
    refine cz_getR X hM ff_X4_2 ka lk_X4_19 dX4_remember_43 (fun hk20 => ?_)
    refine lv_iconst (v := nI 3) hx hb dX4_remember_46 (by decide) ?_
    refine lv_aload_n hx hb dX4_remember_47 rfl (lv_at hl 1 rfl) ?_
    refine cz_aast X hM h hk20 hk10 dX4_remember_48 (fun M21 H locs h hM => ?_)
    refine lv_aload_n hx hb dX4_remember_49 rfl (lv_at hl 0 rfl) ?_
    refine lv_dup hx hb dX4_remember_50 rfl ?_
    refine cz_getI X hM ff_X4_6 ka lk_X4_191 dX4_remember_51 ?_
    refine lv_iconst (v := nI 1) hx hb dX4_remember_54 (by decide) ?_
    refine lv_isub hx hb dX4_remember_55 ?_
    refine cz_putI X hM h ff_X4_6 ka lk_X4_191 dX4_remember_56 (fun M22 H locs h hM => ?_)
    refine lv_aload_n hx hb dX4_remember_59 rfl (lv_at hl 0 rfl) ?_
    refine cz_getR X hM ff_X4_2 ka lk_X4_19 dX4_remember_60 (fun hk23 => ?_)
    refine lv_aload_n hx hb dX4_remember_63 rfl (lv_at hl 0 rfl) ?_
    refine cz_getI X hM ff_X4_6 ka lk_X4_191 dX4_remember_64 ?_
    refine cz_aald3 X hM h hk23 dX4_remember_67 (fun h hk24 => ?_)
    refine lv_aload_n hx hb dX4_remember_68 rfl (lv_at hl 0 rfl) ?_
    refine cz_getR X hM ff_X4_0 ka lk_X4_12 dX4_remember_69 (fun hk25 => ?_)
    obtain ⟨M26, hq, h⟩ := cz_bd_t h
    refine cz_runV (rest := []) (As := [.ref (a + 1)]) (T := TX2) (N0 := 9) X hM hl.1 (c_X2_copyFrom (l := l) (g := g) (b := b) hk24 hk25 hq) mv_X2_copyFrom rfl (by decide) hk24 ml_X4_194 ⟨Nat.le_trans (Nat.le_of_ble_eq_true rfl) hRf, Nat.le_trans (Nat.le_of_ble_eq_true rfl) hRl⟩ rfl rfl (Nat.le_of_ble_eq_true rfl) dX4_remember_72 (fun H locs hM => ?_)
    refine lv_aload_n hx hb dX4_remember_75 rfl (lv_at hl 0 rfl) ?_
    refine lv_dup hx hb dX4_remember_76 rfl ?_
    refine cz_getI X hM ff_X4_6 ka lk_X4_191 dX4_remember_77 ?_
    refine lv_iconst (v := nI 1) hx hb dX4_remember_80 (by decide) ?_
    refine lv_iadd hx hb dX4_remember_81 ?_
    refine cz_putI X hM h ff_X4_6 ka lk_X4_191 dX4_remember_82 (fun M27 H locs h hM => ?_)
    exact cz_retv X hM h dX4_remember_85
theorem mv_X4_set : cz_MV yX4_set cX4_set 4 (some .int) RX4 2 := ⟨mi_X4_set, ms_X4_set, mc_X4_set, ini_X4, by decide +kernel⟩
set_option maxHeartbeats 4000000 in
set_option maxRecDepth 100000 in
theorem c_X4_set {l : Launch} {g : cz_G} {b : Nat} {M : cz_M} {r0 : Int32} {M9 : cz_M} {a : Nat} {x1 : Int32} {x2 : Int32} (ka : cz_K b a 4) (h : f_X4_set M a x1 x2 = some (r0, M9)) : cz_C l yX4_set cX4_set 4 (some .int) 4 113 g b [.ref a, .int x1, .int x2] M (some (.int r0)) M9 := by
  refine cz_start (by decide) (Nat.le_of_ble_eq_true rfl) (fun p e s m args below meth c X H ls hM hl => ?_)
  have X : cz_X p s m args meth c cX4_set 4 RX4 g b (some .int) := X
  obtain ⟨hx, hb, -, ho, ht, -⟩ := id X
  have hRf : 4 ≤ ({ frames := 4, cells := 0, slots := 0, locals := 113 } : Room).frames := Nat.le_refl _
  have hRl : 113 ≤ ({ frames := 4, cells := 0, slots := 0, locals := 113 } : Room).locals := Nat.le_refl _
  have hl : lv_has ls 4 [(0, .ref a), (1, .int x1), (2, .int x2)] := hl
  rw [f_X4_set] at h
  refine lv_iload_n hx hb dX4_set_0 rfl (lv_at hl 1 rfl) ?_
  refine lv_if_lt (tgt := 9) hx hb dX4_set_1 (by decide) (fun c1 => ?_) (fun c1 => ?_)
  · have h := cz_ite_t c1 h
    refine lv_bipush (v := -2) hx hb dX4_set_9 (by decide) ?_
    exact cz_reti X hM h rfl dX4_set_11
  · have h := cz_ite_f c1 h
    refine lv_iload_n hx hb dX4_set_4 rfl (lv_at hl 1 rfl) ?_
    refine lv_iconst (v := nI 3) hx hb dX4_set_5 (by decide) ?_
    refine lv_icmp_lt (tgt := 12) hx hb dX4_set_6 (by decide) (fun c2 => ?_) (fun c2 => ?_)
    · have h := cz_ite_t c2 h
      refine lv_iload_n hx hb dX4_set_12 rfl (lv_at hl 2 rfl) ?_
      refine cz_stL X hM lk_X4_34 dX4_set_13 (fun t3 hT4 => ?_)
      refine lv_iload_n hx hb dX4_set_16 rfl (lv_at hl 1 rfl) ?_
      refine cz_stld (f := cz_tL) X hM hT4 h dX4_set_17 (fun h => ?_)
      refine lv_icmp_lt (tgt := 30) hx hb dX4_set_18 (by decide) (fun c5 => ?_) (fun c5 => ?_)
      · have h := cz_ite_t c5 h
        refine lv_bipush (v := -2) hx hb dX4_set_30 (by decide) ?_
        exact cz_reti X hM h rfl dX4_set_32
      · have h := cz_ite_f c5 h
        refine lv_iload_n hx hb dX4_set_21 rfl (lv_at hl 2 rfl) ?_
        refine cz_stM X hM lk_X4_38 dX4_set_22 (fun t6 hT7 => ?_)
        refine lv_iload_n hx hb dX4_set_25 rfl (lv_at hl 1 rfl) ?_
        refine cz_stld (f := cz_tM) X hM hT7 h dX4_set_26 (fun h => ?_)
        refine lv_icmp_le (tgt := 33) hx hb dX4_set_27 (by decide) (fun c8 => ?_) (fun c8 => ?_)
        · have h := cz_ite_t c8 h
          refine lv_aload_n hx hb dX4_set_33 rfl (lv_at hl 0 rfl) ?_
          obtain ⟨M9, hq, h⟩ := cz_bd_t h
          refine cz_runV (rest := []) (As := []) (T := TX4) (N0 := 8) X hM hl.1 (c_X4_remember (l := l) (g := g) (b := b) ka hq) mv_X4_remember rfl (by decide) ka ml_X4_41 ⟨Nat.le_trans (Nat.le_of_ble_eq_true rfl) hRf, Nat.le_trans (Nat.le_of_ble_eq_true rfl) hRl⟩ rfl rfl (Nat.le_of_ble_eq_true rfl) dX4_set_34 (fun H locs hM => ?_)
          refine lv_aload_n hx hb dX4_set_37 rfl (lv_at hl 0 rfl) ?_
          refine cz_getR X hM ff_X4_0 ka lk_X4_12 dX4_set_38 (fun hk10 => ?_)
          refine cz_getR X hM ff_X2_0 hk10 lk_X4_44 dX4_set_41 (fun hk11 => ?_)
          refine lv_iload_n hx hb dX4_set_44 rfl (lv_at hl 1 rfl) ?_
          refine cz_iald (n := 3) X hM h hk11 (by decide) dX4_set_45 (fun h => ?_)
          refine cz_nmi h (fun v12 h => ?_)
          refine lv_istore_n (lv' := [(3, .int v12), (0, .ref a), (1, .int x1), (2, .int x2)]) hx hb dX4_set_46 rfl hl (by decide) rfl (fun ls hl => ?_)
          refine lv_aload_n hx hb dX4_set_47 rfl (lv_at hl 1 rfl) ?_
          refine cz_getR X hM ff_X4_0 ka lk_X4_12 dX4_set_48 (fun hk13 => ?_)
          refine cz_getR X hM ff_X2_0 hk13 lk_X4_44 dX4_set_51 (fun hk14 => ?_)
          refine lv_iload_n hx hb dX4_set_54 rfl (lv_at hl 2 rfl) ?_
          refine lv_iload_n hx hb dX4_set_55 rfl (lv_at hl 3 rfl) ?_
          refine cz_iast (n := 3) X hM h hk14 (by decide) dX4_set_56 (fun M15 H locs h hM => ?_)
          refine lv_iload_n hx hb dX4_set_57 rfl (lv_at hl 0 rfl) ?_
          exact cz_reti X hM h rfl dX4_set_58
        · have h := cz_ite_f c8 h
          refine lv_bipush (v := -2) hx hb dX4_set_30 (by decide) ?_
          exact cz_reti X hM h rfl dX4_set_32
    · have h := cz_ite_f c2 h
      refine lv_bipush (v := -2) hx hb dX4_set_9 (by decide) ?_
      exact cz_reti X hM h rfl dX4_set_11
theorem mv_X4_strike : cz_MV yX4_strike cX4_strike 4 (some .int) RX4 2 := ⟨mi_X4_strike, ms_X4_strike, mc_X4_strike, ini_X4, by decide +kernel⟩
set_option maxHeartbeats 4000000 in
set_option maxRecDepth 100000 in
theorem c_X4_strike {l : Launch} {g : cz_G} {b : Nat} {M : cz_M} {r0 : Int32} {M9 : cz_M} {a : Nat} {x1 : Int32} {x2 : Int32} (ka : cz_K b a 4) (h : f_X4_strike M a x1 x2 = some (r0, M9)) : cz_C l yX4_strike cX4_strike 4 (some .int) 4 113 g b [.ref a, .int x1, .int x2] M (some (.int r0)) M9 := by
  refine cz_start (by decide) (Nat.le_of_ble_eq_true rfl) (fun p e s m args below meth c X H ls hM hl => ?_)
  have X : cz_X p s m args meth c cX4_strike 4 RX4 g b (some .int) := X
  obtain ⟨hx, hb, -, ho, ht, -⟩ := id X
  have hRf : 4 ≤ ({ frames := 4, cells := 0, slots := 0, locals := 113 } : Room).frames := Nat.le_refl _
  have hRl : 113 ≤ ({ frames := 4, cells := 0, slots := 0, locals := 113 } : Room).locals := Nat.le_refl _
  have hl : lv_has ls 4 [(0, .ref a), (1, .int x1), (2, .int x2)] := hl
  rw [f_X4_strike] at h
  refine lv_iload_n hx hb dX4_strike_0 rfl (lv_at hl 1 rfl) ?_
  refine lv_if_lt (tgt := 19) hx hb dX4_strike_1 (by decide) (fun c1 => ?_) (fun c1 => ?_)
  · have h := cz_ite_t c1 h
    refine lv_iconst (v := -1) hx hb dX4_strike_19 (by decide) ?_
    exact cz_reti X hM h rfl dX4_strike_20
  · have h := cz_ite_f c1 h
    refine lv_iload_n hx hb dX4_strike_4 rfl (lv_at hl 1 rfl) ?_
    refine lv_iconst (v := nI 4) hx hb dX4_strike_5 (by decide) ?_
    refine lv_icmp_ge (tgt := 19) hx hb dX4_strike_6 (by decide) (fun c2 => ?_) (fun c2 => ?_)
    · have h := cz_ite_t c2 h
      refine lv_iconst (v := -1) hx hb dX4_strike_19 (by decide) ?_
      exact cz_reti X hM h rfl dX4_strike_20
    · have h := cz_ite_f c2 h
      refine lv_iload_n hx hb dX4_strike_9 rfl (lv_at hl 2 rfl) ?_
      refine lv_if_lt (tgt := 19) hx hb dX4_strike_10 (by decide) (fun c3 => ?_) (fun c3 => ?_)
      · have h := cz_ite_t c3 h
        refine lv_iconst (v := -1) hx hb dX4_strike_19 (by decide) ?_
        exact cz_reti X hM h rfl dX4_strike_20
      · have h := cz_ite_f c3 h
        refine lv_iload_n hx hb dX4_strike_13 rfl (lv_at hl 2 rfl) ?_
        refine lv_bipush (v := nI 26) hx hb dX4_strike_14 (by decide) ?_
        refine lv_icmp_lt (tgt := 21) hx hb dX4_strike_16 (by decide) (fun c4 => ?_) (fun c4 => ?_)
        · have h := cz_ite_t c4 h
          refine lv_aload_n hx hb dX4_strike_21 rfl (lv_at hl 0 rfl) ?_
          obtain ⟨M5, hq, h⟩ := cz_bd_t h
          refine cz_runV (rest := []) (As := []) (T := TX4) (N0 := 8) X hM hl.1 (c_X4_remember (l := l) (g := g) (b := b) ka hq) mv_X4_remember rfl (by decide) ka ml_X4_41 ⟨Nat.le_trans (Nat.le_of_ble_eq_true rfl) hRf, Nat.le_trans (Nat.le_of_ble_eq_true rfl) hRl⟩ rfl rfl (Nat.le_of_ble_eq_true rfl) dX4_strike_22 (fun H locs hM => ?_)
          refine lv_aload_n hx hb dX4_strike_25 rfl (lv_at hl 0 rfl) ?_
          refine cz_getR X hM ff_X4_0 ka lk_X4_12 dX4_strike_26 (fun hk6 => ?_)
          refine cz_getR X hM ff_X2_1 hk6 lk_X4_47 dX4_strike_29 (fun hk7 => ?_)
          refine lv_iload_n hx hb dX4_strike_32 rfl (lv_at hl 1 rfl) ?_
          refine cz_aald0 X hM h hk7 dX4_strike_33 (fun h hk8 => ?_)
          refine cz_nmr h hk8 (fun r9 h hk10 => ?_)
          refine lv_astore_n (lv' := [(3, .ref r9), (0, .ref a), (1, .int x1), (2, .int x2)]) hx hb dX4_strike_34 rfl hl (by decide) rfl (fun ls hl => ?_)
          refine lv_aload_n hx hb dX4_strike_35 rfl (lv_at hl 0 rfl) ?_
          refine lv_aload_n hx hb dX4_strike_36 rfl (lv_at hl 0 rfl) ?_
          refine cz_getI X hM ff_X0_0 hk10 lk_X4_51 dX4_strike_37 ?_
          refine lv_iconst (v := nI 1) hx hb dX4_strike_40 (by decide) ?_
          refine lv_iload_n hx hb dX4_strike_41 rfl (lv_at hl 3 rfl) ?_
          refine lv_ishl hx hb dX4_strike_42 ?_
          refine lv_ixor hx hb dX4_strike_43 ?_
          refine cz_putI X hM h ff_X0_0 hk10 lk_X4_51 dX4_strike_44 (fun M11 H locs h hM => ?_)
          refine lv_aload_n hx hb dX4_strike_47 rfl (lv_at hl 0 rfl) ?_
          refine cz_getI X hM ff_X0_0 hk10 lk_X4_51 dX4_strike_48 ?_
          obtain ⟨v12, hq, h⟩ := cz_bd_t h
          refine cz_runS (rest := []) (As := [.int (M11.1 r9 0)]) X hM hl.1 (c_J6_bitCount_0f7a4 (l := l) (g := g) (b := b)  hq) mv_J6_bitCount_0f7a4 ml_X4_57 ⟨Nat.le_trans (Nat.le_of_ble_eq_true rfl) hRf, Nat.le_trans (Nat.le_of_ble_eq_true rfl) hRl⟩ rfl rfl (Nat.le_of_ble_eq_true rfl) dX4_strike_51 (fun H locs hM => ?_)
          exact cz_reti X hM h rfl dX4_strike_54
        · have h := cz_ite_f c4 h
          refine lv_iconst (v := -1) hx hb dX4_strike_19 (by decide) ?_
          exact cz_reti X hM h rfl dX4_strike_20
theorem mv_X4_trade : cz_MV yX4_trade cX4_trade 3 (some .int) RX4 2 := ⟨mi_X4_trade, ms_X4_trade, mc_X4_trade, ini_X4, by decide +kernel⟩
set_option maxHeartbeats 4000000 in
set_option maxRecDepth 100000 in
theorem c_X4_trade {l : Launch} {g : cz_G} {b : Nat} {M : cz_M} {r0 : Int32} {M9 : cz_M} {a : Nat} {x1 : Int32} {x2 : Int32} (ka : cz_K b a 4) (h : f_X4_trade M a x1 x2 = some (r0, M9)) : cz_C l yX4_trade cX4_trade 3 (some .int) 4 113 g b [.ref a, .int x1, .int x2] M (some (.int r0)) M9 := by
  refine cz_start (by decide) (Nat.le_of_ble_eq_true rfl) (fun p e s m args below meth c X H ls hM hl => ?_)
  have X : cz_X p s m args meth c cX4_trade 3 RX4 g b (some .int) := X
  obtain ⟨hx, hb, -, ho, ht, -⟩ := id X
  have hRf : 4 ≤ ({ frames := 4, cells := 0, slots := 0, locals := 113 } : Room).frames := Nat.le_refl _
  have hRl : 113 ≤ ({ frames := 4, cells := 0, slots := 0, locals := 113 } : Room).locals := Nat.le_refl _
  have hl : lv_has ls 3 [(0, .ref a), (1, .int x1), (2, .int x2)] := hl
  rw [f_X4_trade] at h
  refine lv_iload_n hx hb dX4_trade_0 rfl (lv_at hl 1 rfl) ?_
  refine lv_if_lt (tgt := 20) hx hb dX4_trade_1 (by decide) (fun c1 => ?_) (fun c1 => ?_)
  · have h := cz_ite_t c1 h
    refine lv_iconst (v := -1) hx hb dX4_trade_20 (by decide) ?_
    exact cz_reti X hM h rfl dX4_trade_21
  · have h := cz_ite_f c1 h
    refine lv_iload_n hx hb dX4_trade_4 rfl (lv_at hl 1 rfl) ?_
    refine lv_bipush (v := nI 8) hx hb dX4_trade_5 (by decide) ?_
    refine lv_icmp_ge (tgt := 20) hx hb dX4_trade_7 (by decide) (fun c2 => ?_) (fun c2 => ?_)
    · have h := cz_ite_t c2 h
      refine lv_iconst (v := -1) hx hb dX4_trade_20 (by decide) ?_
      exact cz_reti X hM h rfl dX4_trade_21
    · have h := cz_ite_f c2 h
      refine lv_iload_n hx hb dX4_trade_10 rfl (lv_at hl 2 rfl) ?_
      refine lv_if_lt (tgt := 20) hx hb dX4_trade_11 (by decide) (fun c3 => ?_) (fun c3 => ?_)
      · have h := cz_ite_t c3 h
        refine lv_iconst (v := -1) hx hb dX4_trade_20 (by decide) ?_
        exact cz_reti X hM h rfl dX4_trade_21
      · have h := cz_ite_f c3 h
        refine lv_iload_n hx hb dX4_trade_14 rfl (lv_at hl 2 rfl) ?_
        refine lv_bipush (v := nI 8) hx hb dX4_trade_15 (by decide) ?_
        refine lv_icmp_lt (tgt := 22) hx hb dX4_trade_17 (by decide) (fun c4 => ?_) (fun c4 => ?_)
        · have h := cz_ite_t c4 h
          refine lv_aload_n hx hb dX4_trade_22 rfl (lv_at hl 0 rfl) ?_
          refine cz_getR X hM ff_X4_0 ka lk_X4_12 dX4_trade_23 (fun hk5 => ?_)
          refine cz_getR X hM ff_X2_2 hk5 lk_X4_63 dX4_trade_26 (fun hk6 => ?_)
          refine lv_iload_n hx hb dX4_trade_29 rfl (lv_at hl 1 rfl) ?_
          refine cz_iald (n := 8) X hM h hk6 (by decide) dX4_trade_30 (fun h => ?_)
          refine lv_aload_n hx hb dX4_trade_31 rfl (lv_at hl 0 rfl) ?_
          refine cz_getR X hM ff_X4_0 ka lk_X4_12 dX4_trade_32 (fun hk7 => ?_)
          refine cz_getR X hM ff_X2_2 hk7 lk_X4_63 dX4_trade_35 (fun hk8 => ?_)
          refine lv_iload_n hx hb dX4_trade_38 rfl (lv_at hl 2 rfl) ?_
          refine cz_iald (n := 8) X hM h hk8 (by decide) dX4_trade_39 (fun h => ?_)
          refine lv_icmp_ne (tgt := 46) hx hb dX4_trade_40 (by decide) (fun c9 => ?_) (fun c9 => ?_)
          · have h := cz_ite_f c9 h
            refine lv_aload_n hx hb dX4_trade_46 rfl (lv_at hl 0 rfl) ?_
            obtain ⟨M10, hq, h⟩ := cz_bd_t h
            refine cz_runV (rest := []) (As := []) (T := TX4) (N0 := 8) X hM hl.1 (c_X4_remember (l := l) (g := g) (b := b) ka hq) mv_X4_remember rfl (by decide) ka ml_X4_41 ⟨Nat.le_trans (Nat.le_of_ble_eq_true rfl) hRf, Nat.le_trans (Nat.le_of_ble_eq_true rfl) hRl⟩ rfl rfl (Nat.le_of_ble_eq_true rfl) dX4_trade_47 (fun H locs hM => ?_)
            refine lv_aload_n hx hb dX4_trade_50 rfl (lv_at hl 0 rfl) ?_
            refine cz_getR X hM ff_X4_0 ka lk_X4_12 dX4_trade_51 (fun hk11 => ?_)
            refine lv_iload_n hx hb dX4_trade_54 rfl (lv_at hl 1 rfl) ?_
            refine lv_iload_n hx hb dX4_trade_55 rfl (lv_at hl 2 rfl) ?_
            obtain ⟨M12, hq, h⟩ := cz_bd_t h
            refine cz_runV (rest := []) (As := [.int x1, .int x2]) (T := TX2) (N0 := 9) X hM hl.1 (c_X2_tradeShifts (l := l) (g := g) (b := b) hk11 hq) mv_X2_tradeShifts rfl (by decide) hk11 ml_X4_66 ⟨Nat.le_trans (Nat.le_of_ble_eq_true rfl) hRf, Nat.le_trans (Nat.le_of_ble_eq_true rfl) hRl⟩ rfl rfl (Nat.le_of_ble_eq_true rfl) dX4_trade_56 (fun H locs hM => ?_)
            refine lv_aload_n hx hb dX4_trade_59 rfl (lv_at hl 0 rfl) ?_
            refine cz_getR X hM ff_X4_0 ka lk_X4_12 dX4_trade_60 (fun hk13 => ?_)
            refine cz_getR X hM ff_X2_2 hk13 lk_X4_63 dX4_trade_63 (fun hk14 => ?_)
            refine lv_iload_n hx hb dX4_trade_66 rfl (lv_at hl 1 rfl) ?_
            refine cz_iald (n := 8) X hM h hk14 (by decide) dX4_trade_67 (fun h => ?_)
            exact cz_reti X hM h rfl dX4_trade_68
          · have h := cz_ite_t c9 h
            refine lv_bipush (v := -5) hx hb dX4_trade_43 (by decide) ?_
            exact cz_reti X hM h rfl dX4_trade_45
        · have h := cz_ite_f c4 h
          refine lv_iconst (v := -1) hx hb dX4_trade_20 (by decide) ?_
          exact cz_reti X hM h rfl dX4_trade_21
theorem mv_X4_isWord : cz_MS yX4_isWord cX4_isWord 1 (some .boolean) 1 := ⟨mt_X4_isWord, mc_X4_isWord, ini_X4, by decide +kernel⟩
set_option maxHeartbeats 4000000 in
set_option maxRecDepth 100000 in
theorem c_X4_isWord {l : Launch} {g : cz_G} {b : Nat} {M : cz_M} {r0 : Int32} {x0 : Int32}  (h : f_X4_isWord x0 = some r0) : cz_C l yX4_isWord cX4_isWord 1 (some .boolean) 0 0 g b [.int x0] M (some (.int r0)) M := by
  refine cz_start (by decide) (Nat.le_of_ble_eq_true rfl) (fun p e s m args below meth c X H ls hM hl => ?_)
  have X : cz_X p s m args meth c cX4_isWord 1 RX4 g b (some .boolean) := X
  obtain ⟨hx, hb, -, ho, ht, -⟩ := id X
  have hRf : 0 ≤ ({ frames := 0, cells := 0, slots := 0, locals := 0 } : Room).frames := Nat.le_refl _
  have hRl : 0 ≤ ({ frames := 0, cells := 0, slots := 0, locals := 0 } : Room).locals := Nat.le_refl _
  have hl : lv_has ls 1 [(0, .int x0)] := hl
  rw [f_X4_isWord] at h
  refine lv_iload_n hx hb dX4_isWord_0 rfl (lv_at hl 0 rfl) ?_
  refine lv_bipush (v := nI 97) hx hb dX4_isWord_1 (by decide) ?_
  refine lv_icmp_lt (tgt := 16) hx hb dX4_isWord_3 (by decide) (fun c1 => ?_) (fun c1 => ?_)
  · have h := cz_ite_t c1 h
    refine lv_iconst (v := nI 0) hx hb dX4_isWord_16 (by decide) ?_
    exact cz_retp X hM h rfl dX4_isWord_17
  · have h := cz_ite_f c1 h
    refine lv_iload_n hx hb dX4_isWord_6 rfl (lv_at hl 0 rfl) ?_
    refine lv_bipush (v := nI 122) hx hb dX4_isWord_7 (by decide) ?_
    refine lv_icmp_gt (tgt := 16) hx hb dX4_isWord_9 (by decide) (fun c2 => ?_) (fun c2 => ?_)
    · have h := cz_ite_t c2 h
      refine lv_iconst (v := nI 0) hx hb dX4_isWord_16 (by decide) ?_
      exact cz_retp X hM h rfl dX4_isWord_17
    · have h := cz_ite_f c2 h
      refine lv_iconst (v := nI 1) hx hb dX4_isWord_12 (by decide) ?_
      refine lv_goto (tgt := 17) hx hb dX4_isWord_13 (by decide) ?_
      exact cz_retp X hM h rfl dX4_isWord_17
theorem mv_X4_stageBehind : cz_MS yX4_stageBehind cX4_stageBehind 2 (some .int) 2 := ⟨mt_X4_stageBehind, mc_X4_stageBehind, ini_X4, by decide +kernel⟩
set_option maxHeartbeats 4000000 in
set_option maxRecDepth 100000 in
theorem c_X4_stageBehind {l : Launch} {g : cz_G} {b : Nat} {M : cz_M} {r0 : Int32} {x0 : Int32} {x1 : Int32}  (h : f_X4_stageBehind x0 x1 = some r0) : cz_C l yX4_stageBehind cX4_stageBehind 2 (some .int) 1 20 g b [.int x0, .int x1] M (some (.int r0)) M := by
  refine cz_start (by decide) (Nat.le_of_ble_eq_true rfl) (fun p e s m args below meth c X H ls hM hl => ?_)
  have X : cz_X p s m args meth c cX4_stageBehind 2 RX4 g b (some .int) := X
  obtain ⟨hx, hb, -, ho, ht, -⟩ := id X
  have hRf : 1 ≤ ({ frames := 1, cells := 0, slots := 0, locals := 20 } : Room).frames := Nat.le_refl _
  have hRl : 20 ≤ ({ frames := 1, cells := 0, slots := 0, locals := 20 } : Room).locals := Nat.le_refl _
  have hl : lv_has ls 2 [(0, .int x0), (1, .int x1)] := hl
  rw [f_X4_stageBehind] at h
  refine lv_iload_n hx hb dX4_stageBehind_0 rfl (lv_at hl 0 rfl) ?_
  refine lv_if_ne (tgt := 22) hx hb dX4_stageBehind_1 (by decide) (fun c1 => ?_) (fun c1 => ?_)
  · have h := cz_ite_f c1 h
    refine lv_iload_n hx hb dX4_stageBehind_22 rfl (lv_at hl 0 rfl) ?_
    refine lv_iconst (v := nI 1) hx hb dX4_stageBehind_23 (by decide) ?_
    refine lv_icmp_ne (tgt := 45) hx hb dX4_stageBehind_24 (by decide) (fun c2 => ?_) (fun c2 => ?_)
    · have h := cz_ite_f c2 h
      refine lv_iload_n hx hb dX4_stageBehind_45 rfl (lv_at hl 1 rfl) ?_
      obtain ⟨v3, hq, h⟩ := cz_bd_t h
      refine cz_runS (rest := []) (As := [.int x1]) X hM hl.1 (c_X4_isWord (l := l) (g := g) (b := b)  hq) mv_X4_isWord ml_X4_217 ⟨Nat.le_trans (Nat.le_of_ble_eq_true rfl) hRf, Nat.le_trans (Nat.le_of_ble_eq_true rfl) hRl⟩ rfl rfl (Nat.le_of_ble_eq_true rfl) dX4_stageBehind_46 (fun H locs hM => ?_)
      refine lv_if_eq (tgt := 66) hx hb dX4_stageBehind_49 (by decide) (fun c4 => ?_) (fun c4 => ?_)
      · have h := cz_ite_t c4 h
        refine lv_iload_n hx hb dX4_stageBehind_66 rfl (lv_at hl 1 rfl) ?_
        refine lv_bipush (v := nI 44) hx hb dX4_stageBehind_67 (by decide) ?_
        refine lv_icmp_ne (tgt := 81) hx hb dX4_stageBehind_69 (by decide) (fun c5 => ?_) (fun c5 => ?_)
        · have h := cz_ite_f c5 h
          refine lv_iconst (v := -1) hx hb dX4_stageBehind_81 (by decide) ?_
          exact cz_retp X hM h rfl dX4_stageBehind_82
        · have h := cz_ite_t c5 h
          refine lv_iload_n hx hb dX4_stageBehind_72 rfl (lv_at hl 0 rfl) ?_
          refine lv_iconst (v := nI 2) hx hb dX4_stageBehind_73 (by decide) ?_
          refine lv_icmp_le (tgt := 81) hx hb dX4_stageBehind_74 (by decide) (fun c6 => ?_) (fun c6 => ?_)
          · have h := cz_ite_t c6 h
            refine lv_iconst (v := -1) hx hb dX4_stageBehind_81 (by decide) ?_
            exact cz_retp X hM h rfl dX4_stageBehind_82
          · have h := cz_ite_f c6 h
            refine lv_iconst (v := nI 0) hx hb dX4_stageBehind_77 (by decide) ?_
            refine lv_goto (tgt := 82) hx hb dX4_stageBehind_78 (by decide) ?_
            exact cz_retp X hM h rfl dX4_stageBehind_82
      · have h := cz_ite_f c4 h
        refine lv_iload_n hx hb dX4_stageBehind_52 rfl (lv_at hl 0 rfl) ?_
        refine lv_bipush (v := nI 10) hx hb dX4_stageBehind_53 (by decide) ?_
        refine lv_icmp_ge (tgt := 64) hx hb dX4_stageBehind_55 (by decide) (fun c7 => ?_) (fun c7 => ?_)
        · have h := cz_ite_t c7 h
          refine lv_iconst (v := -1) hx hb dX4_stageBehind_64 (by decide) ?_
          exact cz_retp X hM h rfl dX4_stageBehind_65
        · have h := cz_ite_f c7 h
          refine lv_iload_n hx hb dX4_stageBehind_58 rfl (lv_at hl 0 rfl) ?_
          refine lv_iconst (v := nI 1) hx hb dX4_stageBehind_59 (by decide) ?_
          refine lv_iadd hx hb dX4_stageBehind_60 ?_
          refine lv_goto (tgt := 65) hx hb dX4_stageBehind_61 (by decide) ?_
          exact cz_retp X hM h rfl dX4_stageBehind_65
    · have h := cz_ite_t c2 h
      refine lv_iload_n hx hb dX4_stageBehind_27 rfl (lv_at hl 1 rfl) ?_
      refine lv_bipush (v := nI 62) hx hb dX4_stageBehind_28 (by decide) ?_
      refine lv_icmp_eq (tgt := 39) hx hb dX4_stageBehind_30 (by decide) (fun c8 => ?_) (fun c8 => ?_)
      · have h := cz_ite_t c8 h
        refine lv_iconst (v := nI 2) hx hb dX4_stageBehind_39 (by decide) ?_
        refine lv_goto (tgt := 44) hx hb dX4_stageBehind_40 (by decide) ?_
        exact cz_retp X hM h rfl dX4_stageBehind_44
      · have h := cz_ite_f c8 h
        refine lv_iload_n hx hb dX4_stageBehind_33 rfl (lv_at hl 1 rfl) ?_
        refine lv_bipush (v := nI 60) hx hb dX4_stageBehind_34 (by decide) ?_
        refine lv_icmp_ne (tgt := 43) hx hb dX4_stageBehind_36 (by decide) (fun c9 => ?_) (fun c9 => ?_)
        · have h := cz_ite_f c9 h
          refine lv_iconst (v := -1) hx hb dX4_stageBehind_43 (by decide) ?_
          exact cz_retp X hM h rfl dX4_stageBehind_44
        · have h := cz_ite_t c9 h
          refine lv_iconst (v := nI 2) hx hb dX4_stageBehind_39 (by decide) ?_
          refine lv_goto (tgt := 44) hx hb dX4_stageBehind_40 (by decide) ?_
          exact cz_retp X hM h rfl dX4_stageBehind_44
  · have h := cz_ite_t c1 h
    refine lv_iload_n hx hb dX4_stageBehind_4 rfl (lv_at hl 1 rfl) ?_
    refine lv_bipush (v := nI 48) hx hb dX4_stageBehind_5 (by decide) ?_
    refine lv_icmp_lt (tgt := 20) hx hb dX4_stageBehind_7 (by decide) (fun c10 => ?_) (fun c10 => ?_)
    · have h := cz_ite_t c10 h
      refine lv_iconst (v := -1) hx hb dX4_stageBehind_20 (by decide) ?_
      exact cz_retp X hM h rfl dX4_stageBehind_21
    · have h := cz_ite_f c10 h
      refine lv_iload_n hx hb dX4_stageBehind_10 rfl (lv_at hl 1 rfl) ?_
      refine lv_bipush (v := nI 53) hx hb dX4_stageBehind_11 (by decide) ?_
      refine lv_icmp_ge (tgt := 20) hx hb dX4_stageBehind_13 (by decide) (fun c11 => ?_) (fun c11 => ?_)
      · have h := cz_ite_t c11 h
        refine lv_iconst (v := -1) hx hb dX4_stageBehind_20 (by decide) ?_
        exact cz_retp X hM h rfl dX4_stageBehind_21
      · have h := cz_ite_f c11 h
        refine lv_iconst (v := nI 1) hx hb dX4_stageBehind_16 (by decide) ?_
        refine lv_goto (tgt := 21) hx hb dX4_stageBehind_17 (by decide) ?_
        exact cz_retp X hM h rfl dX4_stageBehind_21
theorem mv_X4_faultOfPad : cz_MV yX4_faultOfPad cX4_faultOfPad 3 (some .int) RX4 0 := ⟨mi_X4_faultOfPad, ms_X4_faultOfPad, mc_X4_faultOfPad, ini_X4, by decide +kernel⟩
set_option maxHeartbeats 4000000 in
set_option maxRecDepth 100000 in
theorem w_X4_faultOfPad_L4 {p : Program} {l : Launch} {e : Env} {R : Room} {s : State} {m : MethodId} {args : Array Value} {below : List Frame} {meth : Method} {c : Code} {g : cz_G} {b : Nat} (X : cz_X p s m args meth c cX4_faultOfPad 3 RX4 g b (some .int)) (hRf : 2 ≤ R.frames) (hRl : 41 ≤ R.locals) {r0 : Int32} {a0 : Nat} {M : cz_M} (ka0 : cz_K b a0 4)
    (K : Int32 → Int32 → Option (Int32)) (hX : ∀ (x1 : Int32) (x2 : Int32)  (H : Heap) (locs : List Loc) (ls : Array Slot), K x1 x2 = some r0 → cz_WS g b M s H locs → lv_has ls 3 [(0, .ref a0), (1, .int x1), (2, .int x2)] → W p l e R s m args below meth c H locs 0 0 (MQ below (cz_Q g b (some (.int r0)) M) args s 0 0 (cz_Ar b)) (F0 m 36 ls [])) :
    ∀ (n : Nat) (x1 : Int32) (x2 : Int32)  (H : Heap) (locs : List Loc) (ls : Array Slot), cz_it2 (f_X4_faultOfPad_L4 a0 M K) n x1 x2 = some r0 → cz_WS g b M s H locs → lv_has ls 3 [(0, .ref a0), (1, .int x1), (2, .int x2)] → W p l e R s m args below meth c H locs 0 0 (MQ below (cz_Q g b (some (.int r0)) M) args s 0 0 (cz_Ar b)) (F0 m 4 ls []) := by
  obtain ⟨hx, hb, -, ho, ht, -⟩ := id X
  intro n
  induction n with
  | zero => intro x1 x2 H locs ls h; cases (show none = some _ from h)
  | succ n ih =>
    intro x1 x2 H locs ls h hM hl
    have h : f_X4_faultOfPad_L4 a0 M K (cz_it2 (f_X4_faultOfPad_L4 a0 M K) n) x1 x2 = some r0 := h
    rw [f_X4_faultOfPad_L4] at h
    refine lv_iload_n hx hb dX4_faultOfPad_4 rfl (lv_at hl 2 rfl) ?_
    refine lv_aload_n hx hb dX4_faultOfPad_5 rfl (lv_at hl 0 rfl) ?_
    refine cz_getI X hM ff_X4_7 ka0 lk_X4_83 dX4_faultOfPad_6 ?_
    refine lv_icmp_ge (tgt := 36) hx hb dX4_faultOfPad_9 (by decide) (fun c1 => ?_) (fun c1 => ?_)
    · have h := cz_ite_t c1 h
      exact hX _ _ _ _ _ h hM (lv_sub hl [0, 1, 2] rfl)
    · have h := cz_ite_f c1 h
      refine lv_iload_n hx hb dX4_faultOfPad_12 rfl (lv_at hl 1 rfl) ?_
      refine lv_aload_n hx hb dX4_faultOfPad_13 rfl (lv_at hl 0 rfl) ?_
      refine cz_getR X hM ff_X4_5 ka0 lk_X4_30 dX4_faultOfPad_14 (fun hk2 => ?_)
      refine lv_iload_n hx hb dX4_faultOfPad_17 rfl (lv_at hl 2 rfl) ?_
      refine cz_cald X hM h hk2 dX4_faultOfPad_18 (fun h => ?_)
      obtain ⟨v3, hq, h⟩ := cz_bd_t h
      refine cz_runS (rest := []) (As := [.int x1, .int (M.1 (a0 + 118) (Int32.toNatClampNeg x2))]) X hM hl.1 (c_X4_stageBehind (l := l) (g := g) (b := b)  hq) mv_X4_stageBehind ml_X4_213 ⟨Nat.le_trans (Nat.le_of_ble_eq_true rfl) hRf, Nat.le_trans (Nat.le_of_ble_eq_true rfl) hRl⟩ rfl rfl (Nat.le_of_ble_eq_true rfl) dX4_faultOfPad_19 (fun H locs hM => ?_)
      refine lv_istore_n (lv' := [(1, .int v3), (0, .ref a0), (2, .int x2)]) hx hb dX4_faultOfPad_22 rfl hl (by decide) rfl (fun ls hl => ?_)
      refine lv_iload_n hx hb dX4_faultOfPad_23 rfl (lv_at hl 0 rfl) ?_
      refine lv_iconst (v := -1) hx hb dX4_faultOfPad_24 (by decide) ?_
      refine lv_icmp_ne (tgt := 30) hx hb dX4_faultOfPad_25 (by decide) (fun c4 => ?_) (fun c4 => ?_)
      · have h := cz_ite_f c4 h
        refine cz_nmL (v := x2 + nI 1) h (fun v5 e6 h => ?_)
        refine lv_iinc (v := v5) (lv' := [(2, .int v5), (1, .int v3), (0, .ref a0)]) hx hb dX4_faultOfPad_30 hl (k := 2) rfl (by rw [e6]; rfl) (by decide) rfl (fun ls hl => ?_)
        refine lv_goto (tgt := 4) hx hb dX4_faultOfPad_33 (by decide) ?_
        exact ih _ _ _ _ _ h hM (lv_sub hl [2, 1, 0] rfl)
      · have h := cz_ite_t c4 h
        refine lv_iload_n hx hb dX4_faultOfPad_28 rfl (lv_at hl 2 rfl) ?_
        exact cz_retp X hM h rfl dX4_faultOfPad_29
set_option maxHeartbeats 4000000 in
set_option maxRecDepth 100000 in
theorem c_X4_faultOfPad {l : Launch} {g : cz_G} {b : Nat} {M : cz_M} {r0 : Int32} {a : Nat} (ka : cz_K b a 4) (h : f_X4_faultOfPad M a = some r0) : cz_C l yX4_faultOfPad cX4_faultOfPad 3 (some .int) 2 41 g b [.ref a] M (some (.int r0)) M := by
  refine cz_start (by decide) (Nat.le_of_ble_eq_true rfl) (fun p e s m args below meth c X H ls hM hl => ?_)
  have X : cz_X p s m args meth c cX4_faultOfPad 3 RX4 g b (some .int) := X
  obtain ⟨hx, hb, -, ho, ht, -⟩ := id X
  have hRf : 2 ≤ ({ frames := 2, cells := 0, slots := 0, locals := 41 } : Room).frames := Nat.le_refl _
  have hRl : 41 ≤ ({ frames := 2, cells := 0, slots := 0, locals := 41 } : Room).locals := Nat.le_refl _
  have hl : lv_has ls 3 [(0, .ref a)] := hl
  rw [f_X4_faultOfPad] at h
  refine lv_iconst (v := nI 0) hx hb dX4_faultOfPad_0 (by decide) ?_
  refine lv_istore_n (lv' := [(1, .int (nI 0)), (0, .ref a)]) hx hb dX4_faultOfPad_1 rfl hl (by decide) rfl (fun ls hl => ?_)
  refine lv_iconst (v := nI 0) hx hb dX4_faultOfPad_2 (by decide) ?_
  refine lv_istore_n (lv' := [(2, .int (nI 0)), (1, .int (nI 0)), (0, .ref a)]) hx hb dX4_faultOfPad_3 rfl hl (by decide) rfl (fun ls hl => ?_)
  refine w_X4_faultOfPad_L4 X hRf hRl ka _ (fun y7 y8 H locs ls h hM hl => ?_) _ _ _ _ _ _ h hM (lv_sub hl [2, 1, 0] rfl)
  refine lv_iload_n hx hb dX4_faultOfPad_36 rfl (lv_at hl 1 rfl) ?_
  refine lv_iconst (v := nI 2) hx hb dX4_faultOfPad_37 (by decide) ?_
  refine lv_icmp_le (tgt := 46) hx hb dX4_faultOfPad_38 (by decide) (fun c9 => ?_) (fun c9 => ?_)
  · have h := cz_ite_t c9 h
    refine lv_aload_n hx hb dX4_faultOfPad_46 rfl (lv_at hl 0 rfl) ?_
    refine cz_getI X hM ff_X4_7 ka lk_X4_83 dX4_faultOfPad_47 ?_
    exact cz_retp X hM h rfl dX4_faultOfPad_50
  · have h := cz_ite_f c9 h
    refine lv_bipush (v := -6) hx hb dX4_faultOfPad_41 (by decide) ?_
    refine lv_goto (tgt := 50) hx hb dX4_faultOfPad_43 (by decide) ?_
    exact cz_retp X hM h rfl dX4_faultOfPad_50
theorem mv_X4_lettersOfPad : cz_MV yX4_lettersOfPad cX4_lettersOfPad 3 (some .int) RX4 0 := ⟨mi_X4_lettersOfPad, ms_X4_lettersOfPad, mc_X4_lettersOfPad, ini_X4, by decide +kernel⟩
set_option maxHeartbeats 4000000 in
set_option maxRecDepth 100000 in
theorem w_X4_lettersOfPad_L4 {p : Program} {l : Launch} {e : Env} {R : Room} {s : State} {m : MethodId} {args : Array Value} {below : List Frame} {meth : Method} {c : Code} {g : cz_G} {b : Nat} (X : cz_X p s m args meth c cX4_lettersOfPad 3 RX4 g b (some .int)) (hRf : 0 ≤ R.frames) (hRl : 0 ≤ R.locals) {r0 : Int32} {a0 : Nat} {M : cz_M} (ka0 : cz_K b a0 4)
    (K : Int32 → Int32 → Option (Int32)) (hX : ∀ (x1 : Int32) (x2 : Int32)  (H : Heap) (locs : List Loc) (ls : Array Slot), K x1 x2 = some r0 → cz_WS g b M s H locs → lv_has ls 3 [(0, .ref a0), (1, .int x1), (2, .int x2)] → W p l e R s m args below meth c H locs 0 0 (MQ below (cz_Q g b (some (.int r0)) M) args s 0 0 (cz_Ar b)) (F0 m 32 ls [])) :
    ∀ (n : Nat) (x1 : Int32) (x2 : Int32)  (H : Heap) (locs : List Loc) (ls : Array Slot), cz_it2 (f_X4_lettersOfPad_L4 a0 M K) n x1 x2 = some r0 → cz_WS g b M s H locs → lv_has ls 3 [(0, .ref a0), (1, .int x1), (2, .int x2)] → W p l e R s m args below meth c H locs 0 0 (MQ below (cz_Q g b (some (.int r0)) M) args s 0 0 (cz_Ar b)) (F0 m 4 ls []) := by
  obtain ⟨hx, hb, -, ho, ht, -⟩ := id X
  intro n
  induction n with
  | zero => intro x1 x2 H locs ls h; cases (show none = some _ from h)
  | succ n ih =>
    intro x1 x2 H locs ls h hM hl
    have h : f_X4_lettersOfPad_L4 a0 M K (cz_it2 (f_X4_lettersOfPad_L4 a0 M K) n) x1 x2 = some r0 := h
    rw [f_X4_lettersOfPad_L4] at h
    refine lv_iload_n hx hb dX4_lettersOfPad_4 rfl (lv_at hl 2 rfl) ?_
    refine lv_aload_n hx hb dX4_lettersOfPad_5 rfl (lv_at hl 0 rfl) ?_
    refine cz_getI X hM ff_X4_7 ka0 lk_X4_83 dX4_lettersOfPad_6 ?_
    refine lv_icmp_ge (tgt := 32) hx hb dX4_lettersOfPad_9 (by decide) (fun c1 => ?_) (fun c1 => ?_)
    · have h := cz_ite_t c1 h
      exact hX _ _ _ _ _ h hM (lv_sub hl [0, 1, 2] rfl)
    · have h := cz_ite_f c1 h
      refine lv_aload_n hx hb dX4_lettersOfPad_12 rfl (lv_at hl 0 rfl) ?_
      refine cz_getR X hM ff_X4_5 ka0 lk_X4_30 dX4_lettersOfPad_13 (fun hk2 => ?_)
      refine lv_iload_n hx hb dX4_lettersOfPad_16 rfl (lv_at hl 2 rfl) ?_
      refine cz_cald X hM h hk2 dX4_lettersOfPad_17 (fun h => ?_)
      refine lv_bipush (v := nI 44) hx hb dX4_lettersOfPad_18 (by decide) ?_
      refine lv_icmp_ne (tgt := 26) hx hb dX4_lettersOfPad_20 (by decide) (fun c3 => ?_) (fun c3 => ?_)
      · have h := cz_ite_f c3 h
        refine cz_nmL (v := x2 + nI 1) h (fun v4 e5 h => ?_)
        refine lv_iinc (v := v4) (lv' := [(2, .int v4), (0, .ref a0), (1, .int x1)]) hx hb dX4_lettersOfPad_26 hl (k := 2) rfl (by rw [e5]; rfl) (by decide) rfl (fun ls hl => ?_)
        refine lv_goto (tgt := 4) hx hb dX4_lettersOfPad_29 (by decide) ?_
        exact ih _ _ _ _ _ h hM (lv_sub hl [1, 2, 0] rfl)
      · have h := cz_ite_t c3 h
        refine cz_nmL (v := x1 + nI 1) h (fun v6 e7 h => ?_)
        refine lv_iinc (v := v6) (lv' := [(1, .int v6), (0, .ref a0), (2, .int x2)]) hx hb dX4_lettersOfPad_23 hl (k := 1) rfl (by rw [e7]; rfl) (by decide) rfl (fun ls hl => ?_)
        refine cz_nmL (v := x2 + nI 1) h (fun v8 e9 h => ?_)
        refine lv_iinc (v := v8) (lv' := [(2, .int v8), (1, .int v6), (0, .ref a0)]) hx hb dX4_lettersOfPad_26 hl (k := 2) rfl (by rw [e9]; rfl) (by decide) rfl (fun ls hl => ?_)
        refine lv_goto (tgt := 4) hx hb dX4_lettersOfPad_29 (by decide) ?_
        exact ih _ _ _ _ _ h hM (lv_sub hl [2, 1, 0] rfl)
set_option maxHeartbeats 4000000 in
set_option maxRecDepth 100000 in
theorem c_X4_lettersOfPad {l : Launch} {g : cz_G} {b : Nat} {M : cz_M} {r0 : Int32} {a : Nat} (ka : cz_K b a 4) (h : f_X4_lettersOfPad M a = some r0) : cz_C l yX4_lettersOfPad cX4_lettersOfPad 3 (some .int) 0 0 g b [.ref a] M (some (.int r0)) M := by
  refine cz_start (by decide) (Nat.le_of_ble_eq_true rfl) (fun p e s m args below meth c X H ls hM hl => ?_)
  have X : cz_X p s m args meth c cX4_lettersOfPad 3 RX4 g b (some .int) := X
  obtain ⟨hx, hb, -, ho, ht, -⟩ := id X
  have hRf : 0 ≤ ({ frames := 0, cells := 0, slots := 0, locals := 0 } : Room).frames := Nat.le_refl _
  have hRl : 0 ≤ ({ frames := 0, cells := 0, slots := 0, locals := 0 } : Room).locals := Nat.le_refl _
  have hl : lv_has ls 3 [(0, .ref a)] := hl
  rw [f_X4_lettersOfPad] at h
  refine lv_iconst (v := nI 1) hx hb dX4_lettersOfPad_0 (by decide) ?_
  refine lv_istore_n (lv' := [(1, .int (nI 1)), (0, .ref a)]) hx hb dX4_lettersOfPad_1 rfl hl (by decide) rfl (fun ls hl => ?_)
  refine lv_iconst (v := nI 0) hx hb dX4_lettersOfPad_2 (by decide) ?_
  refine lv_istore_n (lv' := [(2, .int (nI 0)), (1, .int (nI 1)), (0, .ref a)]) hx hb dX4_lettersOfPad_3 rfl hl (by decide) rfl (fun ls hl => ?_)
  refine w_X4_lettersOfPad_L4 X hRf hRl ka _ (fun y10 y11 H locs ls h hM hl => ?_) _ _ _ _ _ _ h hM (lv_sub hl [2, 1, 0] rfl)
  refine lv_iload_n hx hb dX4_lettersOfPad_32 rfl (lv_at hl 1 rfl) ?_
  exact cz_retp X hM h rfl dX4_lettersOfPad_33
theorem mv_X4_writeLettersOfPad : cz_MV yX4_writeLettersOfPad cX4_writeLettersOfPad 4 none RX4 0 := ⟨mi_X4_writeLettersOfPad, ms_X4_writeLettersOfPad, mc_X4_writeLettersOfPad, ini_X4, by decide +kernel⟩
set_option maxHeartbeats 4000000 in
set_option maxRecDepth 100000 in
theorem w_X4_writeLettersOfPad_L4 {p : Program} {l : Launch} {e : Env} {R : Room} {s : State} {m : MethodId} {args : Array Value} {below : List Frame} {meth : Method} {c : Code} {g : cz_G} {b : Nat} (X : cz_X p s m args meth c cX4_writeLettersOfPad 4 RX4 g b none) (hRf : 2 ≤ R.frames) (hRl : 44 ≤ R.locals) {M9 : cz_M} {a0 : Nat} (ka0 : cz_K b a0 4) (hbase : b = a0)
    (K : Option Nat → Int32 → cz_M → Option (cz_M)) (hX : ∀ (x1 : Option Nat) (x2 : Int32)  (M : cz_M) (H : Heap) (locs : List Loc) (ls : Array Slot), K x1 x2 M = some M9 → cz_WS g b M s H locs → lv_has ls 4 [(0, .ref a0), (1, va_rf x1), (2, .int x2)] → W p l e R s m args below meth c H locs 0 0 (MQ below (cz_Q g b none M9) args s 0 0 (cz_Ar b)) (F0 m 96 ls [])) :
    ∀ (n : Nat) (x1 : Option Nat) (x2 : Int32)  (M : cz_M) (H : Heap) (locs : List Loc) (ls : Array Slot), cz_it3 (f_X4_writeLettersOfPad_L4 a0 K) n x1 x2 M = some M9 → cz_WS g b M s H locs → lv_has ls 4 [(0, .ref a0), (1, va_rf x1), (2, .int x2)] → W p l e R s m args below meth c H locs 0 0 (MQ below (cz_Q g b none M9) args s 0 0 (cz_Ar b)) (F0 m 4 ls []) := by
  obtain ⟨hx, hb, -, ho, ht, -⟩ := id X
  intro n
  induction n with
  | zero => intro x1 x2 M H locs ls h; cases (show none = some _ from h)
  | succ n ih =>
    intro x1 x2 M H locs ls h hM hl
    have h : f_X4_writeLettersOfPad_L4 a0 K (cz_it3 (f_X4_writeLettersOfPad_L4 a0 K) n) x1 x2 M = some M9 := h
    rw [f_X4_writeLettersOfPad_L4] at h
    refine lv_iload_n hx hb dX4_writeLettersOfPad_4 rfl (lv_at hl 2 rfl) ?_
    refine lv_aload_n hx hb dX4_writeLettersOfPad_5 rfl (lv_at hl 0 rfl) ?_
    refine cz_getI X hM ff_X4_7 ka0 lk_X4_83 dX4_writeLettersOfPad_6 ?_
    refine lv_icmp_ge (tgt := 96) hx hb dX4_writeLettersOfPad_9 (by decide) (fun c1 => ?_) (fun c1 => ?_)
    · have h := cz_ite_t c1 h
      exact hX _ _ _ _ _ _ h hM (lv_sub hl [0, 1, 2] rfl)
    · have h := cz_ite_f c1 h
      refine lv_aload_n hx hb dX4_writeLettersOfPad_12 rfl (lv_at hl 0 rfl) ?_
      refine cz_getR X hM ff_X4_5 ka0 lk_X4_30 dX4_writeLettersOfPad_13 (fun hk2 => ?_)
      refine lv_iload_n hx hb dX4_writeLettersOfPad_16 rfl (lv_at hl 2 rfl) ?_
      refine cz_cald X hM h hk2 dX4_writeLettersOfPad_17 (fun h => ?_)
      refine cz_nmi h (fun v3 h => ?_)
      refine lv_istore_n (lv' := [(3, .int v3), (0, .ref a0), (1, va_rf x1), (2, .int x2)]) hx hb dX4_writeLettersOfPad_18 rfl hl (by decide) (by cases x1 <;> rfl) (fun ls hl => ?_)
      refine lv_iload_n hx hb dX4_writeLettersOfPad_19 rfl (lv_at hl 0 rfl) ?_
      obtain ⟨v4, hq, h⟩ := cz_bd_t h
      refine cz_runS (rest := []) (As := [.int v3]) X hM hl.1 (c_X4_isWord (l := l) (g := g) (b := b)  hq) mv_X4_isWord ml_X4_217 ⟨Nat.le_trans (Nat.le_of_ble_eq_true rfl) hRf, Nat.le_trans (Nat.le_of_ble_eq_true rfl) hRl⟩ rfl rfl (Nat.le_of_ble_eq_true rfl) dX4_writeLettersOfPad_20 (fun H locs hM => ?_)
      refine lv_if_eq (tgt := 38) hx hb dX4_writeLettersOfPad_23 (by decide) (fun c5 => ?_) (fun c5 => ?_)
      · have h := cz_ite_t c5 h
        refine lv_iload_n hx hb dX4_writeLettersOfPad_38 rfl (lv_at hl 0 rfl) ?_
        refine lv_bipush (v := nI 62) hx hb dX4_writeLettersOfPad_39 (by decide) ?_
        refine lv_icmp_ne (tgt := 55) hx hb dX4_writeLettersOfPad_41 (by decide) (fun c6 => ?_) (fun c6 => ?_)
        · have h := cz_ite_f c6 h
          refine lv_iload_n hx hb dX4_writeLettersOfPad_55 rfl (lv_at hl 0 rfl) ?_
          refine lv_bipush (v := nI 60) hx hb dX4_writeLettersOfPad_56 (by decide) ?_
          refine lv_icmp_ne (tgt := 72) hx hb dX4_writeLettersOfPad_58 (by decide) (fun c7 => ?_) (fun c7 => ?_)
          · have h := cz_ite_f c7 h
            refine lv_iload_n hx hb dX4_writeLettersOfPad_72 rfl (lv_at hl 0 rfl) ?_
            refine lv_bipush (v := nI 44) hx hb dX4_writeLettersOfPad_73 (by decide) ?_
            refine lv_icmp_eq (tgt := 90) hx hb dX4_writeLettersOfPad_75 (by decide) (fun c8 => ?_) (fun c8 => ?_)
            · have h := cz_ite_t c8 h
              refine cz_nmL (v := x2 + nI 1) h (fun v9 e10 h => ?_)
              refine lv_iinc (v := v9) (lv' := [(2, .int v9), (3, .int v3), (0, .ref a0), (1, va_rf x1)]) hx hb dX4_writeLettersOfPad_90 hl (k := 3) rfl (by rw [e10]; rfl) (by decide) (by cases x1 <;> rfl) (fun ls hl => ?_)
              refine lv_goto (tgt := 4) hx hb dX4_writeLettersOfPad_93 (by decide) ?_
              exact ih _ _ _ _ _ _ h hM (lv_sub hl [2, 3, 0] rfl)
            · have h := cz_ite_f c8 h
              refine lv_aload_n hx hb dX4_writeLettersOfPad_78 rfl (lv_at hl 1 rfl) ?_
              refine cz_getR X hM ff_X4_0 ka0 lk_X4_12 dX4_writeLettersOfPad_79 (fun hk11 => ?_)
              refine lv_iload_n hx hb dX4_writeLettersOfPad_82 rfl (lv_at hl 0 rfl) ?_
              refine lv_bipush (v := nI 48) hx hb dX4_writeLettersOfPad_83 (by decide) ?_
              refine lv_isub hx hb dX4_writeLettersOfPad_85 ?_
              obtain ⟨q13, M12, hq, h⟩ := cz_b2_t h
              refine cz_runV (rest := []) (As := [.int (v3 - (nI 48))]) (T := TX2) (N0 := 9) X hM hl.1 (c_X2_beginLetter (l := l) (g := g) (b := b) hk11 hq) mv_X2_beginLetter rfl (by decide) hk11 ml_X4_227 ⟨Nat.le_trans (Nat.le_of_ble_eq_true rfl) hRf, Nat.le_trans (Nat.le_of_ble_eq_true rfl) hRl⟩ rfl rfl (Nat.le_of_ble_eq_true rfl) dX4_writeLettersOfPad_86 (fun H locs hM => ?_)
              refine cz_astq (lv' := [(1, va_rf q13), (3, .int v3), (0, .ref a0), (2, .int x2)]) hx hb dX4_writeLettersOfPad_89 rfl hl (by decide) (by cases q13 <;> rfl) (fun ls hl => ?_)
              refine cz_nmL (v := x2 + nI 1) h (fun v14 e15 h => ?_)
              refine lv_iinc (v := v14) (lv' := [(2, .int v14), (1, va_rf q13), (3, .int v3), (0, .ref a0)]) hx hb dX4_writeLettersOfPad_90 hl (k := 3) rfl (by rw [e15]; rfl) (by decide) (by cases q13 <;> rfl) (fun ls hl => ?_)
              refine lv_goto (tgt := 4) hx hb dX4_writeLettersOfPad_93 (by decide) ?_
              exact ih _ _ _ _ _ _ h hM (lv_sub hl [3, 1, 0] rfl)
          · have h := cz_ite_t c7 h
            refine lv_aload_n hx hb dX4_writeLettersOfPad_61 rfl (lv_at hl 1 rfl) ?_
            refine cz_getR X hM ff_X4_0 ka0 lk_X4_12 dX4_writeLettersOfPad_62 (fun hk16 => ?_)
            refine lv_iconst (v := nI 1) hx hb dX4_writeLettersOfPad_65 (by decide) ?_
            obtain ⟨M17, hq, h⟩ := cz_bd_t h
            refine cz_runV (rest := []) (As := [.int (nI 1)]) (T := TX2) (N0 := 9) X hM hl.1 (c_X2_sendNewest (l := l) (g := g) (b := b) hk16 hq) mv_X2_sendNewest rfl (by decide) hk16 ml_X4_224 ⟨Nat.le_trans (Nat.le_of_ble_eq_true rfl) hRf, Nat.le_trans (Nat.le_of_ble_eq_true rfl) hRl⟩ rfl rfl (Nat.le_of_ble_eq_true rfl) dX4_writeLettersOfPad_66 (fun H locs hM => ?_)
            refine lv_goto (tgt := 90) hx hb dX4_writeLettersOfPad_69 (by decide) ?_
            refine cz_nmL (v := x2 + nI 1) h (fun v18 e19 h => ?_)
            refine lv_iinc (v := v18) (lv' := [(2, .int v18), (3, .int v3), (0, .ref a0), (1, va_rf x1)]) hx hb dX4_writeLettersOfPad_90 hl (k := 3) rfl (by rw [e19]; rfl) (by decide) (by cases x1 <;> rfl) (fun ls hl => ?_)
            refine lv_goto (tgt := 4) hx hb dX4_writeLettersOfPad_93 (by decide) ?_
            exact ih _ _ _ _ _ _ h hM (lv_sub hl [2, 3, 0] rfl)
        · have h := cz_ite_t c6 h
          refine lv_aload_n hx hb dX4_writeLettersOfPad_44 rfl (lv_at hl 1 rfl) ?_
          refine cz_getR X hM ff_X4_0 ka0 lk_X4_12 dX4_writeLettersOfPad_45 (fun hk20 => ?_)
          refine lv_iconst (v := nI 0) hx hb dX4_writeLettersOfPad_48 (by decide) ?_
          obtain ⟨M21, hq, h⟩ := cz_bd_t h
          refine cz_runV (rest := []) (As := [.int (nI 0)]) (T := TX2) (N0 := 9) X hM hl.1 (c_X2_sendNewest (l := l) (g := g) (b := b) hk20 hq) mv_X2_sendNewest rfl (by decide) hk20 ml_X4_224 ⟨Nat.le_trans (Nat.le_of_ble_eq_true rfl) hRf, Nat.le_trans (Nat.le_of_ble_eq_true rfl) hRl⟩ rfl rfl (Nat.le_of_ble_eq_true rfl) dX4_writeLettersOfPad_49 (fun H locs hM => ?_)
          refine lv_goto (tgt := 90) hx hb dX4_writeLettersOfPad_52 (by decide) ?_
          refine cz_nmL (v := x2 + nI 1) h (fun v22 e23 h => ?_)
          refine lv_iinc (v := v22) (lv' := [(2, .int v22), (3, .int v3), (0, .ref a0), (1, va_rf x1)]) hx hb dX4_writeLettersOfPad_90 hl (k := 3) rfl (by rw [e23]; rfl) (by decide) (by cases x1 <;> rfl) (fun ls hl => ?_)
          refine lv_goto (tgt := 4) hx hb dX4_writeLettersOfPad_93 (by decide) ?_
          exact ih _ _ _ _ _ _ h hM (lv_sub hl [2, 3, 0] rfl)
      · have h := cz_ite_f c5 h
        rcases x1 with _ | q24
        · have h : _ = some M9 := h
          refine lv_aload_nN hx hb dX4_writeLettersOfPad_26 rfl (lv_at hl 2 rfl) ?_
          refine lv_ifnullN (tgt := 90) hx hb dX4_writeLettersOfPad_27 (by decide) ?_
          refine cz_nmL (v := x2 + nI 1) h (fun v26 e27 h => ?_)
          refine lv_iinc (v := v26) (lv' := [(2, .int v26), (3, .int v3), (0, .ref a0), (1, .null)]) hx hb dX4_writeLettersOfPad_90 hl (k := 3) rfl (by rw [e27]; rfl) (by decide) rfl (fun ls hl => ?_)
          refine lv_goto (tgt := 4) hx hb dX4_writeLettersOfPad_93 (by decide) ?_
          exact ih _ _ _ _ _ _ h hM (lv_sub hl [2, 3, 0] rfl)
        · have h : cz_gd (cz_kb a0 q24 1) _ = some M9 := h
          obtain ⟨hkb, h⟩ := cz_gd_t h
          have hk25 := cz_kb_t hbase hkb
          refine lv_aload_n hx hb dX4_writeLettersOfPad_26 rfl (lv_at hl 2 rfl) ?_
          refine lv_ifnull hx hb dX4_writeLettersOfPad_27 ?_
          refine lv_aload_n hx hb dX4_writeLettersOfPad_30 rfl (lv_at hl 2 rfl) ?_
          refine lv_iload_n hx hb dX4_writeLettersOfPad_31 rfl (lv_at hl 0 rfl) ?_
          obtain ⟨M28, hq, h⟩ := cz_bd_t h
          refine cz_runV (rest := []) (As := [.int v3]) (T := TX1) (N0 := 11) X hM hl.1 (c_X1_addWord (l := l) (g := g) (b := b) hk25 hq) mv_X1_addWord rfl (by decide) hk25 ml_X4_221 ⟨Nat.le_trans (Nat.le_of_ble_eq_true rfl) hRf, Nat.le_trans (Nat.le_of_ble_eq_true rfl) hRl⟩ rfl rfl (Nat.le_of_ble_eq_true rfl) dX4_writeLettersOfPad_32 (fun H locs hM => ?_)
          refine lv_goto (tgt := 90) hx hb dX4_writeLettersOfPad_35 (by decide) ?_
          refine cz_nmL (v := x2 + nI 1) h (fun v29 e30 h => ?_)
          refine lv_iinc (v := v29) (lv' := [(2, .int v29), (3, .int v3), (0, .ref a0), (1, .ref q24)]) hx hb dX4_writeLettersOfPad_90 hl (k := 3) rfl (by rw [e30]; rfl) (by decide) rfl (fun ls hl => ?_)
          refine lv_goto (tgt := 4) hx hb dX4_writeLettersOfPad_93 (by decide) ?_
          exact ih _ _ _ _ _ _ h hM (lv_sub hl [2, 3, 0] rfl)
