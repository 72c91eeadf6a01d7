theorem mv_L_low : cz_MS yL_low cL_low 2 (some .int) 2 := ⟨mt_L_low, mc_L_low, ini_L, by decide +kernel⟩
set_option maxHeartbeats 4000000 in
set_option maxRecDepth 100000 in
theorem c_L_low {l : Launch} {g : cz_G} {b : Nat} {M : cz_M} {r0 : Int32} {x0 : Int32} {x1 : Int32}  (h : f_L_low x0 x1 = some r0) : cz_C l yL_low cL_low 2 (some .int) 0 0 g b [.int x0, .int x1] M (some (.int r0)) M := by
  refine cz_start (by decide) (Nat.le_of_ble_eq_true rfl) (fun p e s m args below meth c X H ls hM hl => ?_)
  have X : cz_X p s m args meth c cL_low 2 RL g b (some .int) := X
  obtain ⟨hx, hb, -, ho, ht, -⟩ := id X
  have hRf : 0 ≤ ({ frames := 0, cells := 0, slots := 0, locals := 0 } : Room).frames := Nat.le_refl _
  have hRl : 0 ≤ ({ frames := 0, cells := 0, slots := 0, locals := 0 } : Room).locals := Nat.le_refl _
  have hl : lv_has ls 2 [(0, .int x0), (1, .int x1)] := hl
  rw [f_L_low] at h
  refine lv_iload_n hx hb dL_low_0 rfl (lv_at hl 0 rfl) ?_
  refine lv_ldc hx hb ho (ht _ lc_L_8) dL_low_1 ?_
  refine lv_iand hx hb dL_low_3 ?_
  refine lv_iload_n hx hb dL_low_4 rfl (lv_at hl 1 rfl) ?_
  by_cases c1 : x1 = nI 0
  · have h := cz_ite_t c1 h
    cases h
  have h := cz_ite_f c1 h
  refine lv_irem hx hb dL_low_5 c1 ?_
  exact cz_retp X hM h rfl dL_low_6
theorem mv_L_passes : cz_MS yL_passes cL_passes 14 (some .int) 2 := ⟨mt_L_passes, mc_L_passes, ini_L, by decide +kernel⟩
set_option maxHeartbeats 4000000 in
set_option maxRecDepth 100000 in
theorem w_L_passes_L65 {p : Program} {l : Launch} {e : Env} {s : State} {m : MethodId} {args : Array Value} {below : List Frame} {meth : Method} {c : Code} {g : cz_G} {b : Nat} (X : cz_X p s m args meth c cL_passes 14 RL g b (some .int)) {cells slots : Nat} (hcc : cells ≤ 1) (hss : slots ≤ 40) {t0 : Nat} {r0 : Int32} {M9 : cz_M} {a0 : Nat} {x1 : Int32} {x2 : Int32} {x3 : Int32} {x4 : Int32} {x5 : Int32} {x6 : Int32} {x7 : Int32} {x8 : Int32} (ka0 : cz_K b a0 4)
    (K : Int32 → (Nat → Int32) → cz_M → Option (Int32 × cz_M)) (hX : ∀ (x11 : Int32) (f0 : Nat → Int32) (M : cz_M) (H : Heap) (locs : List Loc) (ls : Array Slot), K x11 f0 M = some (r0, M9) → cz_WT g b M [cz_sc g t0 40 f0] s H locs → lv_has ls 14 [(0, .ref a0), (1, .int x1), (2, .int x2), (3, .int x3), (4, .int x4), (5, .int x5), (6, .int x6), (7, .int x7), (8, .int x8), (9, .int (nI 1)), (10, .ref t0), (11, .int x11)] → W p l e { frames := 7, cells := 1, slots := 40, locals := 164 } s m args below meth c H locs cells slots (MQ below (cz_QD g b (some (.int r0)) M9) args s 1 40 (fun q => b ≤ q)) (F0 m 154 ls [])) :
    ∀ (n : Nat) (x11 : Int32) (f0 : Nat → Int32) (M : cz_M) (H : Heap) (locs : List Loc) (ls : Array Slot), cz_it3 (f_L_passes_L65 a0 x1 x2 x3 x4 x5 x6 x7 x8 K) n x11 f0 M = some (r0, M9) → cz_WT g b M [cz_sc g t0 40 f0] s H locs → lv_has ls 14 [(0, .ref a0), (1, .int x1), (2, .int x2), (3, .int x3), (4, .int x4), (5, .int x5), (6, .int x6), (7, .int x7), (8, .int x8), (9, .int (nI 1)), (10, .ref t0), (11, .int x11)] → W p l e { frames := 7, cells := 1, slots := 40, locals := 164 } s m args below meth c H locs cells slots (MQ below (cz_QD g b (some (.int r0)) M9) args s 1 40 (fun q => b ≤ q)) (F0 m 65 ls []) := by
  obtain ⟨hx, hb, -, ho, ht, -⟩ := id X
  intro n
  induction n with
  | zero => intro x11 f0 M H locs ls h; cases (show none = some _ from h)
  | succ n ih =>
    intro x11 f0 M H locs ls h hM hl
    have h : f_L_passes_L65 a0 x1 x2 x3 x4 x5 x6 x7 x8 K (cz_it3 (f_L_passes_L65 a0 x1 x2 x3 x4 x5 x6 x7 x8 K) n) x11 f0 M = some (r0, M9) := h
    rw [f_L_passes_L65] at h
    have hRf : 7 ≤ ({ frames := 7, cells := 1, slots := 40, locals := 164 } : Room).frames := Nat.le_refl _
    have hRl : 164 ≤ ({ frames := 7, cells := 1, slots := 40, locals := 164 } : Room).locals := Nat.le_refl _
    refine lv_iload hx hb dL_passes_65 (lv_at hl 11 rfl) ?_
    refine lv_aload_n hx hb dL_passes_67 rfl (lv_at hl 0 rfl) ?_
    refine lv_iconst (v := nI 4) hx hb dL_passes_68 (by decide) ?_
    obtain ⟨v18, M17, hq, h⟩ := cz_b2_t h
    refine cz_TrunV (rest := [.int x11]) (As := [.int (nI 4)]) (T := TX4) (N0 := 8) hcc hss X hM hl.1 (c_X4_count (l := l) (g := g) (b := b) ka0 hq) mv_X4_count rfl (by decide) ka0 ml_L_9 ⟨Nat.le_trans (Nat.le_of_ble_eq_true rfl) hRf, Nat.le_trans (Nat.le_of_ble_eq_true rfl) hRl⟩ rfl rfl (Nat.le_of_ble_eq_true rfl) dL_passes_69 (fun H locs hM => ?_)
    refine lv_icmp_ge (tgt := 154) hx hb dL_passes_72 (by decide) (fun c19 => ?_) (fun c19 => ?_)
    · have h := cz_ite_t c19 h
      exact hX _ _ _ _ _ _ h hM (lv_sub hl [0, 1, 2, 3, 4, 5, 6, 7, 8, 9, 10, 11] rfl)
    · have h := cz_ite_f c19 h
      refine lv_aload hx hb dL_passes_75 (lv_at hl 10 rfl) ?_
      refine lv_iload hx hb dL_passes_77 (lv_at hl 11 rfl) ?_
      refine lv_aload_n hx hb dL_passes_79 rfl (lv_at hl 0 rfl) ?_
      refine lv_iload hx hb dL_passes_80 (lv_at hl 11 rfl) ?_
      obtain ⟨v21, M20, hq, h⟩ := cz_b2_t h
      refine cz_TrunV (rest := [.int x11, .ref t0]) (As := [.int x11]) (T := TX4) (N0 := 8) hcc hss X hM hl.1 (c_X4_untilCome (l := l) (g := g) (b := b) ka0 hq) mv_X4_untilCome rfl (by decide) ka0 ml_L_55 ⟨Nat.le_trans (Nat.le_of_ble_eq_true rfl) hRf, Nat.le_trans (Nat.le_of_ble_eq_true rfl) hRl⟩ rfl rfl (Nat.le_of_ble_eq_true rfl) dL_passes_82 (fun H locs hM => ?_)
      refine cz_Tast (j := 0) (n := 40) X hM h rfl dL_passes_85 (fun f22 H locs h hM => ?_)
      refine lv_iload hx hb dL_passes_86 (lv_at hl 9 rfl) ?_
      refine lv_if_eq (tgt := 145) hx hb dL_passes_88 (by decide) (fun c23 => absurd c23 (by decide)) (fun _ => ?_)
      refine lv_aload_n hx hb dL_passes_91 rfl (lv_at hl 0 rfl) ?_
      refine lv_iload hx hb dL_passes_92 (lv_at hl 11 rfl) ?_
      obtain ⟨v25, M24, hq, h⟩ := cz_b2_t h
      refine cz_TrunV (rest := []) (As := [.int x11]) (T := TX4) (N0 := 8) hcc hss X hM hl.1 (c_X4_why (l := l) (g := g) (b := b) ka0 hq) mv_X4_why rfl (by decide) ka0 ml_L_58 ⟨Nat.le_trans (Nat.le_of_ble_eq_true rfl) hRf, Nat.le_trans (Nat.le_of_ble_eq_true rfl) hRl⟩ rfl rfl (Nat.le_of_ble_eq_true rfl) dL_passes_94 (fun H locs hM => ?_)
      refine lv_if_ne (tgt := 104) hx hb dL_passes_97 (by decide) (fun c26 => ?_) (fun c26 => ?_)
      · have h := cz_ite_f c26 h
        refine lv_iconst (v := nI 0) hx hb dL_passes_104 (by decide) ?_
        refine lv_aload hx hb dL_passes_105 (lv_at hl 10 rfl) ?_
        refine lv_iload hx hb dL_passes_107 (lv_at hl 11 rfl) ?_
        refine cz_Tald (j := 0) (n := 40) X hM h rfl dL_passes_109 (fun h => ?_)
        refine lv_iconst (v := nI 1) hx hb dL_passes_110 (by decide) ?_
        refine lv_icmp_ne (tgt := 118) hx hb dL_passes_111 (by decide) (fun c27 => ?_) (fun c27 => ?_)
        · have h := cz_ite_f c27 h
          refine lv_iconst (v := nI 0) hx hb dL_passes_118 (by decide) ?_
          refine lv_icmp_ne (tgt := 145) hx hb dL_passes_119 (by decide) (fun c28 => absurd (by decide) c28) (fun _ => ?_)
          refine lv_aload_n hx hb dL_passes_122 rfl (lv_at hl 0 rfl) ?_
          refine lv_iload hx hb dL_passes_123 (lv_at hl 11 rfl) ?_
          obtain ⟨v30, M29, hq, h⟩ := cz_b2_t h
          refine cz_TrunV (rest := []) (As := [.int x11]) (T := TX4) (N0 := 8) hcc hss X hM hl.1 (c_X4_why (l := l) (g := g) (b := b) ka0 hq) mv_X4_why rfl (by decide) ka0 ml_L_58 ⟨Nat.le_trans (Nat.le_of_ble_eq_true rfl) hRf, Nat.le_trans (Nat.le_of_ble_eq_true rfl) hRl⟩ rfl rfl (Nat.le_of_ble_eq_true rfl) dL_passes_125 (fun H locs hM => ?_)
          refine lv_iconst (v := nI 5) hx hb dL_passes_128 (by decide) ?_
          refine lv_icmp_ne (tgt := 141) hx hb dL_passes_129 (by decide) (fun c31 => ?_) (fun c31 => ?_)
          · have h := cz_ite_f c31 h
            refine lv_iconst (v := nI 1) hx hb dL_passes_141 (by decide) ?_
            refine lv_goto (tgt := 146) hx hb dL_passes_142 (by decide) ?_
            refine lv_istore (lv' := [(9, .int (nI 1)), (0, .ref a0), (1, .int x1), (2, .int x2), (3, .int x3), (4, .int x4), (5, .int x5), (6, .int x6), (7, .int x7), (8, .int x8), (10, .ref t0), (11, .int x11)]) hx hb dL_passes_146 hl (by decide) rfl (fun ls hl => ?_)
            refine cz_nmL (v := x11 + nI 1) h (fun v32 e33 h => ?_)
            refine lv_iinc (v := v32) (lv' := [(11, .int v32), (9, .int (nI 1)), (0, .ref a0), (1, .int x1), (2, .int x2), (3, .int x3), (4, .int x4), (5, .int x5), (6, .int x6), (7, .int x7), (8, .int x8), (10, .ref t0)]) hx hb dL_passes_148 hl (k := 11) rfl (by rw [e33]; rfl) (by decide) rfl (fun ls hl => ?_)
            refine lv_goto (tgt := 65) hx hb dL_passes_151 (by decide) ?_
            exact ih _ _ _ _ _ _ h hM (lv_sub hl [2, 3, 4, 5, 6, 7, 8, 9, 10, 1, 11, 0] rfl)
          · have h := cz_ite_t c31 h
            refine lv_aload_n hx hb dL_passes_132 rfl (lv_at hl 0 rfl) ?_
            refine lv_iconst (v := nI 1) hx hb dL_passes_133 (by decide) ?_
            refine lv_iconst (v := nI 1) hx hb dL_passes_134 (by decide) ?_
            obtain ⟨v35, M34, hq, h⟩ := cz_b2_t h
            refine cz_TrunV (rest := []) (As := [.int (nI 1), .int (nI 1)]) (T := TX4) (N0 := 8) hcc hss X hM hl.1 (c_X4_ifPassed (l := l) (g := g) (b := b) ka0 hq) mv_X4_ifPassed rfl (by decide) ka0 ml_L_52 ⟨Nat.le_trans (Nat.le_of_ble_eq_true rfl) hRf, Nat.le_trans (Nat.le_of_ble_eq_true rfl) hRl⟩ rfl rfl (Nat.le_of_ble_eq_true rfl) dL_passes_135 (fun H locs hM => ?_)
            refine lv_if_le (tgt := 145) hx hb dL_passes_138 (by decide) (fun c36 => ?_) (fun c36 => ?_)
            · have h := cz_ite_t c36 h
              refine lv_iconst (v := nI 0) hx hb dL_passes_145 (by decide) ?_
              cases h
            · have h := cz_ite_f c36 h
              refine lv_iconst (v := nI 1) hx hb dL_passes_141 (by decide) ?_
              refine lv_goto (tgt := 146) hx hb dL_passes_142 (by decide) ?_
              refine lv_istore (lv' := [(9, .int (nI 1)), (0, .ref a0), (1, .int x1), (2, .int x2), (3, .int x3), (4, .int x4), (5, .int x5), (6, .int x6), (7, .int x7), (8, .int x8), (10, .ref t0), (11, .int x11)]) hx hb dL_passes_146 hl (by decide) rfl (fun ls hl => ?_)
              refine cz_nmL (v := x11 + nI 1) h (fun v37 e38 h => ?_)
              refine lv_iinc (v := v37) (lv' := [(11, .int v37), (9, .int (nI 1)), (0, .ref a0), (1, .int x1), (2, .int x2), (3, .int x3), (4, .int x4), (5, .int x5), (6, .int x6), (7, .int x7), (8, .int x8), (10, .ref t0)]) hx hb dL_passes_148 hl (k := 11) rfl (by rw [e38]; rfl) (by decide) rfl (fun ls hl => ?_)
              refine lv_goto (tgt := 65) hx hb dL_passes_151 (by decide) ?_
              exact ih _ _ _ _ _ _ h hM (lv_sub hl [2, 3, 4, 5, 6, 7, 8, 9, 10, 1, 11, 0] rfl)
        · have h := cz_ite_t c27 h
          refine lv_iconst (v := nI 1) hx hb dL_passes_114 (by decide) ?_
          refine lv_goto (tgt := 119) hx hb dL_passes_115 (by decide) ?_
          refine lv_icmp_ne (tgt := 145) hx hb dL_passes_119 (by decide) (fun _ => ?_) (fun c39 => absurd c39 (by decide))
          refine lv_iconst (v := nI 0) hx hb dL_passes_145 (by decide) ?_
          cases h
      · have h := cz_ite_t c26 h
        refine lv_iconst (v := nI 1) hx hb dL_passes_100 (by decide) ?_
        refine lv_goto (tgt := 105) hx hb dL_passes_101 (by decide) ?_
        refine lv_aload hx hb dL_passes_105 (lv_at hl 10 rfl) ?_
        refine lv_iload hx hb dL_passes_107 (lv_at hl 11 rfl) ?_
        refine cz_Tald (j := 0) (n := 40) X hM h rfl dL_passes_109 (fun h => ?_)
        refine lv_iconst (v := nI 1) hx hb dL_passes_110 (by decide) ?_
        refine lv_icmp_ne (tgt := 118) hx hb dL_passes_111 (by decide) (fun c40 => ?_) (fun c40 => ?_)
        · have h := cz_ite_f c40 h
          refine lv_iconst (v := nI 0) hx hb dL_passes_118 (by decide) ?_
          refine lv_icmp_ne (tgt := 145) hx hb dL_passes_119 (by decide) (fun _ => ?_) (fun c41 => absurd c41 (by decide))
          refine lv_iconst (v := nI 0) hx hb dL_passes_145 (by decide) ?_
          cases h
        · have h := cz_ite_t c40 h
          refine lv_iconst (v := nI 1) hx hb dL_passes_114 (by decide) ?_
          refine lv_goto (tgt := 119) hx hb dL_passes_115 (by decide) ?_
          refine lv_icmp_ne (tgt := 145) hx hb dL_passes_119 (by decide) (fun c42 => absurd (by decide) c42) (fun _ => ?_)
          refine lv_aload_n hx hb dL_passes_122 rfl (lv_at hl 0 rfl) ?_
          refine lv_iload hx hb dL_passes_123 (lv_at hl 11 rfl) ?_
          obtain ⟨v44, M43, hq, h⟩ := cz_b2_t h
          refine cz_TrunV (rest := []) (As := [.int x11]) (T := TX4) (N0 := 8) hcc hss X hM hl.1 (c_X4_why (l := l) (g := g) (b := b) ka0 hq) mv_X4_why rfl (by decide) ka0 ml_L_58 ⟨Nat.le_trans (Nat.le_of_ble_eq_true rfl) hRf, Nat.le_trans (Nat.le_of_ble_eq_true rfl) hRl⟩ rfl rfl (Nat.le_of_ble_eq_true rfl) dL_passes_125 (fun H locs hM => ?_)
          refine lv_iconst (v := nI 5) hx hb dL_passes_128 (by decide) ?_
          refine lv_icmp_ne (tgt := 141) hx hb dL_passes_129 (by decide) (fun c45 => ?_) (fun c45 => ?_)
          · have h := cz_ite_f c45 h
            refine lv_iconst (v := nI 1) hx hb dL_passes_141 (by decide) ?_
            refine lv_goto (tgt := 146) hx hb dL_passes_142 (by decide) ?_
            refine lv_istore (lv' := [(9, .int (nI 1)), (0, .ref a0), (1, .int x1), (2, .int x2), (3, .int x3), (4, .int x4), (5, .int x5), (6, .int x6), (7, .int x7), (8, .int x8), (10, .ref t0), (11, .int x11)]) hx hb dL_passes_146 hl (by decide) rfl (fun ls hl => ?_)
            refine cz_nmL (v := x11 + nI 1) h (fun v46 e47 h => ?_)
            refine lv_iinc (v := v46) (lv' := [(11, .int v46), (9, .int (nI 1)), (0, .ref a0), (1, .int x1), (2, .int x2), (3, .int x3), (4, .int x4), (5, .int x5), (6, .int x6), (7, .int x7), (8, .int x8), (10, .ref t0)]) hx hb dL_passes_148 hl (k := 11) rfl (by rw [e47]; rfl) (by decide) rfl (fun ls hl => ?_)
            refine lv_goto (tgt := 65) hx hb dL_passes_151 (by decide) ?_
            exact ih _ _ _ _ _ _ h hM (lv_sub hl [2, 3, 4, 5, 6, 7, 8, 9, 10, 1, 11, 0] rfl)
          · have h := cz_ite_t c45 h
            refine lv_aload_n hx hb dL_passes_132 rfl (lv_at hl 0 rfl) ?_
            refine lv_iconst (v := nI 1) hx hb dL_passes_133 (by decide) ?_
            refine lv_iconst (v := nI 1) hx hb dL_passes_134 (by decide) ?_
            obtain ⟨v49, M48, hq, h⟩ := cz_b2_t h
            refine cz_TrunV (rest := []) (As := [.int (nI 1), .int (nI 1)]) (T := TX4) (N0 := 8) hcc hss X hM hl.1 (c_X4_ifPassed (l := l) (g := g) (b := b) ka0 hq) mv_X4_ifPassed rfl (by decide) ka0 ml_L_52 ⟨Nat.le_trans (Nat.le_of_ble_eq_true rfl) hRf, Nat.le_trans (Nat.le_of_ble_eq_true rfl) hRl⟩ rfl rfl (Nat.le_of_ble_eq_true rfl) dL_passes_135 (fun H locs hM => ?_)
            refine lv_if_le (tgt := 145) hx hb dL_passes_138 (by decide) (fun c50 => ?_) (fun c50 => ?_)
            · have h := cz_ite_t c50 h
              refine lv_iconst (v := nI 0) hx hb dL_passes_145 (by decide) ?_
              cases h
            · have h := cz_ite_f c50 h
              refine lv_iconst (v := nI 1) hx hb dL_passes_141 (by decide) ?_
              refine lv_goto (tgt := 146) hx hb dL_passes_142 (by decide) ?_
              refine lv_istore (lv' := [(9, .int (nI 1)), (0, .ref a0), (1, .int x1), (2, .int x2), (3, .int x3), (4, .int x4), (5, .int x5), (6, .int x6), (7, .int x7), (8, .int x8), (10, .ref t0), (11, .int x11)]) hx hb dL_passes_146 hl (by decide) rfl (fun ls hl => ?_)
              refine cz_nmL (v := x11 + nI 1) h (fun v51 e52 h => ?_)
              refine lv_iinc (v := v51) (lv' := [(11, .int v51), (9, .int (nI 1)), (0, .ref a0), (1, .int x1), (2, .int x2), (3, .int x3), (4, .int x4), (5, .int x5), (6, .int x6), (7, .int x7), (8, .int x8), (10, .ref t0)]) hx hb dL_passes_148 hl (k := 11) rfl (by rw [e52]; rfl) (by decide) rfl (fun ls hl => ?_)
              refine lv_goto (tgt := 65) hx hb dL_passes_151 (by decide) ?_
              exact ih _ _ _ _ _ _ h hM (lv_sub hl [2, 3, 4, 5, 6, 7, 8, 9, 10, 1, 11, 0] rfl)
set_option maxHeartbeats 4000000 in
set_option maxRecDepth 100000 in
theorem w_L_passes_L234 {p : Program} {l : Launch} {e : Env} {s : State} {m : MethodId} {args : Array Value} {below : List Frame} {meth : Method} {c : Code} {g : cz_G} {b : Nat} (X : cz_X p s m args meth c cL_passes 14 RL g b (some .int)) {cells slots : Nat} (hcc : cells ≤ 1) (hss : slots ≤ 40) {t0 : Nat} {r0 : Int32} {M9 : cz_M} {a0 : Nat} {x1 : Int32} {x11 : Int32} (ka0 : cz_K b a0 4)
    (K : Int32 → (Nat → Int32) → cz_M → Option (Int32 × cz_M)) (hX : ∀ (x12 : Int32) (f0 : Nat → Int32) (M : cz_M) (H : Heap) (locs : List Loc) (ls : Array Slot), K x12 f0 M = some (r0, M9) → cz_WT g b M [cz_sc g t0 40 f0] s H locs → lv_has ls 14 [(0, .ref a0), (1, .int x1), (9, .int (nI 1)), (10, .ref t0), (11, .int x11), (12, .int x12)] → W p l e { frames := 7, cells := 1, slots := 40, locals := 164 } s m args below meth c H locs cells slots (MQ below (cz_QD g b (some (.int r0)) M9) args s 1 40 (fun q => b ≤ q)) (F0 m 338 ls [])) :
    ∀ (n : Nat) (x12 : Int32) (f0 : Nat → Int32) (M : cz_M) (H : Heap) (locs : List Loc) (ls : Array Slot), cz_it3 (f_L_passes_L234 a0 x1 x11 K) n x12 f0 M = some (r0, M9) → cz_WT g b M [cz_sc g t0 40 f0] s H locs → lv_has ls 14 [(0, .ref a0), (1, .int x1), (9, .int (nI 1)), (10, .ref t0), (11, .int x11), (12, .int x12)] → W p l e { frames := 7, cells := 1, slots := 40, locals := 164 } s m args below meth c H locs cells slots (MQ below (cz_QD g b (some (.int r0)) M9) args s 1 40 (fun q => b ≤ q)) (F0 m 234 ls []) := by
  obtain ⟨hx, hb, -, ho, ht, -⟩ := id X
  intro n
  induction n with
  | zero => intro x12 f0 M H locs ls h; cases (show none = some _ from h)
  | succ n ih =>
    intro x12 f0 M H locs ls h hM hl
    have h : f_L_passes_L234 a0 x1 x11 K (cz_it3 (f_L_passes_L234 a0 x1 x11 K) n) x12 f0 M = some (r0, M9) := h
    rw [f_L_passes_L234] at h
    have hRf : 7 ≤ ({ frames := 7, cells := 1, slots := 40, locals := 164 } : Room).frames := Nat.le_refl _
    have hRl : 164 ≤ ({ frames := 7, cells := 1, slots := 40, locals := 164 } : Room).locals := Nat.le_refl _
    refine lv_iload hx hb dL_passes_234 (lv_at hl 5 rfl) ?_
    refine lv_aload_n hx hb dL_passes_236 rfl (lv_at hl 0 rfl) ?_
    refine lv_iconst (v := nI 4) hx hb dL_passes_237 (by decide) ?_
    obtain ⟨v73, M72, hq, h⟩ := cz_b2_t h
    refine cz_TrunV (rest := [.int x12]) (As := [.int (nI 4)]) (T := TX4) (N0 := 8) hcc hss X hM hl.1 (c_X4_count (l := l) (g := g) (b := b) ka0 hq) mv_X4_count rfl (by decide) ka0 ml_L_9 ⟨Nat.le_trans (Nat.le_of_ble_eq_true rfl) hRf, Nat.le_trans (Nat.le_of_ble_eq_true rfl) hRl⟩ rfl rfl (Nat.le_of_ble_eq_true rfl) dL_passes_238 (fun H locs hM => ?_)
    refine lv_icmp_ge (tgt := 338) hx hb dL_passes_241 (by decide) (fun c74 => ?_) (fun c74 => ?_)
    · have h := cz_ite_t c74 h
      exact hX _ _ _ _ _ _ h hM (lv_sub hl [0, 1, 2, 3, 4, 5] rfl)
    · have h := cz_ite_f c74 h
      refine lv_iload hx hb dL_passes_244 (lv_at hl 2 rfl) ?_
      refine lv_if_eq (tgt := 338) hx hb dL_passes_246 (by decide) (fun c75 => absurd c75 (by decide)) (fun _ => ?_)
      refine lv_aload_n hx hb dL_passes_249 rfl (lv_at hl 0 rfl) ?_
      refine lv_iload hx hb dL_passes_250 (lv_at hl 5 rfl) ?_
      obtain ⟨v77, M76, hq, h⟩ := cz_b2_t h
      refine cz_TrunV (rest := []) (As := [.int x12]) (T := TX4) (N0 := 8) hcc hss X hM hl.1 (c_X4_untilCome (l := l) (g := g) (b := b) ka0 hq) mv_X4_untilCome rfl (by decide) ka0 ml_L_55 ⟨Nat.le_trans (Nat.le_of_ble_eq_true rfl) hRf, Nat.le_trans (Nat.le_of_ble_eq_true rfl) hRl⟩ rfl rfl (Nat.le_of_ble_eq_true rfl) dL_passes_252 (fun H locs hM => ?_)
      refine lv_istore (lv' := [(13, .int v77), (0, .ref a0), (1, .int x1), (9, .int (nI 1)), (10, .ref t0), (11, .int x11), (12, .int x12)]) hx hb dL_passes_255 hl (by decide) rfl (fun ls hl => ?_)
      refine lv_aload hx hb dL_passes_257 (lv_at hl 4 rfl) ?_
      refine lv_iload hx hb dL_passes_259 (lv_at hl 6 rfl) ?_
      refine cz_Tald (j := 0) (n := 40) X hM h rfl dL_passes_261 (fun h => ?_)
      refine lv_bipush (v := -6) hx hb dL_passes_262 (by decide) ?_
      refine lv_icmp_ne (tgt := 291) hx hb dL_passes_264 (by decide) (fun c78 => ?_) (fun c78 => ?_)
      · have h := cz_ite_f c78 h
        refine lv_aload hx hb dL_passes_291 (lv_at hl 4 rfl) ?_
        refine lv_iload hx hb dL_passes_293 (lv_at hl 6 rfl) ?_
        refine cz_Tald (j := 0) (n := 40) X hM h rfl dL_passes_295 (fun h => ?_)
        refine lv_iload_n hx hb dL_passes_296 rfl (lv_at hl 2 rfl) ?_
        refine lv_icmp_gt (tgt := 313) hx hb dL_passes_297 (by decide) (fun c79 => ?_) (fun c79 => ?_)
        · have h := cz_ite_t c79 h
          refine lv_iload hx hb dL_passes_313 (lv_at hl 0 rfl) ?_
          refine lv_aload hx hb dL_passes_315 (lv_at hl 4 rfl) ?_
          refine lv_iload hx hb dL_passes_317 (lv_at hl 6 rfl) ?_
          refine cz_Tald (j := 0) (n := 40) X hM h rfl dL_passes_319 (fun h => ?_)
          refine lv_iload_n hx hb dL_passes_320 rfl (lv_at hl 2 rfl) ?_
          refine lv_isub hx hb dL_passes_321 ?_
          refine lv_icmp_ne (tgt := 329) hx hb dL_passes_322 (by decide) (fun c80 => ?_) (fun c80 => ?_)
          · have h := cz_ite_f c80 h
            refine lv_iconst (v := nI 0) hx hb dL_passes_329 (by decide) ?_
            cases h
          · have h := cz_ite_t c80 h
            refine lv_iconst (v := nI 1) hx hb dL_passes_325 (by decide) ?_
            refine lv_goto (tgt := 330) hx hb dL_passes_326 (by decide) ?_
            refine lv_istore (lv' := [(9, .int (nI 1)), (13, .int v77), (0, .ref a0), (1, .int x1), (10, .ref t0), (11, .int x11), (12, .int x12)]) hx hb dL_passes_330 hl (by decide) rfl (fun ls hl => ?_)
            refine cz_nmL (v := x12 + nI 1) h (fun v81 e82 h => ?_)
            refine lv_iinc (v := v81) (lv' := [(12, .int v81), (9, .int (nI 1)), (13, .int v77), (0, .ref a0), (1, .int x1), (10, .ref t0), (11, .int x11)]) hx hb dL_passes_332 hl (k := 6) rfl (by rw [e82]; rfl) (by decide) rfl (fun ls hl => ?_)
            refine lv_goto (tgt := 234) hx hb dL_passes_335 (by decide) ?_
            exact ih _ _ _ _ _ _ h hM (lv_sub hl [3, 4, 1, 5, 6, 0] rfl)
        · have h := cz_ite_f c79 h
          refine lv_iload hx hb dL_passes_300 (lv_at hl 0 rfl) ?_
          refine lv_if_ne (tgt := 309) hx hb dL_passes_302 (by decide) (fun c83 => ?_) (fun c83 => ?_)
          · have h := cz_ite_f c83 h
            refine lv_iconst (v := nI 0) hx hb dL_passes_309 (by decide) ?_
            refine lv_goto (tgt := 330) hx hb dL_passes_310 (by decide) ?_
            cases h
          · have h := cz_ite_t c83 h
            refine lv_iconst (v := nI 1) hx hb dL_passes_305 (by decide) ?_
            refine lv_goto (tgt := 330) hx hb dL_passes_306 (by decide) ?_
            refine lv_istore (lv' := [(9, .int (nI 1)), (13, .int v77), (0, .ref a0), (1, .int x1), (10, .ref t0), (11, .int x11), (12, .int x12)]) hx hb dL_passes_330 hl (by decide) rfl (fun ls hl => ?_)
            refine cz_nmL (v := x12 + nI 1) h (fun v84 e85 h => ?_)
            refine lv_iinc (v := v84) (lv' := [(12, .int v84), (9, .int (nI 1)), (13, .int v77), (0, .ref a0), (1, .int x1), (10, .ref t0), (11, .int x11)]) hx hb dL_passes_332 hl (k := 6) rfl (by rw [e85]; rfl) (by decide) rfl (fun ls hl => ?_)
            refine lv_goto (tgt := 234) hx hb dL_passes_335 (by decide) ?_
            exact ih _ _ _ _ _ _ h hM (lv_sub hl [3, 4, 1, 5, 6, 0] rfl)
      · have h := cz_ite_t c78 h
        refine lv_iload hx hb dL_passes_267 (lv_at hl 0 rfl) ?_
        refine lv_bipush (v := -6) hx hb dL_passes_269 (by decide) ?_
        refine lv_icmp_eq (tgt := 283) hx hb dL_passes_271 (by decide) (fun c86 => ?_) (fun c86 => ?_)
        · have h := cz_ite_t c86 h
          refine lv_iconst (v := nI 1) hx hb dL_passes_283 (by decide) ?_
          refine lv_goto (tgt := 330) hx hb dL_passes_284 (by decide) ?_
          refine lv_istore (lv' := [(9, .int (nI 1)), (13, .int v77), (0, .ref a0), (1, .int x1), (10, .ref t0), (11, .int x11), (12, .int x12)]) hx hb dL_passes_330 hl (by decide) rfl (fun ls hl => ?_)
          refine cz_nmL (v := x12 + nI 1) h (fun v87 e88 h => ?_)
          refine lv_iinc (v := v87) (lv' := [(12, .int v87), (9, .int (nI 1)), (13, .int v77), (0, .ref a0), (1, .int x1), (10, .ref t0), (11, .int x11)]) hx hb dL_passes_332 hl (k := 6) rfl (by rw [e88]; rfl) (by decide) rfl (fun ls hl => ?_)
          refine lv_goto (tgt := 234) hx hb dL_passes_335 (by decide) ?_
          exact ih _ _ _ _ _ _ h hM (lv_sub hl [3, 4, 1, 5, 6, 0] rfl)
        · have h := cz_ite_f c86 h
          refine lv_iload hx hb dL_passes_274 (lv_at hl 0 rfl) ?_
          refine lv_bipush (v := nI 100) hx hb dL_passes_276 (by decide) ?_
          refine lv_iload_n hx hb dL_passes_278 rfl (lv_at hl 2 rfl) ?_
          refine lv_isub hx hb dL_passes_279 ?_
          refine lv_icmp_le (tgt := 287) hx hb dL_passes_280 (by decide) (fun c89 => ?_) (fun c89 => ?_)
          · have h := cz_ite_t c89 h
            refine lv_iconst (v := nI 0) hx hb dL_passes_287 (by decide) ?_
            refine lv_goto (tgt := 330) hx hb dL_passes_288 (by decide) ?_
            cases h
          · have h := cz_ite_f c89 h
            refine lv_iconst (v := nI 1) hx hb dL_passes_283 (by decide) ?_
            refine lv_goto (tgt := 330) hx hb dL_passes_284 (by decide) ?_
            refine lv_istore (lv' := [(9, .int (nI 1)), (13, .int v77), (0, .ref a0), (1, .int x1), (10, .ref t0), (11, .int x11), (12, .int x12)]) hx hb dL_passes_330 hl (by decide) rfl (fun ls hl => ?_)
            refine cz_nmL (v := x12 + nI 1) h (fun v90 e91 h => ?_)
            refine lv_iinc (v := v90) (lv' := [(12, .int v90), (9, .int (nI 1)), (13, .int v77), (0, .ref a0), (1, .int x1), (10, .ref t0), (11, .int x11)]) hx hb dL_passes_332 hl (k := 6) rfl (by rw [e91]; rfl) (by decide) rfl (fun ls hl => ?_)
            refine lv_goto (tgt := 234) hx hb dL_passes_335 (by decide) ?_
            exact ih _ _ _ _ _ _ h hM (lv_sub hl [3, 4, 1, 5, 6, 0] rfl)
set_option maxHeartbeats 4000000 in
set_option maxRecDepth 100000 in
theorem c_L_passes {l : Launch} {g : cz_G} {b : Nat} {M : cz_M} {r0 : Int32} {M9 : cz_M} {a0 : Nat} {x1 : Int32} (ka0 : cz_K b a0 4) (h : f_L_passes M a0 x1 = some (r0, M9)) : cz_D l yL_passes cL_passes 14 (some .int) 7 164 1 40 g b [.ref a0, .int x1] M (some (.int r0)) M9 := by
  refine cz_startD (by decide) (Nat.le_of_ble_eq_true rfl) (fun p e s m args below meth c X H ls hM hl => ?_)
  have X : cz_X p s m args meth c cL_passes 14 RL g b (some .int) := X
  obtain ⟨hx, hb, -, ho, ht, -⟩ := id X
  have hRf : 7 ≤ ({ frames := 7, cells := 1, slots := 40, locals := 164 } : Room).frames := Nat.le_refl _
  have hRl : 164 ≤ ({ frames := 7, cells := 1, slots := 40, locals := 164 } : Room).locals := Nat.le_refl _
  have hl : lv_has ls 14 [(0, .ref a0), (1, .int x1)] := hl
  rw [f_L_passes] at h
  refine lv_aload_n hx hb dL_passes_0 rfl (lv_at hl 0 rfl) ?_
  refine lv_iload_n hx hb dL_passes_1 rfl (lv_at hl 1 rfl) ?_
  refine lv_iconst (v := nI 0) hx hb dL_passes_2 (by decide) ?_
  obtain ⟨v2, M1, hq, h⟩ := cz_b2_t h
  refine cz_TrunV (rest := []) (As := [.int x1, .int (nI 0)]) (T := TX4) (N0 := 8) (Nat.le_of_ble_eq_true rfl) (Nat.le_of_ble_eq_true rfl) X hM hl.1 (c_X4_ifPassed (l := l) (g := g) (b := b) ka0 hq) mv_X4_ifPassed rfl (by decide) ka0 ml_L_52 ⟨Nat.le_trans (Nat.le_of_ble_eq_true rfl) hRf, Nat.le_trans (Nat.le_of_ble_eq_true rfl) hRl⟩ rfl rfl (Nat.le_of_ble_eq_true rfl) dL_passes_3 (fun H locs hM => ?_)
  refine lv_istore_n (lv' := [(2, .int v2), (0, .ref a0), (1, .int x1)]) hx hb dL_passes_6 rfl hl (by decide) rfl (fun ls hl => ?_)
  refine lv_aload_n hx hb dL_passes_7 rfl (lv_at hl 1 rfl) ?_
  refine lv_iload_n hx hb dL_passes_8 rfl (lv_at hl 2 rfl) ?_
  refine lv_iconst (v := nI 1) hx hb dL_passes_9 (by decide) ?_
  obtain ⟨v4, M3, hq, h⟩ := cz_b2_t h
  refine cz_TrunV (rest := []) (As := [.int x1, .int (nI 1)]) (T := TX4) (N0 := 8) (Nat.le_of_ble_eq_true rfl) (Nat.le_of_ble_eq_true rfl) X hM hl.1 (c_X4_ifPassed (l := l) (g := g) (b := b) ka0 hq) mv_X4_ifPassed rfl (by decide) ka0 ml_L_52 ⟨Nat.le_trans (Nat.le_of_ble_eq_true rfl) hRf, Nat.le_trans (Nat.le_of_ble_eq_true rfl) hRl⟩ rfl rfl (Nat.le_of_ble_eq_true rfl) dL_passes_10 (fun H locs hM => ?_)
  refine lv_istore_n (lv' := [(3, .int v4), (2, .int v2), (0, .ref a0), (1, .int x1)]) hx hb dL_passes_13 rfl hl (by decide) rfl (fun ls hl => ?_)
  refine lv_aload_n hx hb dL_passes_14 rfl (lv_at hl 2 rfl) ?_
  refine lv_iload_n hx hb dL_passes_15 rfl (lv_at hl 3 rfl) ?_
  refine lv_iconst (v := nI 2) hx hb dL_passes_16 (by decide) ?_
  obtain ⟨v6, M5, hq, h⟩ := cz_b2_t h
  refine cz_TrunV (rest := []) (As := [.int x1, .int (nI 2)]) (T := TX4) (N0 := 8) (Nat.le_of_ble_eq_true rfl) (Nat.le_of_ble_eq_true rfl) X hM hl.1 (c_X4_ifPassed (l := l) (g := g) (b := b) ka0 hq) mv_X4_ifPassed rfl (by decide) ka0 ml_L_52 ⟨Nat.le_trans (Nat.le_of_ble_eq_true rfl) hRf, Nat.le_trans (Nat.le_of_ble_eq_true rfl) hRl⟩ rfl rfl (Nat.le_of_ble_eq_true rfl) dL_passes_17 (fun H locs hM => ?_)
  refine lv_istore (lv' := [(4, .int v6), (3, .int v4), (2, .int v2), (0, .ref a0), (1, .int x1)]) hx hb dL_passes_20 hl (by decide) rfl (fun ls hl => ?_)
  refine lv_aload_n hx hb dL_passes_22 rfl (lv_at hl 3 rfl) ?_
  refine lv_bipush (v := nI 6) hx hb dL_passes_23 (by decide) ?_
  obtain ⟨v8, M7, hq, h⟩ := cz_b2_t h
  refine cz_TrunV (rest := []) (As := [.int (nI 6)]) (T := TX4) (N0 := 8) (Nat.le_of_ble_eq_true rfl) (Nat.le_of_ble_eq_true rfl) X hM hl.1 (c_X4_count (l := l) (g := g) (b := b) ka0 hq) mv_X4_count rfl (by decide) ka0 ml_L_9 ⟨Nat.le_trans (Nat.le_of_ble_eq_true rfl) hRf, Nat.le_trans (Nat.le_of_ble_eq_true rfl) hRl⟩ rfl rfl (Nat.le_of_ble_eq_true rfl) dL_passes_25 (fun H locs hM => ?_)
  refine lv_istore (lv' := [(5, .int v8), (4, .int v6), (3, .int v4), (2, .int v2), (0, .ref a0), (1, .int x1)]) hx hb dL_passes_28 hl (by decide) rfl (fun ls hl => ?_)
  refine lv_aload_n hx hb dL_passes_30 rfl (lv_at hl 4 rfl) ?_
  refine lv_bipush (v := nI 7) hx hb dL_passes_31 (by decide) ?_
  obtain ⟨v10, M9, hq, h⟩ := cz_b2_t h
  refine cz_TrunV (rest := []) (As := [.int (nI 7)]) (T := TX4) (N0 := 8) (Nat.le_of_ble_eq_true rfl) (Nat.le_of_ble_eq_true rfl) X hM hl.1 (c_X4_count (l := l) (g := g) (b := b) ka0 hq) mv_X4_count rfl (by decide) ka0 ml_L_9 ⟨Nat.le_trans (Nat.le_of_ble_eq_true rfl) hRf, Nat.le_trans (Nat.le_of_ble_eq_true rfl) hRl⟩ rfl rfl (Nat.le_of_ble_eq_true rfl) dL_passes_33 (fun H locs hM => ?_)
  refine lv_istore (lv' := [(6, .int v10), (5, .int v8), (4, .int v6), (3, .int v4), (2, .int v2), (0, .ref a0), (1, .int x1)]) hx hb dL_passes_36 hl (by decide) rfl (fun ls hl => ?_)
  refine lv_aload_n hx hb dL_passes_38 rfl (lv_at hl 5 rfl) ?_
  refine lv_bipush (v := nI 12) hx hb dL_passes_39 (by decide) ?_
  obtain ⟨v12, M11, hq, h⟩ := cz_b2_t h
  refine cz_TrunV (rest := []) (As := [.int (nI 12)]) (T := TX4) (N0 := 8) (Nat.le_of_ble_eq_true rfl) (Nat.le_of_ble_eq_true rfl) X hM hl.1 (c_X4_count (l := l) (g := g) (b := b) ka0 hq) mv_X4_count rfl (by decide) ka0 ml_L_9 ⟨Nat.le_trans (Nat.le_of_ble_eq_true rfl) hRf, Nat.le_trans (Nat.le_of_ble_eq_true rfl) hRl⟩ rfl rfl (Nat.le_of_ble_eq_true rfl) dL_passes_41 (fun H locs hM => ?_)
  refine lv_istore (lv' := [(7, .int v12), (6, .int v10), (5, .int v8), (4, .int v6), (3, .int v4), (2, .int v2), (0, .ref a0), (1, .int x1)]) hx hb dL_passes_44 hl (by decide) rfl (fun ls hl => ?_)
  refine lv_aload_n hx hb dL_passes_46 rfl (lv_at hl 6 rfl) ?_
  refine lv_iconst (v := nI 3) hx hb dL_passes_47 (by decide) ?_
  obtain ⟨v14, M13, hq, h⟩ := cz_b2_t h
  refine cz_TrunV (rest := []) (As := [.int (nI 3)]) (T := TX4) (N0 := 8) (Nat.le_of_ble_eq_true rfl) (Nat.le_of_ble_eq_true rfl) X hM hl.1 (c_X4_count (l := l) (g := g) (b := b) ka0 hq) mv_X4_count rfl (by decide) ka0 ml_L_9 ⟨Nat.le_trans (Nat.le_of_ble_eq_true rfl) hRf, Nat.le_trans (Nat.le_of_ble_eq_true rfl) hRl⟩ rfl rfl (Nat.le_of_ble_eq_true rfl) dL_passes_48 (fun H locs hM => ?_)
  refine lv_istore (lv' := [(8, .int v14), (7, .int v12), (6, .int v10), (5, .int v8), (4, .int v6), (3, .int v4), (2, .int v2), (0, .ref a0), (1, .int x1)]) hx hb dL_passes_51 hl (by decide) rfl (fun ls hl => ?_)
  refine lv_iconst (v := nI 1) hx hb dL_passes_53 (by decide) ?_
  refine lv_istore (lv' := [(9, .int (nI 1)), (8, .int v14), (7, .int v12), (6, .int v10), (5, .int v8), (4, .int v6), (3, .int v4), (2, .int v2), (0, .ref a0), (1, .int x1)]) hx hb dL_passes_54 hl (by decide) rfl (fun ls hl => ?_)
  refine lv_bipush (v := nI 40) hx hb dL_passes_56 (by decide) ?_
  refine cz_Tnew (N' := 40) (atype := .int) X hM h rfl ac_int (by decide) rfl (Nat.le_of_ble_eq_true rfl) (Nat.le_of_ble_eq_true rfl) (Nat.le_of_ble_eq_true rfl) dL_passes_58 (fun f16 t15 H h hM => ?_)
  refine lv_astore (lv' := [(10, .ref t15), (9, .int (nI 1)), (8, .int v14), (7, .int v12), (6, .int v10), (5, .int v8), (4, .int v6), (3, .int v4), (2, .int v2), (0, .ref a0), (1, .int x1)]) hx hb dL_passes_60 hl (by decide) rfl (fun ls hl => ?_)
  refine lv_iconst (v := nI 0) hx hb dL_passes_62 (by decide) ?_
  refine lv_istore (lv' := [(11, .int (nI 0)), (10, .ref t15), (9, .int (nI 1)), (8, .int v14), (7, .int v12), (6, .int v10), (5, .int v8), (4, .int v6), (3, .int v4), (2, .int v2), (0, .ref a0), (1, .int x1)]) hx hb dL_passes_63 hl (by decide) rfl (fun ls hl => ?_)
  refine w_L_passes_L65 X (Nat.le_of_ble_eq_true rfl) (Nat.le_of_ble_eq_true rfl) ka0 _ (fun y53 f54 M55 H locs ls h hM hl => ?_) _ _ _ _ _ _ _ h hM (lv_sub hl [10, 11, 9, 8, 7, 6, 5, 4, 3, 2, 1, 0] rfl)
  refine lv_aload_n hx hb dL_passes_154 rfl (lv_at hl 0 rfl) ?_
  refine lv_iload_n hx hb dL_passes_155 rfl (lv_at hl 1 rfl) ?_
  obtain ⟨v57, M56, hq, h⟩ := cz_b2_t h
  refine cz_TrunV (rest := []) (As := [.int x1]) (T := TX4) (N0 := 8) (Nat.le_of_ble_eq_true rfl) (Nat.le_of_ble_eq_true rfl) X hM hl.1 (c_X4_pass (l := l) (g := g) (b := b) ka0 hq) mv_X4_pass rfl (by decide) ka0 ml_L_61 ⟨Nat.le_trans (Nat.le_of_ble_eq_true rfl) hRf, Nat.le_trans (Nat.le_of_ble_eq_true rfl) hRl⟩ rfl rfl (Nat.le_of_ble_eq_true rfl) dL_passes_156 (fun H locs hM => ?_)
  refine lv_istore (lv' := [(11, .int v57), (0, .ref a0), (1, .int x1), (2, .int v2), (3, .int v4), (4, .int v6), (5, .int v8), (6, .int v10), (7, .int v12), (8, .int v14), (9, .int (nI 1)), (10, .ref t15)]) hx hb dL_passes_159 hl (by decide) rfl (fun ls hl => ?_)
  refine lv_iload hx hb dL_passes_161 (lv_at hl 10 rfl) ?_
  refine lv_if_eq (tgt := 228) hx hb dL_passes_163 (by decide) (fun c58 => absurd c58 (by decide)) (fun _ => ?_)
  refine lv_iload hx hb dL_passes_166 (lv_at hl 0 rfl) ?_
  refine lv_iload_n hx hb dL_passes_168 rfl (lv_at hl 3 rfl) ?_
  refine lv_icmp_ne (tgt := 228) hx hb dL_passes_169 (by decide) (fun c59 => ?_) (fun c59 => ?_)
  · have h := cz_ite_f c59 h
    refine lv_iconst (v := nI 0) hx hb dL_passes_228 (by decide) ?_
    cases h
  · have h := cz_ite_t c59 h
    refine lv_aload_n hx hb dL_passes_172 rfl (lv_at hl 1 rfl) ?_
    refine lv_bipush (v := nI 6) hx hb dL_passes_173 (by decide) ?_
    obtain ⟨v61, M60, hq, h⟩ := cz_b2_t h
    refine cz_TrunV (rest := []) (As := [.int (nI 6)]) (T := TX4) (N0 := 8) (Nat.le_of_ble_eq_true rfl) (Nat.le_of_ble_eq_true rfl) X hM hl.1 (c_X4_count (l := l) (g := g) (b := b) ka0 hq) mv_X4_count rfl (by decide) ka0 ml_L_9 ⟨Nat.le_trans (Nat.le_of_ble_eq_true rfl) hRf, Nat.le_trans (Nat.le_of_ble_eq_true rfl) hRl⟩ rfl rfl (Nat.le_of_ble_eq_true rfl) dL_passes_175 (fun H locs hM => ?_)
    refine lv_iload hx hb dL_passes_178 (lv_at hl 6 rfl) ?_
    refine lv_iload_n hx hb dL_passes_180 rfl (lv_at hl 3 rfl) ?_
    refine lv_iadd hx hb dL_passes_181 ?_
    refine lv_icmp_ne (tgt := 228) hx hb dL_passes_182 (by decide) (fun c62 => ?_) (fun c62 => ?_)
    · have h := cz_ite_f c62 h
      refine lv_iconst (v := nI 0) hx hb dL_passes_228 (by decide) ?_
      cases h
    · have h := cz_ite_t c62 h
      refine lv_aload_n hx hb dL_passes_185 rfl (lv_at hl 1 rfl) ?_
      refine lv_bipush (v := nI 7) hx hb dL_passes_186 (by decide) ?_
      obtain ⟨v64, M63, hq, h⟩ := cz_b2_t h
      refine cz_TrunV (rest := []) (As := [.int (nI 7)]) (T := TX4) (N0 := 8) (Nat.le_of_ble_eq_true rfl) (Nat.le_of_ble_eq_true rfl) X hM hl.1 (c_X4_count (l := l) (g := g) (b := b) ka0 hq) mv_X4_count rfl (by decide) ka0 ml_L_9 ⟨Nat.le_trans (Nat.le_of_ble_eq_true rfl) hRf, Nat.le_trans (Nat.le_of_ble_eq_true rfl) hRl⟩ rfl rfl (Nat.le_of_ble_eq_true rfl) dL_passes_188 (fun H locs hM => ?_)
      refine lv_iload hx hb dL_passes_191 (lv_at hl 7 rfl) ?_
      refine lv_iload_n hx hb dL_passes_193 rfl (lv_at hl 4 rfl) ?_
      refine lv_iadd hx hb dL_passes_194 ?_
      refine lv_icmp_ne (tgt := 228) hx hb dL_passes_195 (by decide) (fun c65 => ?_) (fun c65 => ?_)
      · have h := cz_ite_f c65 h
        refine lv_iconst (v := nI 0) hx hb dL_passes_228 (by decide) ?_
        cases h
      · have h := cz_ite_t c65 h
        refine lv_aload_n hx hb dL_passes_198 rfl (lv_at hl 1 rfl) ?_
        refine lv_bipush (v := nI 12) hx hb dL_passes_199 (by decide) ?_
        obtain ⟨v67, M66, hq, h⟩ := cz_b2_t h
        refine cz_TrunV (rest := []) (As := [.int (nI 12)]) (T := TX4) (N0 := 8) (Nat.le_of_ble_eq_true rfl) (Nat.le_of_ble_eq_true rfl) X hM hl.1 (c_X4_count (l := l) (g := g) (b := b) ka0 hq) mv_X4_count rfl (by decide) ka0 ml_L_9 ⟨Nat.le_trans (Nat.le_of_ble_eq_true rfl) hRf, Nat.le_trans (Nat.le_of_ble_eq_true rfl) hRl⟩ rfl rfl (Nat.le_of_ble_eq_true rfl) dL_passes_201 (fun H locs hM => ?_)
        refine lv_iload hx hb dL_passes_204 (lv_at hl 8 rfl) ?_
        refine lv_iload hx hb dL_passes_206 (lv_at hl 5 rfl) ?_
        refine lv_iadd hx hb dL_passes_208 ?_
        refine lv_icmp_ne (tgt := 228) hx hb dL_passes_209 (by decide) (fun c68 => ?_) (fun c68 => ?_)
        · have h := cz_ite_f c68 h
          refine lv_iconst (v := nI 0) hx hb dL_passes_228 (by decide) ?_
          cases h
        · have h := cz_ite_t c68 h
          refine lv_aload_n hx hb dL_passes_212 rfl (lv_at hl 1 rfl) ?_
          refine lv_iconst (v := nI 3) hx hb dL_passes_213 (by decide) ?_
          obtain ⟨v70, M69, hq, h⟩ := cz_b2_t h
          refine cz_TrunV (rest := []) (As := [.int (nI 3)]) (T := TX4) (N0 := 8) (Nat.le_of_ble_eq_true rfl) (Nat.le_of_ble_eq_true rfl) X hM hl.1 (c_X4_count (l := l) (g := g) (b := b) ka0 hq) mv_X4_count rfl (by decide) ka0 ml_L_9 ⟨Nat.le_trans (Nat.le_of_ble_eq_true rfl) hRf, Nat.le_trans (Nat.le_of_ble_eq_true rfl) hRl⟩ rfl rfl (Nat.le_of_ble_eq_true rfl) dL_passes_214 (fun H locs hM => ?_)
          refine lv_iload hx hb dL_passes_217 (lv_at hl 9 rfl) ?_
          refine lv_iload_n hx hb dL_passes_219 rfl (lv_at hl 2 rfl) ?_
          refine lv_iadd hx hb dL_passes_220 ?_
          refine lv_icmp_ne (tgt := 228) hx hb dL_passes_221 (by decide) (fun c71 => ?_) (fun c71 => ?_)
          · have h := cz_ite_f c71 h
            refine lv_iconst (v := nI 0) hx hb dL_passes_228 (by decide) ?_
            cases h
          · have h := cz_ite_t c71 h
            refine lv_iconst (v := nI 1) hx hb dL_passes_224 (by decide) ?_
            refine lv_goto (tgt := 229) hx hb dL_passes_225 (by decide) ?_
            refine lv_istore (lv' := [(9, .int (nI 1)), (11, .int v57), (0, .ref a0), (1, .int x1), (2, .int v2), (3, .int v4), (4, .int v6), (5, .int v8), (6, .int v10), (7, .int v12), (8, .int v14), (10, .ref t15)]) hx hb dL_passes_229 hl (by decide) rfl (fun ls hl => ?_)
            refine lv_iconst (v := nI 0) hx hb dL_passes_231 (by decide) ?_
            refine lv_istore (lv' := [(12, .int (nI 0)), (9, .int (nI 1)), (11, .int v57), (0, .ref a0), (1, .int x1), (2, .int v2), (3, .int v4), (4, .int v6), (5, .int v8), (6, .int v10), (7, .int v12), (8, .int v14), (10, .ref t15)]) hx hb dL_passes_232 hl (by decide) rfl (fun ls hl => ?_)
            refine w_L_passes_L234 X (Nat.le_of_ble_eq_true rfl) (Nat.le_of_ble_eq_true rfl) ka0 _ (fun y92 f93 M94 H locs ls h hM hl => ?_) _ _ _ _ _ _ _ h hM (lv_sub hl [3, 4, 1, 12, 2, 0] rfl)
            refine lv_iload hx hb dL_passes_338 (lv_at hl 2 rfl) ?_
            refine lv_if_eq (tgt := 348) hx hb dL_passes_340 (by decide) (fun c95 => absurd c95 (by decide)) (fun _ => ?_)
            refine lv_iload hx hb dL_passes_343 (lv_at hl 4 rfl) ?_
            refine lv_goto (tgt := 350) hx hb dL_passes_345 (by decide) ?_
            exact cz_Treti X hM h rfl (Nat.le_of_ble_eq_true rfl) (Nat.le_of_ble_eq_true rfl) dL_passes_350
theorem mv_L_change : cz_MS yL_change cL_change 7 (some .int) 4 := ⟨mt_L_change, mc_L_change, ini_L, by decide +kernel⟩
set_option maxHeartbeats 4000000 in
set_option maxRecDepth 100000 in
theorem w_L_change_L103 {p : Program} {l : Launch} {e : Env} {s : State} {m : MethodId} {args : Array Value} {below : List Frame} {meth : Method} {c : Code} {g : cz_G} {b : Nat} (X : cz_X p s m args meth c cL_change 7 RL g b (some .int)) {cells slots : Nat} (hcc : cells ≤ 1) (hss : slots ≤ 40) {r0 : Int32} {M9 : cz_M} {a0 : Nat} {x2 : Int32} {x3 : Int32} (ka0 : cz_K b a0 4)
    (K : Int32 → cz_M → Option (Int32 × cz_M)) (hX : ∀ (x5 : Int32)  (M : cz_M) (H : Heap) (locs : List Loc) (ls : Array Slot), K x5 M = some (r0, M9) → cz_WT g b M [] s H locs → lv_has ls 7 [(0, .ref a0), (2, .int x2), (3, .int x3), (5, .int x5)] → W p l e { frames := 8, cells := 1, slots := 40, locals := 197 } s m args below meth c H locs cells slots (MQ below (cz_QD g b (some (.int r0)) M9) args s 1 40 (fun q => b ≤ q)) (F0 m 144 ls [])) :
    ∀ (n : Nat) (x5 : Int32)  (M : cz_M) (H : Heap) (locs : List Loc) (ls : Array Slot), cz_it2 (f_L_change_L103 a0 x2 x3 K) n x5 M = some (r0, M9) → cz_WT g b M [] s H locs → lv_has ls 7 [(0, .ref a0), (2, .int x2), (3, .int x3), (5, .int x5)] → W p l e { frames := 8, cells := 1, slots := 40, locals := 197 } s m args below meth c H locs cells slots (MQ below (cz_QD g b (some (.int r0)) M9) args s 1 40 (fun q => b ≤ q)) (F0 m 103 ls []) := by
  obtain ⟨hx, hb, -, ho, ht, -⟩ := id X
  intro n
  induction n with
  | zero => intro x5 M H locs ls h; cases (show none = some _ from h)
  | succ n ih =>
    intro x5 M H locs ls h hM hl
    have h : f_L_change_L103 a0 x2 x3 K (cz_it2 (f_L_change_L103 a0 x2 x3 K) n) x5 M = some (r0, M9) := h
    rw [f_L_change_L103] at h
    have hRf : 8 ≤ ({ frames := 8, cells := 1, slots := 40, locals := 197 } : Room).frames := Nat.le_refl _
    have hRl : 197 ≤ ({ frames := 8, cells := 1, slots := 40, locals := 197 } : Room).locals := Nat.le_refl _
    refine lv_iload hx hb dL_change_103 (lv_at hl 3 rfl) ?_
    refine lv_iconst (v := nI 1) hx hb dL_change_105 (by decide) ?_
    refine lv_iload_n hx hb dL_change_106 rfl (lv_at hl 1 rfl) ?_
    refine lv_iconst (v := nI 4) hx hb dL_change_107 (by decide) ?_
    refine lv_ishr hx hb dL_change_108 ?_
    refine lv_bipush (v := nI 8) hx hb dL_change_109 (by decide) ?_
    obtain ⟨v10, hq, h⟩ := cz_bd_t h
    refine cz_TrunS (rest := [.int (nI 1), .int x5]) (As := [.int (x2 >>> ((nI 4) &&& nI 31)), .int (nI 8)]) hcc hss X hM hl.1 (c_L_low (l := l) (g := g) (b := b)  hq) mv_L_low ml_L_15 ⟨Nat.le_trans (Nat.le_of_ble_eq_true rfl) hRf, Nat.le_trans (Nat.le_of_ble_eq_true rfl) hRl⟩ rfl rfl (Nat.le_of_ble_eq_true rfl) dL_change_111 (fun H locs hM => ?_)
    refine lv_iadd hx hb dL_change_114 ?_
    refine lv_icmp_ge (tgt := 144) hx hb dL_change_115 (by decide) (fun c11 => ?_) (fun c11 => ?_)
    · have h := cz_ite_t c11 h
      exact hX _ _ _ _ _ h hM (lv_sub hl [0, 1, 2, 3] rfl)
    · have h := cz_ite_f c11 h
      refine lv_aload_n hx hb dL_change_118 rfl (lv_at hl 0 rfl) ?_
      refine lv_bipush (v := nI 97) hx hb dL_change_119 (by decide) ?_
      refine lv_iload_n hx hb dL_change_121 rfl (lv_at hl 2 rfl) ?_
      refine lv_iconst (v := nI 3) hx hb dL_change_122 (by decide) ?_
      refine lv_iload hx hb dL_change_123 (lv_at hl 3 rfl) ?_
      refine lv_imul hx hb dL_change_125 ?_
      refine lv_ishr hx hb dL_change_126 ?_
      refine lv_bipush (v := nI 8) hx hb dL_change_127 (by decide) ?_
      obtain ⟨v12, hq, h⟩ := cz_bd_t h
      refine cz_TrunS (rest := [.int (nI 97), .ref a0]) (As := [.int (x3 >>> (((nI 3) * x5) &&& nI 31)), .int (nI 8)]) hcc hss X hM hl.1 (c_L_low (l := l) (g := g) (b := b)  hq) mv_L_low ml_L_15 ⟨Nat.le_trans (Nat.le_of_ble_eq_true rfl) hRf, Nat.le_trans (Nat.le_of_ble_eq_true rfl) hRl⟩ rfl rfl (Nat.le_of_ble_eq_true rfl) dL_change_129 (fun H locs hM => ?_)
      refine lv_iadd hx hb dL_change_132 ?_
      refine lv_i2l (v := Int32.toInt64 ((nI 97) + v12)) hx hb dL_change_133 rfl ?_
      obtain ⟨v14, M13, hq, h⟩ := cz_b2_t h
      refine cz_TrunV (rest := []) (As := [.long (Int32.toInt64 ((nI 97) + v12))]) (T := TX4) (N0 := 8) hcc hss X hM hl.1 (c_X4_put (l := l) (g := g) (b := b) ka0 hq) mv_X4_put rfl (by decide) ka0 ml_L_21 ⟨Nat.le_trans (Nat.le_of_ble_eq_true rfl) hRf, Nat.le_trans (Nat.le_of_ble_eq_true rfl) hRl⟩ rfl rfl (Nat.le_of_ble_eq_true rfl) dL_change_134 (fun H locs hM => ?_)
      refine lv_pop hx hb dL_change_137 rfl ?_
      refine cz_nmL (v := x5 + nI 1) h (fun v15 e16 h => ?_)
      refine lv_iinc (v := v15) (lv' := [(5, .int v15), (0, .ref a0), (2, .int x2), (3, .int x3)]) hx hb dL_change_138 hl (k := 3) rfl (by rw [e16]; rfl) (by decide) rfl (fun ls hl => ?_)
      refine lv_goto (tgt := 103) hx hb dL_change_141 (by decide) ?_
      exact ih _ _ _ _ _ h hM (lv_sub hl [1, 2, 3, 0] rfl)
set_option maxHeartbeats 4000000 in
set_option maxRecDepth 100000 in
theorem c_L_change {l : Launch} {g : cz_G} {b : Nat} {M : cz_M} {r0 : Int32} {M9 : cz_M} {a0 : Nat} {x1 : Int32} {x2 : Int32} {x3 : Int32} (ka0 : cz_K b a0 4) (h : f_L_change M a0 x1 x2 x3 = some (r0, M9)) : cz_D l yL_change cL_change 7 (some .int) 8 197 1 40 g b [.ref a0, .int x1, .int x2, .int x3] M (some (.int r0)) M9 := by
  refine cz_startD (by decide) (Nat.le_of_ble_eq_true rfl) (fun p e s m args below meth c X H ls hM hl => ?_)
  have X : cz_X p s m args meth c cL_change 7 RL g b (some .int) := X
  obtain ⟨hx, hb, -, ho, ht, -⟩ := id X
  have hRf : 8 ≤ ({ frames := 8, cells := 1, slots := 40, locals := 197 } : Room).frames := Nat.le_refl _
  have hRl : 197 ≤ ({ frames := 8, cells := 1, slots := 40, locals := 197 } : Room).locals := Nat.le_refl _
  have hl : lv_has ls 7 [(0, .ref a0), (1, .int x1), (2, .int x2), (3, .int x3)] := hl
  rw [f_L_change] at h
  refine lv_aload_n hx hb dL_change_0 rfl (lv_at hl 0 rfl) ?_
  refine lv_iconst (v := nI 4) hx hb dL_change_1 (by decide) ?_
  obtain ⟨v2, M1, hq, h⟩ := cz_b2_t h
  refine cz_TrunV (rest := []) (As := [.int (nI 4)]) (T := TX4) (N0 := 8) (Nat.le_of_ble_eq_true rfl) (Nat.le_of_ble_eq_true rfl) X hM hl.1 (c_X4_count (l := l) (g := g) (b := b) ka0 hq) mv_X4_count rfl (by decide) ka0 ml_L_9 ⟨Nat.le_trans (Nat.le_of_ble_eq_true rfl) hRf, Nat.le_trans (Nat.le_of_ble_eq_true rfl) hRl⟩ rfl rfl (Nat.le_of_ble_eq_true rfl) dL_change_2 (fun H locs hM => ?_)
  refine lv_istore (lv' := [(4, .int v2), (0, .ref a0), (1, .int x1), (2, .int x2), (3, .int x3)]) hx hb dL_change_5 hl (by decide) rfl (fun ls hl => ?_)
  refine lv_iload_n hx hb dL_change_7 rfl (lv_at hl 2 rfl) ?_
  by_cases c3 : x1 = (nI 0)
  · have h := cz_ite_t c3 h
    refine lv_tableIn (off := 56) (tgt := 64) hx hb dL_change_8 (by rw [c3]; decide) (by rw [c3]; decide) (by rw [c3]; rfl) (by decide) ?_
    refine lv_aload_n hx hb dL_change_64 rfl (lv_at hl 1 rfl) ?_
    refine lv_bipush (v := nI 48) hx hb dL_change_65 (by decide) ?_
    refine lv_iload_n hx hb dL_change_67 rfl (lv_at hl 3 rfl) ?_
    refine lv_iconst (v := nI 5) hx hb dL_change_68 (by decide) ?_
    obtain ⟨v4, hq, h⟩ := cz_bd_t h
    refine cz_TrunS (rest := [.int (nI 48), .ref a0]) (As := [.int x2, .int (nI 5)]) (Nat.le_of_ble_eq_true rfl) (Nat.le_of_ble_eq_true rfl) X hM hl.1 (c_L_low (l := l) (g := g) (b := b)  hq) mv_L_low ml_L_15 ⟨Nat.le_trans (Nat.le_of_ble_eq_true rfl) hRf, Nat.le_trans (Nat.le_of_ble_eq_true rfl) hRl⟩ rfl rfl (Nat.le_of_ble_eq_true rfl) dL_change_69 (fun H locs hM => ?_)
    refine lv_iadd hx hb dL_change_72 ?_
    refine lv_i2l (v := Int32.toInt64 ((nI 48) + v4)) hx hb dL_change_73 rfl ?_
    obtain ⟨v6, M5, hq, h⟩ := cz_b2_t h
    refine cz_TrunV (rest := []) (As := [.long (Int32.toInt64 ((nI 48) + v4))]) (T := TX4) (N0 := 8) (Nat.le_of_ble_eq_true rfl) (Nat.le_of_ble_eq_true rfl) X hM hl.1 (c_X4_put (l := l) (g := g) (b := b) ka0 hq) mv_X4_put rfl (by decide) ka0 ml_L_21 ⟨Nat.le_trans (Nat.le_of_ble_eq_true rfl) hRf, Nat.le_trans (Nat.le_of_ble_eq_true rfl) hRl⟩ rfl rfl (Nat.le_of_ble_eq_true rfl) dL_change_74 (fun H locs hM => ?_)
    refine lv_pop hx hb dL_change_77 rfl ?_
    refine lv_aload_n hx hb dL_change_78 rfl (lv_at hl 1 rfl) ?_
    refine lv_iload_n hx hb dL_change_79 rfl (lv_at hl 3 rfl) ?_
    refine lv_iconst (v := nI 3) hx hb dL_change_80 (by decide) ?_
    refine lv_ishr hx hb dL_change_81 ?_
    refine lv_iconst (v := nI 1) hx hb dL_change_82 (by decide) ?_
    refine lv_iand hx hb dL_change_83 ?_
    refine lv_if_ne (tgt := 93) hx hb dL_change_84 (by decide) (fun c7 => ?_) (fun c7 => ?_)
    · have h := cz_ite_f c7 h
      refine lv_ldc2 hx hb ho (ht _ lc_L_27) dL_change_93 ?_
      obtain ⟨v9, M8, hq, h⟩ := cz_b2_t h
      refine cz_TrunV (rest := []) (As := [.long (60 : Int64)]) (T := TX4) (N0 := 8) (Nat.le_of_ble_eq_true rfl) (Nat.le_of_ble_eq_true rfl) X hM hl.1 (c_X4_put (l := l) (g := g) (b := b) ka0 hq) mv_X4_put rfl (by decide) ka0 ml_L_21 ⟨Nat.le_trans (Nat.le_of_ble_eq_true rfl) hRf, Nat.le_trans (Nat.le_of_ble_eq_true rfl) hRl⟩ rfl rfl (Nat.le_of_ble_eq_true rfl) dL_change_96 (fun H locs hM => ?_)
      refine lv_pop hx hb dL_change_99 rfl ?_
      refine lv_iconst (v := nI 0) hx hb dL_change_100 (by decide) ?_
      refine lv_istore (lv' := [(5, .int (nI 0)), (4, .int v2), (0, .ref a0), (1, .int x1), (2, .int x2), (3, .int x3)]) hx hb dL_change_101 hl (by decide) rfl (fun ls hl => ?_)
      refine w_L_change_L103 X (Nat.le_of_ble_eq_true rfl) (Nat.le_of_ble_eq_true rfl) ka0 _ (fun y17 M18 H locs ls h hM hl => ?_) _ _ _ _ _ _ h hM (lv_sub hl [2, 4, 5, 0] rfl)
      refine lv_aload_n hx hb dL_change_144 rfl (lv_at hl 0 rfl) ?_
      obtain ⟨v20, M19, hq, h⟩ := cz_b2_t h
      refine cz_TrunV (rest := []) (As := []) (T := TX4) (N0 := 8) (Nat.le_of_ble_eq_true rfl) (Nat.le_of_ble_eq_true rfl) X hM hl.1 (c_X4_read (l := l) (g := g) (b := b) ka0 hq) mv_X4_read rfl (by decide) ka0 ml_L_29 ⟨Nat.le_trans (Nat.le_of_ble_eq_true rfl) hRf, Nat.le_trans (Nat.le_of_ble_eq_true rfl) hRl⟩ rfl rfl (Nat.le_of_ble_eq_true rfl) dL_change_145 (fun H locs hM => ?_)
      refine lv_istore (lv' := [(5, .int v20), (0, .ref a0), (2, .int x2), (3, .int x3)]) hx hb dL_change_148 hl (by decide) rfl (fun ls hl => ?_)
      refine lv_aload_n hx hb dL_change_150 rfl (lv_at hl 1 rfl) ?_
      obtain ⟨v22, M21, hq, h⟩ := cz_b2_t h
      refine cz_TrunV (rest := []) (As := []) (T := TX4) (N0 := 8) (Nat.le_of_ble_eq_true rfl) (Nat.le_of_ble_eq_true rfl) X hM hl.1 (c_X4_wipe (l := l) (g := g) (b := b) ka0 hq) mv_X4_wipe rfl (by decide) ka0 ml_L_33 ⟨Nat.le_trans (Nat.le_of_ble_eq_true rfl) hRf, Nat.le_trans (Nat.le_of_ble_eq_true rfl) hRl⟩ rfl rfl (Nat.le_of_ble_eq_true rfl) dL_change_151 (fun H locs hM => ?_)
      refine lv_istore (lv' := [(6, .int v22), (5, .int v20), (0, .ref a0), (2, .int x2), (3, .int x3)]) hx hb dL_change_154 hl (by decide) rfl (fun ls hl => ?_)
      refine lv_iload hx hb dL_change_156 (lv_at hl 1 rfl) ?_
      exact cz_Treti X hM h rfl (Nat.le_of_ble_eq_true rfl) (Nat.le_of_ble_eq_true rfl) dL_change_158
    · have h := cz_ite_t c7 h
      refine lv_ldc2 hx hb ho (ht _ lc_L_25) dL_change_87 ?_
      refine lv_goto (tgt := 96) hx hb dL_change_90 (by decide) ?_
      obtain ⟨v24, M23, hq, h⟩ := cz_b2_t h
      refine cz_TrunV (rest := []) (As := [.long (62 : Int64)]) (T := TX4) (N0 := 8) (Nat.le_of_ble_eq_true rfl) (Nat.le_of_ble_eq_true rfl) X hM hl.1 (c_X4_put (l := l) (g := g) (b := b) ka0 hq) mv_X4_put rfl (by decide) ka0 ml_L_21 ⟨Nat.le_trans (Nat.le_of_ble_eq_true rfl) hRf, Nat.le_trans (Nat.le_of_ble_eq_true rfl) hRl⟩ rfl rfl (Nat.le_of_ble_eq_true rfl) dL_change_96 (fun H locs hM => ?_)
      refine lv_pop hx hb dL_change_99 rfl ?_
      refine lv_iconst (v := nI 0) hx hb dL_change_100 (by decide) ?_
      refine lv_istore (lv' := [(5, .int (nI 0)), (4, .int v2), (0, .ref a0), (1, .int x1), (2, .int x2), (3, .int x3)]) hx hb dL_change_101 hl (by decide) rfl (fun ls hl => ?_)
      refine w_L_change_L103 X (Nat.le_of_ble_eq_true rfl) (Nat.le_of_ble_eq_true rfl) ka0 _ (fun y25 M26 H locs ls h hM hl => ?_) _ _ _ _ _ _ h hM (lv_sub hl [2, 4, 5, 0] rfl)
      refine lv_aload_n hx hb dL_change_144 rfl (lv_at hl 0 rfl) ?_
      obtain ⟨v28, M27, hq, h⟩ := cz_b2_t h
      refine cz_TrunV (rest := []) (As := []) (T := TX4) (N0 := 8) (Nat.le_of_ble_eq_true rfl) (Nat.le_of_ble_eq_true rfl) X hM hl.1 (c_X4_read (l := l) (g := g) (b := b) ka0 hq) mv_X4_read rfl (by decide) ka0 ml_L_29 ⟨Nat.le_trans (Nat.le_of_ble_eq_true rfl) hRf, Nat.le_trans (Nat.le_of_ble_eq_true rfl) hRl⟩ rfl rfl (Nat.le_of_ble_eq_true rfl) dL_change_145 (fun H locs hM => ?_)
      refine lv_istore (lv' := [(5, .int v28), (0, .ref a0), (2, .int x2), (3, .int x3)]) hx hb dL_change_148 hl (by decide) rfl (fun ls hl => ?_)
      refine lv_aload_n hx hb dL_change_150 rfl (lv_at hl 1 rfl) ?_
      obtain ⟨v30, M29, hq, h⟩ := cz_b2_t h
      refine cz_TrunV (rest := []) (As := []) (T := TX4) (N0 := 8) (Nat.le_of_ble_eq_true rfl) (Nat.le_of_ble_eq_true rfl) X hM hl.1 (c_X4_wipe (l := l) (g := g) (b := b) ka0 hq) mv_X4_wipe rfl (by decide) ka0 ml_L_33 ⟨Nat.le_trans (Nat.le_of_ble_eq_true rfl) hRf, Nat.le_trans (Nat.le_of_ble_eq_true rfl) hRl⟩ rfl rfl (Nat.le_of_ble_eq_true rfl) dL_change_151 (fun H locs hM => ?_)
      refine lv_istore (lv' := [(6, .int v30), (5, .int v28), (0, .ref a0), (2, .int x2), (3, .int x3)]) hx hb dL_change_154 hl (by decide) rfl (fun ls hl => ?_)
      refine lv_iload hx hb dL_change_156 (lv_at hl 1 rfl) ?_
      exact cz_Treti X hM h rfl (Nat.le_of_ble_eq_true rfl) (Nat.le_of_ble_eq_true rfl) dL_change_158
  have h := cz_ite_f c3 h
  by_cases c31 : x1 = (nI 1)
  · have h := cz_ite_t c31 h
    refine lv_tableIn (off := 56) (tgt := 64) hx hb dL_change_8 (by rw [c31]; decide) (by rw [c31]; decide) (by rw [c31]; rfl) (by decide) ?_
    refine lv_aload_n hx hb dL_change_64 rfl (lv_at hl 1 rfl) ?_
    refine lv_bipush (v := nI 48) hx hb dL_change_65 (by decide) ?_
    refine lv_iload_n hx hb dL_change_67 rfl (lv_at hl 3 rfl) ?_
    refine lv_iconst (v := nI 5) hx hb dL_change_68 (by decide) ?_
    obtain ⟨v32, hq, h⟩ := cz_bd_t h
    refine cz_TrunS (rest := [.int (nI 48), .ref a0]) (As := [.int x2, .int (nI 5)]) (Nat.le_of_ble_eq_true rfl) (Nat.le_of_ble_eq_true rfl) X hM hl.1 (c_L_low (l := l) (g := g) (b := b)  hq) mv_L_low ml_L_15 ⟨Nat.le_trans (Nat.le_of_ble_eq_true rfl) hRf, Nat.le_trans (Nat.le_of_ble_eq_true rfl) hRl⟩ rfl rfl (Nat.le_of_ble_eq_true rfl) dL_change_69 (fun H locs hM => ?_)
    refine lv_iadd hx hb dL_change_72 ?_
    refine lv_i2l (v := Int32.toInt64 ((nI 48) + v32)) hx hb dL_change_73 rfl ?_
    obtain ⟨v34, M33, hq, h⟩ := cz_b2_t h
    refine cz_TrunV (rest := []) (As := [.long (Int32.toInt64 ((nI 48) + v32))]) (T := TX4) (N0 := 8) (Nat.le_of_ble_eq_true rfl) (Nat.le_of_ble_eq_true rfl) X hM hl.1 (c_X4_put (l := l) (g := g) (b := b) ka0 hq) mv_X4_put rfl (by decide) ka0 ml_L_21 ⟨Nat.le_trans (Nat.le_of_ble_eq_true rfl) hRf, Nat.le_trans (Nat.le_of_ble_eq_true rfl) hRl⟩ rfl rfl (Nat.le_of_ble_eq_true rfl) dL_change_74 (fun H locs hM => ?_)
    refine lv_pop hx hb dL_change_77 rfl ?_
    refine lv_aload_n hx hb dL_change_78 rfl (lv_at hl 1 rfl) ?_
    refine lv_iload_n hx hb dL_change_79 rfl (lv_at hl 3 rfl) ?_
    refine lv_iconst (v := nI 3) hx hb dL_change_80 (by decide) ?_
    refine lv_ishr hx hb dL_change_81 ?_
    refine lv_iconst (v := nI 1) hx hb dL_change_82 (by decide) ?_
    refine lv_iand hx hb dL_change_83 ?_
    refine lv_if_ne (tgt := 93) hx hb dL_change_84 (by decide) (fun c35 => ?_) (fun c35 => ?_)
    · have h := cz_ite_f c35 h
      refine lv_ldc2 hx hb ho (ht _ lc_L_27) dL_change_93 ?_
      obtain ⟨v37, M36, hq, h⟩ := cz_b2_t h
      refine cz_TrunV (rest := []) (As := [.long (60 : Int64)]) (T := TX4) (N0 := 8) (Nat.le_of_ble_eq_true rfl) (Nat.le_of_ble_eq_true rfl) X hM hl.1 (c_X4_put (l := l) (g := g) (b := b) ka0 hq) mv_X4_put rfl (by decide) ka0 ml_L_21 ⟨Nat.le_trans (Nat.le_of_ble_eq_true rfl) hRf, Nat.le_trans (Nat.le_of_ble_eq_true rfl) hRl⟩ rfl rfl (Nat.le_of_ble_eq_true rfl) dL_change_96 (fun H locs hM => ?_)
      refine lv_pop hx hb dL_change_99 rfl ?_
      refine lv_iconst (v := nI 0) hx hb dL_change_100 (by decide) ?_
      refine lv_istore (lv' := [(5, .int (nI 0)), (4, .int v2), (0, .ref a0), (1, .int x1), (2, .int x2), (3, .int x3)]) hx hb dL_change_101 hl (by decide) rfl (fun ls hl => ?_)
      refine w_L_change_L103 X (Nat.le_of_ble_eq_true rfl) (Nat.le_of_ble_eq_true rfl) ka0 _ (fun y38 M39 H locs ls h hM hl => ?_) _ _ _ _ _ _ h hM (lv_sub hl [2, 4, 5, 0] rfl)
      refine lv_aload_n hx hb dL_change_144 rfl (lv_at hl 0 rfl) ?_
      obtain ⟨v41, M40, hq, h⟩ := cz_b2_t h
      refine cz_TrunV (rest := []) (As := []) (T := TX4) (N0 := 8) (Nat.le_of_ble_eq_true rfl) (Nat.le_of_ble_eq_true rfl) X hM hl.1 (c_X4_read (l := l) (g := g) (b := b) ka0 hq) mv_X4_read rfl (by decide) ka0 ml_L_29 ⟨Nat.le_trans (Nat.le_of_ble_eq_true rfl) hRf, Nat.le_trans (Nat.le_of_ble_eq_true rfl) hRl⟩ rfl rfl (Nat.le_of_ble_eq_true rfl) dL_change_145 (fun H locs hM => ?_)
      refine lv_istore (lv' := [(5, .int v41), (0, .ref a0), (2, .int x2), (3, .int x3)]) hx hb dL_change_148 hl (by decide) rfl (fun ls hl => ?_)
      refine lv_aload_n hx hb dL_change_150 rfl (lv_at hl 1 rfl) ?_
      obtain ⟨v43, M42, hq, h⟩ := cz_b2_t h
      refine cz_TrunV (rest := []) (As := []) (T := TX4) (N0 := 8) (Nat.le_of_ble_eq_true rfl) (Nat.le_of_ble_eq_true rfl) X hM hl.1 (c_X4_wipe (l := l) (g := g) (b := b) ka0 hq) mv_X4_wipe rfl (by decide) ka0 ml_L_33 ⟨Nat.le_trans (Nat.le_of_ble_eq_true rfl) hRf, Nat.le_trans (Nat.le_of_ble_eq_true rfl) hRl⟩ rfl rfl (Nat.le_of_ble_eq_true rfl) dL_change_151 (fun H locs hM => ?_)
      refine lv_istore (lv' := [(6, .int v43), (5, .int v41), (0, .ref a0), (2, .int x2), (3, .int x3)]) hx hb dL_change_154 hl (by decide) rfl (fun ls hl => ?_)
      refine lv_iload hx hb dL_change_156 (lv_at hl 1 rfl) ?_
      exact cz_Treti X hM h rfl (Nat.le_of_ble_eq_true rfl) (Nat.le_of_ble_eq_true rfl) dL_change_158
    · have h := cz_ite_t c35 h
      refine lv_ldc2 hx hb ho (ht _ lc_L_25) dL_change_87 ?_
      refine lv_goto (tgt := 96) hx hb dL_change_90 (by decide) ?_
      obtain ⟨v45, M44, hq, h⟩ := cz_b2_t h
      refine cz_TrunV (rest := []) (As := [.long (62 : Int64)]) (T := TX4) (N0 := 8) (Nat.le_of_ble_eq_true rfl) (Nat.le_of_ble_eq_true rfl) X hM hl.1 (c_X4_put (l := l) (g := g) (b := b) ka0 hq) mv_X4_put rfl (by decide) ka0 ml_L_21 ⟨Nat.le_trans (Nat.le_of_ble_eq_true rfl) hRf, Nat.le_trans (Nat.le_of_ble_eq_true rfl) hRl⟩ rfl rfl (Nat.le_of_ble_eq_true rfl) dL_change_96 (fun H locs hM => ?_)
      refine lv_pop hx hb dL_change_99 rfl ?_
      refine lv_iconst (v := nI 0) hx hb dL_change_100 (by decide) ?_
      refine lv_istore (lv' := [(5, .int (nI 0)), (4, .int v2), (0, .ref a0), (1, .int x1), (2, .int x2), (3, .int x3)]) hx hb dL_change_101 hl (by decide) rfl (fun ls hl => ?_)
      refine w_L_change_L103 X (Nat.le_of_ble_eq_true rfl) (Nat.le_of_ble_eq_true rfl) ka0 _ (fun y46 M47 H locs ls h hM hl => ?_) _ _ _ _ _ _ h hM (lv_sub hl [2, 4, 5, 0] rfl)
      refine lv_aload_n hx hb dL_change_144 rfl (lv_at hl 0 rfl) ?_
      obtain ⟨v49, M48, hq, h⟩ := cz_b2_t h
      refine cz_TrunV (rest := []) (As := []) (T := TX4) (N0 := 8) (Nat.le_of_ble_eq_true rfl) (Nat.le_of_ble_eq_true rfl) X hM hl.1 (c_X4_read (l := l) (g := g) (b := b) ka0 hq) mv_X4_read rfl (by decide) ka0 ml_L_29 ⟨Nat.le_trans (Nat.le_of_ble_eq_true rfl) hRf, Nat.le_trans (Nat.le_of_ble_eq_true rfl) hRl⟩ rfl rfl (Nat.le_of_ble_eq_true rfl) dL_change_145 (fun H locs hM => ?_)
      refine lv_istore (lv' := [(5, .int v49), (0, .ref a0), (2, .int x2), (3, .int x3)]) hx hb dL_change_148 hl (by decide) rfl (fun ls hl => ?_)
      refine lv_aload_n hx hb dL_change_150 rfl (lv_at hl 1 rfl) ?_
      obtain ⟨v51, M50, hq, h⟩ := cz_b2_t h
      refine cz_TrunV (rest := []) (As := []) (T := TX4) (N0 := 8) (Nat.le_of_ble_eq_true rfl) (Nat.le_of_ble_eq_true rfl) X hM hl.1 (c_X4_wipe (l := l) (g := g) (b := b) ka0 hq) mv_X4_wipe rfl (by decide) ka0 ml_L_33 ⟨Nat.le_trans (Nat.le_of_ble_eq_true rfl) hRf, Nat.le_trans (Nat.le_of_ble_eq_true rfl) hRl⟩ rfl rfl (Nat.le_of_ble_eq_true rfl) dL_change_151 (fun H locs hM => ?_)
      refine lv_istore (lv' := [(6, .int v51), (5, .int v49), (0, .ref a0), (2, .int x2), (3, .int x3)]) hx hb dL_change_154 hl (by decide) rfl (fun ls hl => ?_)
      refine lv_iload hx hb dL_change_156 (lv_at hl 1 rfl) ?_
      exact cz_Treti X hM h rfl (Nat.le_of_ble_eq_true rfl) (Nat.le_of_ble_eq_true rfl) dL_change_158
  have h := cz_ite_f c31 h
  by_cases c52 : x1 = (nI 2)
  · have h := cz_ite_t c52 h
    refine lv_tableIn (off := 56) (tgt := 64) hx hb dL_change_8 (by rw [c52]; decide) (by rw [c52]; decide) (by rw [c52]; rfl) (by decide) ?_
    refine lv_aload_n hx hb dL_change_64 rfl (lv_at hl 1 rfl) ?_
    refine lv_bipush (v := nI 48) hx hb dL_change_65 (by decide) ?_
    refine lv_iload_n hx hb dL_change_67 rfl (lv_at hl 3 rfl) ?_
    refine lv_iconst (v := nI 5) hx hb dL_change_68 (by decide) ?_
    obtain ⟨v53, hq, h⟩ := cz_bd_t h
    refine cz_TrunS (rest := [.int (nI 48), .ref a0]) (As := [.int x2, .int (nI 5)]) (Nat.le_of_ble_eq_true rfl) (Nat.le_of_ble_eq_true rfl) X hM hl.1 (c_L_low (l := l) (g := g) (b := b)  hq) mv_L_low ml_L_15 ⟨Nat.le_trans (Nat.le_of_ble_eq_true rfl) hRf, Nat.le_trans (Nat.le_of_ble_eq_true rfl) hRl⟩ rfl rfl (Nat.le_of_ble_eq_true rfl) dL_change_69 (fun H locs hM => ?_)
    refine lv_iadd hx hb dL_change_72 ?_
    refine lv_i2l (v := Int32.toInt64 ((nI 48) + v53)) hx hb dL_change_73 rfl ?_
    obtain ⟨v55, M54, hq, h⟩ := cz_b2_t h
    refine cz_TrunV (rest := []) (As := [.long (Int32.toInt64 ((nI 48) + v53))]) (T := TX4) (N0 := 8) (Nat.le_of_ble_eq_true rfl) (Nat.le_of_ble_eq_true rfl) X hM hl.1 (c_X4_put (l := l) (g := g) (b := b) ka0 hq) mv_X4_put rfl (by decide) ka0 ml_L_21 ⟨Nat.le_trans (Nat.le_of_ble_eq_true rfl) hRf, Nat.le_trans (Nat.le_of_ble_eq_true rfl) hRl⟩ rfl rfl (Nat.le_of_ble_eq_true rfl) dL_change_74 (fun H locs hM => ?_)
    refine lv_pop hx hb dL_change_77 rfl ?_
    refine lv_aload_n hx hb dL_change_78 rfl (lv_at hl 1 rfl) ?_
    refine lv_iload_n hx hb dL_change_79 rfl (lv_at hl 3 rfl) ?_
    refine lv_iconst (v := nI 3) hx hb dL_change_80 (by decide) ?_
    refine lv_ishr hx hb dL_change_81 ?_
    refine lv_iconst (v := nI 1) hx hb dL_change_82 (by decide) ?_
    refine lv_iand hx hb dL_change_83 ?_
    refine lv_if_ne (tgt := 93) hx hb dL_change_84 (by decide) (fun c56 => ?_) (fun c56 => ?_)
    · have h := cz_ite_f c56 h
      refine lv_ldc2 hx hb ho (ht _ lc_L_27) dL_change_93 ?_
      obtain ⟨v58, M57, hq, h⟩ := cz_b2_t h
      refine cz_TrunV (rest := []) (As := [.long (60 : Int64)]) (T := TX4) (N0 := 8) (Nat.le_of_ble_eq_true rfl) (Nat.le_of_ble_eq_true rfl) X hM hl.1 (c_X4_put (l := l) (g := g) (b := b) ka0 hq) mv_X4_put rfl (by decide) ka0 ml_L_21 ⟨Nat.le_trans (Nat.le_of_ble_eq_true rfl) hRf, Nat.le_trans (Nat.le_of_ble_eq_true rfl) hRl⟩ rfl rfl (Nat.le_of_ble_eq_true rfl) dL_change_96 (fun H locs hM => ?_)
      refine lv_pop hx hb dL_change_99 rfl ?_
      refine lv_iconst (v := nI 0) hx hb dL_change_100 (by decide) ?_
      refine lv_istore (lv' := [(5, .int (nI 0)), (4, .int v2), (0, .ref a0), (1, .int x1), (2, .int x2), (3, .int x3)]) hx hb dL_change_101 hl (by decide) rfl (fun ls hl => ?_)
      refine w_L_change_L103 X (Nat.le_of_ble_eq_true rfl) (Nat.le_of_ble_eq_true rfl) ka0 _ (fun y59 M60 H locs ls h hM hl => ?_) _ _ _ _ _ _ h hM (lv_sub hl [2, 4, 5, 0] rfl)
      refine lv_aload_n hx hb dL_change_144 rfl (lv_at hl 0 rfl) ?_
      obtain ⟨v62, M61, hq, h⟩ := cz_b2_t h
      refine cz_TrunV (rest := []) (As := []) (T := TX4) (N0 := 8) (Nat.le_of_ble_eq_true rfl) (Nat.le_of_ble_eq_true rfl) X hM hl.1 (c_X4_read (l := l) (g := g) (b := b) ka0 hq) mv_X4_read rfl (by decide) ka0 ml_L_29 ⟨Nat.le_trans (Nat.le_of_ble_eq_true rfl) hRf, Nat.le_trans (Nat.le_of_ble_eq_true rfl) hRl⟩ rfl rfl (Nat.le_of_ble_eq_true rfl) dL_change_145 (fun H locs hM => ?_)
      refine lv_istore (lv' := [(5, .int v62), (0, .ref a0), (2, .int x2), (3, .int x3)]) hx hb dL_change_148 hl (by decide) rfl (fun ls hl => ?_)
      refine lv_aload_n hx hb dL_change_150 rfl (lv_at hl 1 rfl) ?_
      obtain ⟨v64, M63, hq, h⟩ := cz_b2_t h
      refine cz_TrunV (rest := []) (As := []) (T := TX4) (N0 := 8) (Nat.le_of_ble_eq_true rfl) (Nat.le_of_ble_eq_true rfl) X hM hl.1 (c_X4_wipe (l := l) (g := g) (b := b) ka0 hq) mv_X4_wipe rfl (by decide) ka0 ml_L_33 ⟨Nat.le_trans (Nat.le_of_ble_eq_true rfl) hRf, Nat.le_trans (Nat.le_of_ble_eq_true rfl) hRl⟩ rfl rfl (Nat.le_of_ble_eq_true rfl) dL_change_151 (fun H locs hM => ?_)
      refine lv_istore (lv' := [(6, .int v64), (5, .int v62), (0, .ref a0), (2, .int x2), (3, .int x3)]) hx hb dL_change_154 hl (by decide) rfl (fun ls hl => ?_)
      refine lv_iload hx hb dL_change_156 (lv_at hl 1 rfl) ?_
      exact cz_Treti X hM h rfl (Nat.le_of_ble_eq_true rfl) (Nat.le_of_ble_eq_true rfl) dL_change_158
    · have h := cz_ite_t c56 h
      refine lv_ldc2 hx hb ho (ht _ lc_L_25) dL_change_87 ?_
      refine lv_goto (tgt := 96) hx hb dL_change_90 (by decide) ?_
      obtain ⟨v66, M65, hq, h⟩ := cz_b2_t h
      refine cz_TrunV (rest := []) (As := [.long (62 : Int64)]) (T := TX4) (N0 := 8) (Nat.le_of_ble_eq_true rfl) (Nat.le_of_ble_eq_true rfl) X hM hl.1 (c_X4_put (l := l) (g := g) (b := b) ka0 hq) mv_X4_put rfl (by decide) ka0 ml_L_21 ⟨Nat.le_trans (Nat.le_of_ble_eq_true rfl) hRf, Nat.le_trans (Nat.le_of_ble_eq_true rfl) hRl⟩ rfl rfl (Nat.le_of_ble_eq_true rfl) dL_change_96 (fun H locs hM => ?_)
      refine lv_pop hx hb dL_change_99 rfl ?_
      refine lv_iconst (v := nI 0) hx hb dL_change_100 (by decide) ?_
      refine lv_istore (lv' := [(5, .int (nI 0)), (4, .int v2), (0, .ref a0), (1, .int x1), (2, .int x2), (3, .int x3)]) hx hb dL_change_101 hl (by decide) rfl (fun ls hl => ?_)
      refine w_L_change_L103 X (Nat.le_of_ble_eq_true rfl) (Nat.le_of_ble_eq_true rfl) ka0 _ (fun y67 M68 H locs ls h hM hl => ?_) _ _ _ _ _ _ h hM (lv_sub hl [2, 4, 5, 0] rfl)
      refine lv_aload_n hx hb dL_change_144 rfl (lv_at hl 0 rfl) ?_
      obtain ⟨v70, M69, hq, h⟩ := cz_b2_t h
      refine cz_TrunV (rest := []) (As := []) (T := TX4) (N0 := 8) (Nat.le_of_ble_eq_true rfl) (Nat.le_of_ble_eq_true rfl) X hM hl.1 (c_X4_read (l := l) (g := g) (b := b) ka0 hq) mv_X4_read rfl (by decide) ka0 ml_L_29 ⟨Nat.le_trans (Nat.le_of_ble_eq_true rfl) hRf, Nat.le_trans (Nat.le_of_ble_eq_true rfl) hRl⟩ rfl rfl (Nat.le_of_ble_eq_true rfl) dL_change_145 (fun H locs hM => ?_)
      refine lv_istore (lv' := [(5, .int v70), (0, .ref a0), (2, .int x2), (3, .int x3)]) hx hb dL_change_148 hl (by decide) rfl (fun ls hl => ?_)
      refine lv_aload_n hx hb dL_change_150 rfl (lv_at hl 1 rfl) ?_
      obtain ⟨v72, M71, hq, h⟩ := cz_b2_t h
      refine cz_TrunV (rest := []) (As := []) (T := TX4) (N0 := 8) (Nat.le_of_ble_eq_true rfl) (Nat.le_of_ble_eq_true rfl) X hM hl.1 (c_X4_wipe (l := l) (g := g) (b := b) ka0 hq) mv_X4_wipe rfl (by decide) ka0 ml_L_33 ⟨Nat.le_trans (Nat.le_of_ble_eq_true rfl) hRf, Nat.le_trans (Nat.le_of_ble_eq_true rfl) hRl⟩ rfl rfl (Nat.le_of_ble_eq_true rfl) dL_change_151 (fun H locs hM => ?_)
      refine lv_istore (lv' := [(6, .int v72), (5, .int v70), (0, .ref a0), (2, .int x2), (3, .int x3)]) hx hb dL_change_154 hl (by decide) rfl (fun ls hl => ?_)
      refine lv_iload hx hb dL_change_156 (lv_at hl 1 rfl) ?_
      exact cz_Treti X hM h rfl (Nat.le_of_ble_eq_true rfl) (Nat.le_of_ble_eq_true rfl) dL_change_158
  have h := cz_ite_f c52 h
  by_cases c73 : x1 = (nI 3)
  · have h := cz_ite_t c73 h
    refine lv_tableIn (off := 56) (tgt := 64) hx hb dL_change_8 (by rw [c73]; decide) (by rw [c73]; decide) (by rw [c73]; rfl) (by decide) ?_
    refine lv_aload_n hx hb dL_change_64 rfl (lv_at hl 1 rfl) ?_
    refine lv_bipush (v := nI 48) hx hb dL_change_65 (by decide) ?_
    refine lv_iload_n hx hb dL_change_67 rfl (lv_at hl 3 rfl) ?_
    refine lv_iconst (v := nI 5) hx hb dL_change_68 (by decide) ?_
    obtain ⟨v74, hq, h⟩ := cz_bd_t h
    refine cz_TrunS (rest := [.int (nI 48), .ref a0]) (As := [.int x2, .int (nI 5)]) (Nat.le_of_ble_eq_true rfl) (Nat.le_of_ble_eq_true rfl) X hM hl.1 (c_L_low (l := l) (g := g) (b := b)  hq) mv_L_low ml_L_15 ⟨Nat.le_trans (Nat.le_of_ble_eq_true rfl) hRf, Nat.le_trans (Nat.le_of_ble_eq_true rfl) hRl⟩ rfl rfl (Nat.le_of_ble_eq_true rfl) dL_change_69 (fun H locs hM => ?_)
    refine lv_iadd hx hb dL_change_72 ?_
    refine lv_i2l (v := Int32.toInt64 ((nI 48) + v74)) hx hb dL_change_73 rfl ?_
    obtain ⟨v76, M75, hq, h⟩ := cz_b2_t h
    refine cz_TrunV (rest := []) (As := [.long (Int32.toInt64 ((nI 48) + v74))]) (T := TX4) (N0 := 8) (Nat.le_of_ble_eq_true rfl) (Nat.le_of_ble_eq_true rfl) X hM hl.1 (c_X4_put (l := l) (g := g) (b := b) ka0 hq) mv_X4_put rfl (by decide) ka0 ml_L_21 ⟨Nat.le_trans (Nat.le_of_ble_eq_true rfl) hRf, Nat.le_trans (Nat.le_of_ble_eq_true rfl) hRl⟩ rfl rfl (Nat.le_of_ble_eq_true rfl) dL_change_74 (fun H locs hM => ?_)
    refine lv_pop hx hb dL_change_77 rfl ?_
    refine lv_aload_n hx hb dL_change_78 rfl (lv_at hl 1 rfl) ?_
    refine lv_iload_n hx hb dL_change_79 rfl (lv_at hl 3 rfl) ?_
    refine lv_iconst (v := nI 3) hx hb dL_change_80 (by decide) ?_
    refine lv_ishr hx hb dL_change_81 ?_
    refine lv_iconst (v := nI 1) hx hb dL_change_82 (by decide) ?_
    refine lv_iand hx hb dL_change_83 ?_
    refine lv_if_ne (tgt := 93) hx hb dL_change_84 (by decide) (fun c77 => ?_) (fun c77 => ?_)
    · have h := cz_ite_f c77 h
      refine lv_ldc2 hx hb ho (ht _ lc_L_27) dL_change_93 ?_
      obtain ⟨v79, M78, hq, h⟩ := cz_b2_t h
      refine cz_TrunV (rest := []) (As := [.long (60 : Int64)]) (T := TX4) (N0 := 8) (Nat.le_of_ble_eq_true rfl) (Nat.le_of_ble_eq_true rfl) X hM hl.1 (c_X4_put (l := l) (g := g) (b := b) ka0 hq) mv_X4_put rfl (by decide) ka0 ml_L_21 ⟨Nat.le_trans (Nat.le_of_ble_eq_true rfl) hRf, Nat.le_trans (Nat.le_of_ble_eq_true rfl) hRl⟩ rfl rfl (Nat.le_of_ble_eq_true rfl) dL_change_96 (fun H locs hM => ?_)
      refine lv_pop hx hb dL_change_99 rfl ?_
      refine lv_iconst (v := nI 0) hx hb dL_change_100 (by decide) ?_
      refine lv_istore (lv' := [(5, .int (nI 0)), (4, .int v2), (0, .ref a0), (1, .int x1), (2, .int x2), (3, .int x3)]) hx hb dL_change_101 hl (by decide) rfl (fun ls hl => ?_)
      refine w_L_change_L103 X (Nat.le_of_ble_eq_true rfl) (Nat.le_of_ble_eq_true rfl) ka0 _ (fun y80 M81 H locs ls h hM hl => ?_) _ _ _ _ _ _ h hM (lv_sub hl [2, 4, 5, 0] rfl)
      refine lv_aload_n hx hb dL_change_144 rfl (lv_at hl 0 rfl) ?_
      obtain ⟨v83, M82, hq, h⟩ := cz_b2_t h
      refine cz_TrunV (rest := []) (As := []) (T := TX4) (N0 := 8) (Nat.le_of_ble_eq_true rfl) (Nat.le_of_ble_eq_true rfl) X hM hl.1 (c_X4_read (l := l) (g := g) (b := b) ka0 hq) mv_X4_read rfl (by decide) ka0 ml_L_29 ⟨Nat.le_trans (Nat.le_of_ble_eq_true rfl) hRf, Nat.le_trans (Nat.le_of_ble_eq_true rfl) hRl⟩ rfl rfl (Nat.le_of_ble_eq_true rfl) dL_change_145 (fun H locs hM => ?_)
      refine lv_istore (lv' := [(5, .int v83), (0, .ref a0), (2, .int x2), (3, .int x3)]) hx hb dL_change_148 hl (by decide) rfl (fun ls hl => ?_)
      refine lv_aload_n hx hb dL_change_150 rfl (lv_at hl 1 rfl) ?_
      obtain ⟨v85, M84, hq, h⟩ := cz_b2_t h
      refine cz_TrunV (rest := []) (As := []) (T := TX4) (N0 := 8) (Nat.le_of_ble_eq_true rfl) (Nat.le_of_ble_eq_true rfl) X hM hl.1 (c_X4_wipe (l := l) (g := g) (b := b) ka0 hq) mv_X4_wipe rfl (by decide) ka0 ml_L_33 ⟨Nat.le_trans (Nat.le_of_ble_eq_true rfl) hRf, Nat.le_trans (Nat.le_of_ble_eq_true rfl) hRl⟩ rfl rfl (Nat.le_of_ble_eq_true rfl) dL_change_151 (fun H locs hM => ?_)
      refine lv_istore (lv' := [(6, .int v85), (5, .int v83), (0, .ref a0), (2, .int x2), (3, .int x3)]) hx hb dL_change_154 hl (by decide) rfl (fun ls hl => ?_)
      refine lv_iload hx hb dL_change_156 (lv_at hl 1 rfl) ?_
      exact cz_Treti X hM h rfl (Nat.le_of_ble_eq_true rfl) (Nat.le_of_ble_eq_true rfl) dL_change_158
    · have h := cz_ite_t c77 h
      refine lv_ldc2 hx hb ho (ht _ lc_L_25) dL_change_87 ?_
      refine lv_goto (tgt := 96) hx hb dL_change_90 (by decide) ?_
      obtain ⟨v87, M86, hq, h⟩ := cz_b2_t h
      refine cz_TrunV (rest := []) (As := [.long (62 : Int64)]) (T := TX4) (N0 := 8) (Nat.le_of_ble_eq_true rfl) (Nat.le_of_ble_eq_true rfl) X hM hl.1 (c_X4_put (l := l) (g := g) (b := b) ka0 hq) mv_X4_put rfl (by decide) ka0 ml_L_21 ⟨Nat.le_trans (Nat.le_of_ble_eq_true rfl) hRf, Nat.le_trans (Nat.le_of_ble_eq_true rfl) hRl⟩ rfl rfl (Nat.le_of_ble_eq_true rfl) dL_change_96 (fun H locs hM => ?_)
      refine lv_pop hx hb dL_change_99 rfl ?_
      refine lv_iconst (v := nI 0) hx hb dL_change_100 (by decide) ?_
      refine lv_istore (lv' := [(5, .int (nI 0)), (4, .int v2), (0, .ref a0), (1, .int x1), (2, .int x2), (3, .int x3)]) hx hb dL_change_101 hl (by decide) rfl (fun ls hl => ?_)
      refine w_L_change_L103 X (Nat.le_of_ble_eq_true rfl) (Nat.le_of_ble_eq_true rfl) ka0 _ (fun y88 M89 H locs ls h hM hl => ?_) _ _ _ _ _ _ h hM (lv_sub hl [2, 4, 5, 0] rfl)
      refine lv_aload_n hx hb dL_change_144 rfl (lv_at hl 0 rfl) ?_
      obtain ⟨v91, M90, hq, h⟩ := cz_b2_t h
      refine cz_TrunV (rest := []) (As := []) (T := TX4) (N0 := 8) (Nat.le_of_ble_eq_true rfl) (Nat.le_of_ble_eq_true rfl) X hM hl.1 (c_X4_read (l := l) (g := g) (b := b) ka0 hq) mv_X4_read rfl (by decide) ka0 ml_L_29 ⟨Nat.le_trans (Nat.le_of_ble_eq_true rfl) hRf, Nat.le_trans (Nat.le_of_ble_eq_true rfl) hRl⟩ rfl rfl (Nat.le_of_ble_eq_true rfl) dL_change_145 (fun H locs hM => ?_)
      refine lv_istore (lv' := [(5, .int v91), (0, .ref a0), (2, .int x2), (3, .int x3)]) hx hb dL_change_148 hl (by decide) rfl (fun ls hl => ?_)
      refine lv_aload_n hx hb dL_change_150 rfl (lv_at hl 1 rfl) ?_
      obtain ⟨v93, M92, hq, h⟩ := cz_b2_t h
      refine cz_TrunV (rest := []) (As := []) (T := TX4) (N0 := 8) (Nat.le_of_ble_eq_true rfl) (Nat.le_of_ble_eq_true rfl) X hM hl.1 (c_X4_wipe (l := l) (g := g) (b := b) ka0 hq) mv_X4_wipe rfl (by decide) ka0 ml_L_33 ⟨Nat.le_trans (Nat.le_of_ble_eq_true rfl) hRf, Nat.le_trans (Nat.le_of_ble_eq_true rfl) hRl⟩ rfl rfl (Nat.le_of_ble_eq_true rfl) dL_change_151 (fun H locs hM => ?_)
      refine lv_istore (lv' := [(6, .int v93), (5, .int v91), (0, .ref a0), (2, .int x2), (3, .int x3)]) hx hb dL_change_154 hl (by decide) rfl (fun ls hl => ?_)
      refine lv_iload hx hb dL_change_156 (lv_at hl 1 rfl) ?_
      exact cz_Treti X hM h rfl (Nat.le_of_ble_eq_true rfl) (Nat.le_of_ble_eq_true rfl) dL_change_158
  have h := cz_ite_f c73 h
  by_cases c94 : x1 = (nI 4)
  · have h := cz_ite_t c94 h
    refine lv_tableIn (off := 56) (tgt := 64) hx hb dL_change_8 (by rw [c94]; decide) (by rw [c94]; decide) (by rw [c94]; rfl) (by decide) ?_
    refine lv_aload_n hx hb dL_change_64 rfl (lv_at hl 1 rfl) ?_
    refine lv_bipush (v := nI 48) hx hb dL_change_65 (by decide) ?_
    refine lv_iload_n hx hb dL_change_67 rfl (lv_at hl 3 rfl) ?_
    refine lv_iconst (v := nI 5) hx hb dL_change_68 (by decide) ?_
    obtain ⟨v95, hq, h⟩ := cz_bd_t h
    refine cz_TrunS (rest := [.int (nI 48), .ref a0]) (As := [.int x2, .int (nI 5)]) (Nat.le_of_ble_eq_true rfl) (Nat.le_of_ble_eq_true rfl) X hM hl.1 (c_L_low (l := l) (g := g) (b := b)  hq) mv_L_low ml_L_15 ⟨Nat.le_trans (Nat.le_of_ble_eq_true rfl) hRf, Nat.le_trans (Nat.le_of_ble_eq_true rfl) hRl⟩ rfl rfl (Nat.le_of_ble_eq_true rfl) dL_change_69 (fun H locs hM => ?_)
    refine lv_iadd hx hb dL_change_72 ?_
    refine lv_i2l (v := Int32.toInt64 ((nI 48) + v95)) hx hb dL_change_73 rfl ?_
    obtain ⟨v97, M96, hq, h⟩ := cz_b2_t h
    refine cz_TrunV (rest := []) (As := [.long (Int32.toInt64 ((nI 48) + v95))]) (T := TX4) (N0 := 8) (Nat.le_of_ble_eq_true rfl) (Nat.le_of_ble_eq_true rfl) X hM hl.1 (c_X4_put (l := l) (g := g) (b := b) ka0 hq) mv_X4_put rfl (by decide) ka0 ml_L_21 ⟨Nat.le_trans (Nat.le_of_ble_eq_true rfl) hRf, Nat.le_trans (Nat.le_of_ble_eq_true rfl) hRl⟩ rfl rfl (Nat.le_of_ble_eq_true rfl) dL_change_74 (fun H locs hM => ?_)
    refine lv_pop hx hb dL_change_77 rfl ?_
    refine lv_aload_n hx hb dL_change_78 rfl (lv_at hl 1 rfl) ?_
    refine lv_iload_n hx hb dL_change_79 rfl (lv_at hl 3 rfl) ?_
    refine lv_iconst (v := nI 3) hx hb dL_change_80 (by decide) ?_
    refine lv_ishr hx hb dL_change_81 ?_
    refine lv_iconst (v := nI 1) hx hb dL_change_82 (by decide) ?_
    refine lv_iand hx hb dL_change_83 ?_
    refine lv_if_ne (tgt := 93) hx hb dL_change_84 (by decide) (fun c98 => ?_) (fun c98 => ?_)
    · have h := cz_ite_f c98 h
      refine lv_ldc2 hx hb ho (ht _ lc_L_27) dL_change_93 ?_
      obtain ⟨v100, M99, hq, h⟩ := cz_b2_t h
      refine cz_TrunV (rest := []) (As := [.long (60 : Int64)]) (T := TX4) (N0 := 8) (Nat.le_of_ble_eq_true rfl) (Nat.le_of_ble_eq_true rfl) X hM hl.1 (c_X4_put (l := l) (g := g) (b := b) ka0 hq) mv_X4_put rfl (by decide) ka0 ml_L_21 ⟨Nat.le_trans (Nat.le_of_ble_eq_true rfl) hRf, Nat.le_trans (Nat.le_of_ble_eq_true rfl) hRl⟩ rfl rfl (Nat.le_of_ble_eq_true rfl) dL_change_96 (fun H locs hM => ?_)
      refine lv_pop hx hb dL_change_99 rfl ?_
      refine lv_iconst (v := nI 0) hx hb dL_change_100 (by decide) ?_
      refine lv_istore (lv' := [(5, .int (nI 0)), (4, .int v2), (0, .ref a0), (1, .int x1), (2, .int x2), (3, .int x3)]) hx hb dL_change_101 hl (by decide) rfl (fun ls hl => ?_)
      refine w_L_change_L103 X (Nat.le_of_ble_eq_true rfl) (Nat.le_of_ble_eq_true rfl) ka0 _ (fun y101 M102 H locs ls h hM hl => ?_) _ _ _ _ _ _ h hM (lv_sub hl [2, 4, 5, 0] rfl)
      refine lv_aload_n hx hb dL_change_144 rfl (lv_at hl 0 rfl) ?_
      obtain ⟨v104, M103, hq, h⟩ := cz_b2_t h
      refine cz_TrunV (rest := []) (As := []) (T := TX4) (N0 := 8) (Nat.le_of_ble_eq_true rfl) (Nat.le_of_ble_eq_true rfl) X hM hl.1 (c_X4_read (l := l) (g := g) (b := b) ka0 hq) mv_X4_read rfl (by decide) ka0 ml_L_29 ⟨Nat.le_trans (Nat.le_of_ble_eq_true rfl) hRf, Nat.le_trans (Nat.le_of_ble_eq_true rfl) hRl⟩ rfl rfl (Nat.le_of_ble_eq_true rfl) dL_change_145 (fun H locs hM => ?_)
      refine lv_istore (lv' := [(5, .int v104), (0, .ref a0), (2, .int x2), (3, .int x3)]) hx hb dL_change_148 hl (by decide) rfl (fun ls hl => ?_)
      refine lv_aload_n hx hb dL_change_150 rfl (lv_at hl 1 rfl) ?_
      obtain ⟨v106, M105, hq, h⟩ := cz_b2_t h
      refine cz_TrunV (rest := []) (As := []) (T := TX4) (N0 := 8) (Nat.le_of_ble_eq_true rfl) (Nat.le_of_ble_eq_true rfl) X hM hl.1 (c_X4_wipe (l := l) (g := g) (b := b) ka0 hq) mv_X4_wipe rfl (by decide) ka0 ml_L_33 ⟨Nat.le_trans (Nat.le_of_ble_eq_true rfl) hRf, Nat.le_trans (Nat.le_of_ble_eq_true rfl) hRl⟩ rfl rfl (Nat.le_of_ble_eq_true rfl) dL_change_151 (fun H locs hM => ?_)
      refine lv_istore (lv' := [(6, .int v106), (5, .int v104), (0, .ref a0), (2, .int x2), (3, .int x3)]) hx hb dL_change_154 hl (by decide) rfl (fun ls hl => ?_)
      refine lv_iload hx hb dL_change_156 (lv_at hl 1 rfl) ?_
      exact cz_Treti X hM h rfl (Nat.le_of_ble_eq_true rfl) (Nat.le_of_ble_eq_true rfl) dL_change_158
    · have h := cz_ite_t c98 h
      refine lv_ldc2 hx hb ho (ht _ lc_L_25) dL_change_87 ?_
      refine lv_goto (tgt := 96) hx hb dL_change_90 (by decide) ?_
      obtain ⟨v108, M107, hq, h⟩ := cz_b2_t h
      refine cz_TrunV (rest := []) (As := [.long (62 : Int64)]) (T := TX4) (N0 := 8) (Nat.le_of_ble_eq_true rfl) (Nat.le_of_ble_eq_true rfl) X hM hl.1 (c_X4_put (l := l) (g := g) (b := b) ka0 hq) mv_X4_put rfl (by decide) ka0 ml_L_21 ⟨Nat.le_trans (Nat.le_of_ble_eq_true rfl) hRf, Nat.le_trans (Nat.le_of_ble_eq_true rfl) hRl⟩ rfl rfl (Nat.le_of_ble_eq_true rfl) dL_change_96 (fun H locs hM => ?_)
      refine lv_pop hx hb dL_change_99 rfl ?_
      refine lv_iconst (v := nI 0) hx hb dL_change_100 (by decide) ?_
      refine lv_istore (lv' := [(5, .int (nI 0)), (4, .int v2), (0, .ref a0), (1, .int x1), (2, .int x2), (3, .int x3)]) hx hb dL_change_101 hl (by decide) rfl (fun ls hl => ?_)
      refine w_L_change_L103 X (Nat.le_of_ble_eq_true rfl) (Nat.le_of_ble_eq_true rfl) ka0 _ (fun y109 M110 H locs ls h hM hl => ?_) _ _ _ _ _ _ h hM (lv_sub hl [2, 4, 5, 0] rfl)
      refine lv_aload_n hx hb dL_change_144 rfl (lv_at hl 0 rfl) ?_
      obtain ⟨v112, M111, hq, h⟩ := cz_b2_t h
      refine cz_TrunV (rest := []) (As := []) (T := TX4) (N0 := 8) (Nat.le_of_ble_eq_true rfl) (Nat.le_of_ble_eq_true rfl) X hM hl.1 (c_X4_read (l := l) (g := g) (b := b) ka0 hq) mv_X4_read rfl (by decide) ka0 ml_L_29 ⟨Nat.le_trans (Nat.le_of_ble_eq_true rfl) hRf, Nat.le_trans (Nat.le_of_ble_eq_true rfl) hRl⟩ rfl rfl (Nat.le_of_ble_eq_true rfl) dL_change_145 (fun H locs hM => ?_)
      refine lv_istore (lv' := [(5, .int v112), (0, .ref a0), (2, .int x2), (3, .int x3)]) hx hb dL_change_148 hl (by decide) rfl (fun ls hl => ?_)
      refine lv_aload_n hx hb dL_change_150 rfl (lv_at hl 1 rfl) ?_
      obtain ⟨v114, M113, hq, h⟩ := cz_b2_t h
      refine cz_TrunV (rest := []) (As := []) (T := TX4) (N0 := 8) (Nat.le_of_ble_eq_true rfl) (Nat.le_of_ble_eq_true rfl) X hM hl.1 (c_X4_wipe (l := l) (g := g) (b := b) ka0 hq) mv_X4_wipe rfl (by decide) ka0 ml_L_33 ⟨Nat.le_trans (Nat.le_of_ble_eq_true rfl) hRf, Nat.le_trans (Nat.le_of_ble_eq_true rfl) hRl⟩ rfl rfl (Nat.le_of_ble_eq_true rfl) dL_change_151 (fun H locs hM => ?_)
      refine lv_istore (lv' := [(6, .int v114), (5, .int v112), (0, .ref a0), (2, .int x2), (3, .int x3)]) hx hb dL_change_154 hl (by decide) rfl (fun ls hl => ?_)
      refine lv_iload hx hb dL_change_156 (lv_at hl 1 rfl) ?_
      exact cz_Treti X hM h rfl (Nat.le_of_ble_eq_true rfl) (Nat.le_of_ble_eq_true rfl) dL_change_158
  have h := cz_ite_f c94 h
  by_cases c115 : x1 = (nI 5)
  · have h := cz_ite_t c115 h
    refine lv_tableIn (off := 151) (tgt := 159) hx hb dL_change_8 (by rw [c115]; decide) (by rw [c115]; decide) (by rw [c115]; rfl) (by decide) ?_
    refine lv_aload_n hx hb dL_change_159 rfl (lv_at hl 1 rfl) ?_
    refine lv_iload_n hx hb dL_change_160 rfl (lv_at hl 3 rfl) ?_
    refine lv_iconst (v := nI 5) hx hb dL_change_161 (by decide) ?_
    obtain ⟨v116, hq, h⟩ := cz_bd_t h
    refine cz_TrunS (rest := [.ref a0]) (As := [.int x2, .int (nI 5)]) (Nat.le_of_ble_eq_true rfl) (Nat.le_of_ble_eq_true rfl) X hM hl.1 (c_L_low (l := l) (g := g) (b := b)  hq) mv_L_low ml_L_15 ⟨Nat.le_trans (Nat.le_of_ble_eq_true rfl) hRf, Nat.le_trans (Nat.le_of_ble_eq_true rfl) hRl⟩ rfl rfl (Nat.le_of_ble_eq_true rfl) dL_change_162 (fun H locs hM => ?_)
    refine lv_iload_n hx hb dL_change_165 rfl (lv_at hl 4 rfl) ?_
    refine lv_bipush (v := nI 8) hx hb dL_change_166 (by decide) ?_
    obtain ⟨v117, hq, h⟩ := cz_bd_t h
    refine cz_TrunS (rest := [.int v116, .ref a0]) (As := [.int x3, .int (nI 8)]) (Nat.le_of_ble_eq_true rfl) (Nat.le_of_ble_eq_true rfl) X hM hl.1 (c_L_low (l := l) (g := g) (b := b)  hq) mv_L_low ml_L_15 ⟨Nat.le_trans (Nat.le_of_ble_eq_true rfl) hRf, Nat.le_trans (Nat.le_of_ble_eq_true rfl) hRl⟩ rfl rfl (Nat.le_of_ble_eq_true rfl) dL_change_168 (fun H locs hM => ?_)
    obtain ⟨v119, M118, hq, h⟩ := cz_b2_t h
    refine cz_TrunV (rest := []) (As := [.int v116, .int v117]) (T := TX4) (N0 := 8) (Nat.le_of_ble_eq_true rfl) (Nat.le_of_ble_eq_true rfl) X hM hl.1 (c_X4_strike (l := l) (g := g) (b := b) ka0 hq) mv_X4_strike rfl (by decide) ka0 ml_L_36 ⟨Nat.le_trans (Nat.le_of_ble_eq_true rfl) hRf, Nat.le_trans (Nat.le_of_ble_eq_true rfl) hRl⟩ rfl rfl (Nat.le_of_ble_eq_true rfl) dL_change_171 (fun H locs hM => ?_)
    exact cz_Treti X hM h rfl (Nat.le_of_ble_eq_true rfl) (Nat.le_of_ble_eq_true rfl) dL_change_174
  have h := cz_ite_f c115 h
  by_cases c120 : x1 = (nI 6)
  · have h := cz_ite_t c120 h
    refine lv_tableIn (off := 151) (tgt := 159) hx hb dL_change_8 (by rw [c120]; decide) (by rw [c120]; decide) (by rw [c120]; rfl) (by decide) ?_
    refine lv_aload_n hx hb dL_change_159 rfl (lv_at hl 1 rfl) ?_
    refine lv_iload_n hx hb dL_change_160 rfl (lv_at hl 3 rfl) ?_
    refine lv_iconst (v := nI 5) hx hb dL_change_161 (by decide) ?_
    obtain ⟨v121, hq, h⟩ := cz_bd_t h
    refine cz_TrunS (rest := [.ref a0]) (As := [.int x2, .int (nI 5)]) (Nat.le_of_ble_eq_true rfl) (Nat.le_of_ble_eq_true rfl) X hM hl.1 (c_L_low (l := l) (g := g) (b := b)  hq) mv_L_low ml_L_15 ⟨Nat.le_trans (Nat.le_of_ble_eq_true rfl) hRf, Nat.le_trans (Nat.le_of_ble_eq_true rfl) hRl⟩ rfl rfl (Nat.le_of_ble_eq_true rfl) dL_change_162 (fun H locs hM => ?_)
    refine lv_iload_n hx hb dL_change_165 rfl (lv_at hl 4 rfl) ?_
    refine lv_bipush (v := nI 8) hx hb dL_change_166 (by decide) ?_
    obtain ⟨v122, hq, h⟩ := cz_bd_t h
    refine cz_TrunS (rest := [.int v121, .ref a0]) (As := [.int x3, .int (nI 8)]) (Nat.le_of_ble_eq_true rfl) (Nat.le_of_ble_eq_true rfl) X hM hl.1 (c_L_low (l := l) (g := g) (b := b)  hq) mv_L_low ml_L_15 ⟨Nat.le_trans (Nat.le_of_ble_eq_true rfl) hRf, Nat.le_trans (Nat.le_of_ble_eq_true rfl) hRl⟩ rfl rfl (Nat.le_of_ble_eq_true rfl) dL_change_168 (fun H locs hM => ?_)
    obtain ⟨v124, M123, hq, h⟩ := cz_b2_t h
    refine cz_TrunV (rest := []) (As := [.int v121, .int v122]) (T := TX4) (N0 := 8) (Nat.le_of_ble_eq_true rfl) (Nat.le_of_ble_eq_true rfl) X hM hl.1 (c_X4_strike (l := l) (g := g) (b := b) ka0 hq) mv_X4_strike rfl (by decide) ka0 ml_L_36 ⟨Nat.le_trans (Nat.le_of_ble_eq_true rfl) hRf, Nat.le_trans (Nat.le_of_ble_eq_true rfl) hRl⟩ rfl rfl (Nat.le_of_ble_eq_true rfl) dL_change_171 (fun H locs hM => ?_)
    exact cz_Treti X hM h rfl (Nat.le_of_ble_eq_true rfl) (Nat.le_of_ble_eq_true rfl) dL_change_174
  have h := cz_ite_f c120 h
  by_cases c125 : x1 = (nI 7)
  · have h := cz_ite_t c125 h
    refine lv_tableIn (off := 167) (tgt := 175) hx hb dL_change_8 (by rw [c125]; decide) (by rw [c125]; decide) (by rw [c125]; rfl) (by decide) ?_
    refine lv_aload_n hx hb dL_change_175 rfl (lv_at hl 1 rfl) ?_
    refine lv_iload_n hx hb dL_change_176 rfl (lv_at hl 3 rfl) ?_
    refine lv_bipush (v := nI 8) hx hb dL_change_177 (by decide) ?_
    obtain ⟨v126, hq, h⟩ := cz_bd_t h
    refine cz_TrunS (rest := [.ref a0]) (As := [.int x2, .int (nI 8)]) (Nat.le_of_ble_eq_true rfl) (Nat.le_of_ble_eq_true rfl) X hM hl.1 (c_L_low (l := l) (g := g) (b := b)  hq) mv_L_low ml_L_15 ⟨Nat.le_trans (Nat.le_of_ble_eq_true rfl) hRf, Nat.le_trans (Nat.le_of_ble_eq_true rfl) hRl⟩ rfl rfl (Nat.le_of_ble_eq_true rfl) dL_change_179 (fun H locs hM => ?_)
    refine lv_iload_n hx hb dL_change_182 rfl (lv_at hl 4 rfl) ?_
    refine lv_bipush (v := nI 9) hx hb dL_change_183 (by decide) ?_
    obtain ⟨v127, hq, h⟩ := cz_bd_t h
    refine cz_TrunS (rest := [.int v126, .ref a0]) (As := [.int x3, .int (nI 9)]) (Nat.le_of_ble_eq_true rfl) (Nat.le_of_ble_eq_true rfl) X hM hl.1 (c_L_low (l := l) (g := g) (b := b)  hq) mv_L_low ml_L_15 ⟨Nat.le_trans (Nat.le_of_ble_eq_true rfl) hRf, Nat.le_trans (Nat.le_of_ble_eq_true rfl) hRl⟩ rfl rfl (Nat.le_of_ble_eq_true rfl) dL_change_185 (fun H locs hM => ?_)
    obtain ⟨v129, M128, hq, h⟩ := cz_b2_t h
    refine cz_TrunV (rest := []) (As := [.int v126, .int v127]) (T := TX4) (N0 := 8) (Nat.le_of_ble_eq_true rfl) (Nat.le_of_ble_eq_true rfl) X hM hl.1 (c_X4_trade (l := l) (g := g) (b := b) ka0 hq) mv_X4_trade rfl (by decide) ka0 ml_L_39 ⟨Nat.le_trans (Nat.le_of_ble_eq_true rfl) hRf, Nat.le_trans (Nat.le_of_ble_eq_true rfl) hRl⟩ rfl rfl (Nat.le_of_ble_eq_true rfl) dL_change_188 (fun H locs hM => ?_)
    exact cz_Treti X hM h rfl (Nat.le_of_ble_eq_true rfl) (Nat.le_of_ble_eq_true rfl) dL_change_191
  have h := cz_ite_f c125 h
  by_cases c130 : x1 = (nI 8)
  · have h := cz_ite_t c130 h
    refine lv_tableIn (off := 184) (tgt := 192) hx hb dL_change_8 (by rw [c130]; decide) (by rw [c130]; decide) (by rw [c130]; rfl) (by decide) ?_
    refine lv_aload_n hx hb dL_change_192 rfl (lv_at hl 1 rfl) ?_
    refine lv_iload_n hx hb dL_change_193 rfl (lv_at hl 3 rfl) ?_
    refine lv_iconst (v := nI 4) hx hb dL_change_194 (by decide) ?_
    obtain ⟨v131, hq, h⟩ := cz_bd_t h
    refine cz_TrunS (rest := [.ref a0]) (As := [.int x2, .int (nI 4)]) (Nat.le_of_ble_eq_true rfl) (Nat.le_of_ble_eq_true rfl) X hM hl.1 (c_L_low (l := l) (g := g) (b := b)  hq) mv_L_low ml_L_15 ⟨Nat.le_trans (Nat.le_of_ble_eq_true rfl) hRf, Nat.le_trans (Nat.le_of_ble_eq_true rfl) hRl⟩ rfl rfl (Nat.le_of_ble_eq_true rfl) dL_change_195 (fun H locs hM => ?_)
    refine lv_iload_n hx hb dL_change_198 rfl (lv_at hl 4 rfl) ?_
    refine lv_bipush (v := nI 10) hx hb dL_change_199 (by decide) ?_
    obtain ⟨v132, hq, h⟩ := cz_bd_t h
    refine cz_TrunS (rest := [.int v131, .ref a0]) (As := [.int x3, .int (nI 10)]) (Nat.le_of_ble_eq_true rfl) (Nat.le_of_ble_eq_true rfl) X hM hl.1 (c_L_low (l := l) (g := g) (b := b)  hq) mv_L_low ml_L_15 ⟨Nat.le_trans (Nat.le_of_ble_eq_true rfl) hRf, Nat.le_trans (Nat.le_of_ble_eq_true rfl) hRl⟩ rfl rfl (Nat.le_of_ble_eq_true rfl) dL_change_201 (fun H locs hM => ?_)
    obtain ⟨v134, M133, hq, h⟩ := cz_b2_t h
    refine cz_TrunV (rest := []) (As := [.int v131, .int v132]) (T := TX4) (N0 := 8) (Nat.le_of_ble_eq_true rfl) (Nat.le_of_ble_eq_true rfl) X hM hl.1 (c_X4_set (l := l) (g := g) (b := b) ka0 hq) mv_X4_set rfl (by decide) ka0 ml_L_42 ⟨Nat.le_trans (Nat.le_of_ble_eq_true rfl) hRf, Nat.le_trans (Nat.le_of_ble_eq_true rfl) hRl⟩ rfl rfl (Nat.le_of_ble_eq_true rfl) dL_change_204 (fun H locs hM => ?_)
    exact cz_Treti X hM h rfl (Nat.le_of_ble_eq_true rfl) (Nat.le_of_ble_eq_true rfl) dL_change_207
  have h := cz_ite_f c130 h
  by_cases c135 : x1 = (nI 9)
  · have h := cz_ite_t c135 h
    refine lv_tableIn (off := 200) (tgt := 208) hx hb dL_change_8 (by rw [c135]; decide) (by rw [c135]; decide) (by rw [c135]; rfl) (by decide) ?_
    refine lv_iload_n hx hb dL_change_208 rfl (lv_at hl 4 rfl) ?_
    refine lv_iconst (v := nI 3) hx hb dL_change_209 (by decide) ?_
    refine lv_iand hx hb dL_change_210 ?_
    refine lv_if_ne (tgt := 229) hx hb dL_change_211 (by decide) (fun c136 => ?_) (fun c136 => ?_)
    · have h := cz_ite_f c136 h
      refine lv_iconst (v := -1) hx hb dL_change_229 (by decide) ?_
      exact cz_Treti X hM h rfl (Nat.le_of_ble_eq_true rfl) (Nat.le_of_ble_eq_true rfl) dL_change_230
    · have h := cz_ite_t c136 h
      refine lv_aload_n hx hb dL_change_214 rfl (lv_at hl 1 rfl) ?_
      refine lv_iload_n hx hb dL_change_215 rfl (lv_at hl 3 rfl) ?_
      refine lv_iload hx hb dL_change_216 (lv_at hl 0 rfl) ?_
      refine lv_iconst (v := nI 1) hx hb dL_change_218 (by decide) ?_
      refine lv_iadd hx hb dL_change_219 ?_
      obtain ⟨v137, hq, h⟩ := cz_bd_t h
      refine cz_TrunS (rest := [.ref a0]) (As := [.int x2, .int (v2 + (nI 1))]) (Nat.le_of_ble_eq_true rfl) (Nat.le_of_ble_eq_true rfl) X hM hl.1 (c_L_low (l := l) (g := g) (b := b)  hq) mv_L_low ml_L_15 ⟨Nat.le_trans (Nat.le_of_ble_eq_true rfl) hRf, Nat.le_trans (Nat.le_of_ble_eq_true rfl) hRl⟩ rfl rfl (Nat.le_of_ble_eq_true rfl) dL_change_220 (fun H locs hM => ?_)
      obtain ⟨v139, M138, hq, h⟩ := cz_b2_t h
      refine cz_TrunV (rest := []) (As := [.int v137]) (T := TX4) (N0 := 8) (Nat.le_of_ble_eq_true rfl) (Nat.le_of_ble_eq_true rfl) X hM hl.1 (c_X4_burn (l := l) (g := g) (b := b) ka0 hq) mv_X4_burn rfl (by decide) ka0 ml_L_45 ⟨Nat.le_trans (Nat.le_of_ble_eq_true rfl) hRf, Nat.le_trans (Nat.le_of_ble_eq_true rfl) hRl⟩ rfl rfl (Nat.le_of_ble_eq_true rfl) dL_change_223 (fun H locs hM => ?_)
      refine lv_goto (tgt := 230) hx hb dL_change_226 (by decide) ?_
      exact cz_Treti X hM h rfl (Nat.le_of_ble_eq_true rfl) (Nat.le_of_ble_eq_true rfl) dL_change_230
  have h := cz_ite_f c135 h
  refine lv_tableOut (tgt := 231) hx hb dL_change_8 (by
    have e0 := lv_neT c3 (show ((nI 0) : Int32).toInt = 0 from by decide)
    have e1 := lv_neT c31 (show ((nI 1) : Int32).toInt = 1 from by decide)
    have e2 := lv_neT c52 (show ((nI 2) : Int32).toInt = 2 from by decide)
    have e3 := lv_neT c73 (show ((nI 3) : Int32).toInt = 3 from by decide)
    have e4 := lv_neT c94 (show ((nI 4) : Int32).toInt = 4 from by decide)
    have e5 := lv_neT c115 (show ((nI 5) : Int32).toInt = 5 from by decide)
    have e6 := lv_neT c120 (show ((nI 6) : Int32).toInt = 6 from by decide)
    have e7 := lv_neT c125 (show ((nI 7) : Int32).toInt = 7 from by decide)
    have e8 := lv_neT c130 (show ((nI 8) : Int32).toInt = 8 from by decide)
    have e9 := lv_neT c135 (show ((nI 9) : Int32).toInt = 9 from by decide)
    clear h; omega) (by decide) ?_
  refine lv_aload_n hx hb dL_change_231 rfl (lv_at hl 1 rfl) ?_
  refine lv_iconst (v := nI 1) hx hb dL_change_232 (by decide) ?_
  refine lv_iload_n hx hb dL_change_233 rfl (lv_at hl 3 rfl) ?_
  refine lv_iconst (v := nI 3) hx hb dL_change_234 (by decide) ?_
  obtain ⟨v140, hq, h⟩ := cz_bd_t h
  refine cz_TrunS (rest := [.int (nI 1), .ref a0]) (As := [.int x2, .int (nI 3)]) (Nat.le_of_ble_eq_true rfl) (Nat.le_of_ble_eq_true rfl) X hM hl.1 (c_L_low (l := l) (g := g) (b := b)  hq) mv_L_low ml_L_15 ⟨Nat.le_trans (Nat.le_of_ble_eq_true rfl) hRf, Nat.le_trans (Nat.le_of_ble_eq_true rfl) hRl⟩ rfl rfl (Nat.le_of_ble_eq_true rfl) dL_change_235 (fun H locs hM => ?_)
  refine lv_iadd hx hb dL_change_238 ?_
  obtain ⟨v142, M141, hq, h⟩ := cz_b2_t h
  refine cz_TrunD (mc := 1) (ms := 40) (rest := []) (As := [.ref a0, .int ((nI 1) + v140)]) (Nat.le_of_ble_eq_true rfl) (Nat.le_of_ble_eq_true rfl) X hM hl.1 (c_L_passes (l := l) (g := g) (b := b) ka0 hq) mv_L_passes ml_L_48 ⟨Nat.le_trans (Nat.le_of_ble_eq_true rfl) hRf, Nat.le_trans (Nat.le_of_ble_eq_true rfl) hRl⟩ rfl rfl (Nat.le_of_ble_eq_true rfl) dL_change_239 (fun H locs hM => ?_)
  exact cz_Treti X hM h rfl (Nat.le_of_ble_eq_true rfl) (Nat.le_of_ble_eq_true rfl) dL_change_242
theorem mv_L_bits : cz_MS yL_bits cL_bits 3 (some .int) 1 := ⟨mt_L_bits, mc_L_bits, ini_L, by decide +kernel⟩
set_option maxHeartbeats 4000000 in
set_option maxRecDepth 100000 in
theorem w_L_bits_L4 {p : Program} {l : Launch} {e : Env} {R : Room} {s : State} {m : MethodId} {args : Array Value} {below : List Frame} {meth : Method} {c : Code} {g : cz_G} {b : Nat} (X : cz_X p s m args meth c cL_bits 3 RL g b (some .int)) (hRf : 0 ≤ R.frames) (hRl : 0 ≤ R.locals) {r0 : Int32} {x0 : Int32} {M : cz_M} 
    (K : Int32 → Int32 → Option (Int32)) (hX : ∀ (x1 : Int32) (x2 : Int32)  (H : Heap) (locs : List Loc) (ls : Array Slot), K x1 x2 = some r0 → cz_WS g b M s H locs → lv_has ls 3 [(0, .int x0), (1, .int x1), (2, .int x2)] → W p l e R s m args below meth c H locs 0 0 (MQ below (cz_Q g b (some (.int r0)) M) args s 0 0 (cz_Ar b)) (F0 m 24 ls [])) :
    ∀ (n : Nat) (x1 : Int32) (x2 : Int32)  (H : Heap) (locs : List Loc) (ls : Array Slot), cz_it2 (f_L_bits_L4 x0 K) n x1 x2 = some r0 → cz_WS g b M s H locs → lv_has ls 3 [(0, .int x0), (1, .int x1), (2, .int x2)] → W p l e R s m args below meth c H locs 0 0 (MQ below (cz_Q g b (some (.int r0)) M) args s 0 0 (cz_Ar b)) (F0 m 4 ls []) := by
  obtain ⟨hx, hb, -, ho, ht, -⟩ := id X
  intro n
  induction n with
  | zero => intro x1 x2 H locs ls h; cases (show none = some _ from h)
  | succ n ih =>
    intro x1 x2 H locs ls h hM hl
    have h : f_L_bits_L4 x0 K (cz_it2 (f_L_bits_L4 x0 K) n) x1 x2 = some r0 := h
    rw [f_L_bits_L4] at h
    refine lv_iload_n hx hb dL_bits_4 rfl (lv_at hl 2 rfl) ?_
    refine lv_bipush (v := nI 26) hx hb dL_bits_5 (by decide) ?_
    refine lv_icmp_ge (tgt := 24) hx hb dL_bits_7 (by decide) (fun c1 => ?_) (fun c1 => ?_)
    · have h := cz_ite_t c1 h
      exact hX _ _ _ _ _ h hM (lv_sub hl [0, 1, 2] rfl)
    · have h := cz_ite_f c1 h
      refine lv_iload_n hx hb dL_bits_10 rfl (lv_at hl 1 rfl) ?_
      refine lv_iload_n hx hb dL_bits_11 rfl (lv_at hl 0 rfl) ?_
      refine lv_iload_n hx hb dL_bits_12 rfl (lv_at hl 2 rfl) ?_
      refine lv_ishr hx hb dL_bits_13 ?_
      refine lv_iconst (v := nI 1) hx hb dL_bits_14 (by decide) ?_
      refine lv_iand hx hb dL_bits_15 ?_
      refine lv_iadd hx hb dL_bits_16 ?_
      refine cz_nmi h (fun v2 h => ?_)
      refine lv_istore_n (lv' := [(1, .int v2), (0, .int x0), (2, .int x2)]) hx hb dL_bits_17 rfl hl (by decide) rfl (fun ls hl => ?_)
      refine cz_nmL (v := x2 + nI 1) h (fun v3 e4 h => ?_)
      refine lv_iinc (v := v3) (lv' := [(2, .int v3), (1, .int v2), (0, .int x0)]) hx hb dL_bits_18 hl (k := 2) rfl (by rw [e4]; rfl) (by decide) rfl (fun ls hl => ?_)
      refine lv_goto (tgt := 4) hx hb dL_bits_21 (by decide) ?_
      exact ih _ _ _ _ _ h hM (lv_sub hl [2, 1, 0] rfl)
set_option maxHeartbeats 4000000 in
set_option maxRecDepth 100000 in
theorem c_L_bits {l : Launch} {g : cz_G} {b : Nat} {M : cz_M} {r0 : Int32} {x0 : Int32}  (h : f_L_bits x0 = some r0) : cz_C l yL_bits cL_bits 3 (some .int) 0 0 g b [.int x0] M (some (.int r0)) M := by
  refine cz_start (by decide) (Nat.le_of_ble_eq_true rfl) (fun p e s m args below meth c X H ls hM hl => ?_)
  have X : cz_X p s m args meth c cL_bits 3 RL g b (some .int) := X
  obtain ⟨hx, hb, -, ho, ht, -⟩ := id X
  have hRf : 0 ≤ ({ frames := 0, cells := 0, slots := 0, locals := 0 } : Room).frames := Nat.le_refl _
  have hRl : 0 ≤ ({ frames := 0, cells := 0, slots := 0, locals := 0 } : Room).locals := Nat.le_refl _
  have hl : lv_has ls 3 [(0, .int x0)] := hl
  rw [f_L_bits] at h
  refine lv_iconst (v := nI 0) hx hb dL_bits_0 (by decide) ?_
  refine lv_istore_n (lv' := [(1, .int (nI 0)), (0, .int x0)]) hx hb dL_bits_1 rfl hl (by decide) rfl (fun ls hl => ?_)
  refine lv_iconst (v := nI 0) hx hb dL_bits_2 (by decide) ?_
  refine lv_istore_n (lv' := [(2, .int (nI 0)), (1, .int (nI 0)), (0, .int x0)]) hx hb dL_bits_3 rfl hl (by decide) rfl (fun ls hl => ?_)
  refine w_L_bits_L4 X hRf hRl  _ (fun y5 y6 H locs ls h hM hl => ?_) _ _ _ _ _ _ h hM (lv_sub hl [2, 1, 0] rfl)
  refine lv_iload_n hx hb dL_bits_24 rfl (lv_at hl 1 rfl) ?_
  exact cz_retp X hM h rfl dL_bits_25
theorem mv_L_isLetter : cz_MS yL_isLetter cL_isLetter 9 (some .boolean) 2 := ⟨mt_L_isLetter, mc_L_isLetter, ini_L, by decide +kernel⟩
set_option maxHeartbeats 4000000 in
set_option maxRecDepth 100000 in
theorem w_L_isLetter_L20 {p : Program} {l : Launch} {e : Env} {R : Room} {s : State} {m : MethodId} {args : Array Value} {below : List Frame} {meth : Method} {c : Code} {g : cz_G} {b : Nat} (X : cz_X p s m args meth c cL_isLetter 9 RL g b (some .boolean)) (hRf : 6 ≤ R.frames) (hRl : 141 ≤ R.locals) {r0 : Int32} {M9 : cz_M} {a0 : Nat} {x1 : Int32} {x2 : Int32} {x3 : Int32} {M : cz_M} (ka0 : cz_K b a0 4)
    (K : Int32 → Int32 → Option (Int32 × cz_M)) (hX : ∀ (x4 : Int32) (x5 : Int32)  (H : Heap) (locs : List Loc) (ls : Array Slot), K x4 x5 = some (r0, M9) → cz_WS g b M s H locs → lv_has ls 9 [(0, .ref a0), (1, .int x1), (2, .int x2), (3, .int x3), (4, .int x4), (5, .int x5)] → W p l e R s m args below meth c H locs 0 0 (MQ below (cz_Q g b (some (.int r0)) M9) args s 0 0 (cz_Ar b)) (F0 m 87 ls [])) :
    ∀ (n : Nat) (x4 : Int32) (x5 : Int32)  (H : Heap) (locs : List Loc) (ls : Array Slot), cz_it2 (f_L_isLetter_L20 a0 x1 x2 x3 M K) n x4 x5 = some (r0, M9) → cz_WS g b M s H locs → lv_has ls 9 [(0, .ref a0), (1, .int x1), (2, .int x2), (3, .int x3), (4, .int x4), (5, .int x5)] → W p l e R s m args below meth c H locs 0 0 (MQ below (cz_Q g b (some (.int r0)) M9) args s 0 0 (cz_Ar b)) (F0 m 20 ls []) := by
  obtain ⟨hx, hb, -, ho, ht, -⟩ := id X
  intro n
  induction n with
  | zero => intro x4 x5 H locs ls h; cases (show none = some _ from h)
  | succ n ih =>
    intro x4 x5 H locs ls h hM hl
    have h : f_L_isLetter_L20 a0 x1 x2 x3 M K (cz_it2 (f_L_isLetter_L20 a0 x1 x2 x3 M K) n) x4 x5 = some (r0, M9) := h
    rw [f_L_isLetter_L20] at h
    refine lv_iload hx hb dL_isLetter_20 (lv_at hl 5 rfl) ?_
    refine lv_aload_n hx hb dL_isLetter_22 rfl (lv_at hl 0 rfl) ?_
    refine lv_iload_n hx hb dL_isLetter_23 rfl (lv_at hl 1 rfl) ?_
    refine lv_bipush (v := nI 10) hx hb dL_isLetter_24 (by decide) ?_
    obtain ⟨v4, hq, h⟩ := cz_bd_t h
    refine cz_runV (rest := [.int x5]) (As := [.int x1, .int (nI 10)]) (T := TX4) (N0 := 8) X hM hl.1 (c_X4_letter (l := l) (g := g) (b := b) ka0 hq) mv_X4_letter rfl (by decide) ka0 ml_L_64 ⟨Nat.le_trans (Nat.le_of_ble_eq_true rfl) hRf, Nat.le_trans (Nat.le_of_ble_eq_true rfl) hRl⟩ rfl rfl (Nat.le_of_ble_eq_true rfl) dL_isLetter_26 (fun H locs hM => ?_)
    refine lv_icmp_ge (tgt := 87) hx hb dL_isLetter_29 (by decide) (fun c5 => ?_) (fun c5 => ?_)
    · have h := cz_ite_t c5 h
      exact hX _ _ _ _ _ h hM (lv_sub hl [0, 1, 2, 3, 4, 5] rfl)
    · have h := cz_ite_f c5 h
      refine lv_aload_n hx hb dL_isLetter_32 rfl (lv_at hl 0 rfl) ?_
      refine lv_iload_n hx hb dL_isLetter_33 rfl (lv_at hl 1 rfl) ?_
      refine lv_iload hx hb dL_isLetter_34 (lv_at hl 5 rfl) ?_
      obtain ⟨v6, hq, h⟩ := cz_bd_t h
      refine cz_runV (rest := []) (As := [.int x1, .int x5]) (T := TX4) (N0 := 8) X hM hl.1 (c_X4_word (l := l) (g := g) (b := b) ka0 hq) mv_X4_word rfl (by decide) ka0 ml_L_67 ⟨Nat.le_trans (Nat.le_of_ble_eq_true rfl) hRf, Nat.le_trans (Nat.le_of_ble_eq_true rfl) hRl⟩ rfl rfl (Nat.le_of_ble_eq_true rfl) dL_isLetter_36 (fun H locs hM => ?_)
      refine lv_istore (lv' := [(6, .int v6), (0, .ref a0), (1, .int x1), (2, .int x2), (3, .int x3), (4, .int x4), (5, .int x5)]) hx hb dL_isLetter_39 hl (by decide) rfl (fun ls hl => ?_)
      refine lv_iload hx hb dL_isLetter_41 (lv_at hl 5 rfl) ?_
      refine lv_iload hx hb dL_isLetter_43 (lv_at hl 0 rfl) ?_
      refine lv_bipush (v := nI 42) hx hb dL_isLetter_45 (by decide) ?_
      refine lv_icmp_ne (tgt := 54) hx hb dL_isLetter_47 (by decide) (fun c7 => ?_) (fun c7 => ?_)
      · have h := cz_ite_f c7 h
        refine lv_iconst (v := nI 0) hx hb dL_isLetter_54 (by decide) ?_
        refine lv_iadd hx hb dL_isLetter_55 ?_
        refine cz_nmi h (fun v8 h => ?_)
        refine lv_istore (lv' := [(4, .int v8), (6, .int v6), (0, .ref a0), (1, .int x1), (2, .int x2), (3, .int x3), (5, .int x5)]) hx hb dL_isLetter_56 hl (by decide) rfl (fun ls hl => ?_)
        refine lv_iload hx hb dL_isLetter_58 (lv_at hl 1 rfl) ?_
        refine lv_bipush (v := nI 42) hx hb dL_isLetter_60 (by decide) ?_
        refine lv_icmp_eq (tgt := 81) hx hb dL_isLetter_62 (by decide) (fun c9 => absurd c9 c7) (fun _ => ?_)
        refine lv_iload hx hb dL_isLetter_65 (lv_at hl 1 rfl) ?_
        refine lv_bipush (v := nI 97) hx hb dL_isLetter_67 (by decide) ?_
        refine lv_icmp_lt (tgt := 79) hx hb dL_isLetter_69 (by decide) (fun c10 => ?_) (fun c10 => ?_)
        · have h := cz_ite_t c10 h
          refine lv_iconst (v := nI 0) hx hb dL_isLetter_79 (by decide) ?_
          cases h
        · have h := cz_ite_f c10 h
          refine lv_iload hx hb dL_isLetter_72 (lv_at hl 1 rfl) ?_
          refine lv_bipush (v := nI 122) hx hb dL_isLetter_74 (by decide) ?_
          refine lv_icmp_le (tgt := 81) hx hb dL_isLetter_76 (by decide) (fun c11 => ?_) (fun c11 => ?_)
          · have h := cz_ite_t c11 h
            refine cz_nmL (v := x5 + nI 1) h (fun v12 e13 h => ?_)
            refine lv_iinc (v := v12) (lv' := [(5, .int v12), (4, .int v8), (6, .int v6), (0, .ref a0), (1, .int x1), (2, .int x2), (3, .int x3)]) hx hb dL_isLetter_81 hl (k := 6) rfl (by rw [e13]; rfl) (by decide) rfl (fun ls hl => ?_)
            refine lv_goto (tgt := 20) hx hb dL_isLetter_84 (by decide) ?_
            exact ih _ _ _ _ _ h hM (lv_sub hl [3, 4, 5, 6, 1, 0] rfl)
          · have h := cz_ite_f c11 h
            refine lv_iconst (v := nI 0) hx hb dL_isLetter_79 (by decide) ?_
            cases h
      · have h := cz_ite_t c7 h
        refine lv_iconst (v := nI 1) hx hb dL_isLetter_50 (by decide) ?_
        refine lv_goto (tgt := 55) hx hb dL_isLetter_51 (by decide) ?_
        refine lv_iadd hx hb dL_isLetter_55 ?_
        refine cz_nmi h (fun v14 h => ?_)
        refine lv_istore (lv' := [(4, .int v14), (6, .int v6), (0, .ref a0), (1, .int x1), (2, .int x2), (3, .int x3), (5, .int x5)]) hx hb dL_isLetter_56 hl (by decide) rfl (fun ls hl => ?_)
        refine lv_iload hx hb dL_isLetter_58 (lv_at hl 1 rfl) ?_
        refine lv_bipush (v := nI 42) hx hb dL_isLetter_60 (by decide) ?_
        refine lv_icmp_eq (tgt := 81) hx hb dL_isLetter_62 (by decide) (fun _ => ?_) (fun c15 => absurd c7 c15)
        refine cz_nmL (v := x5 + nI 1) h (fun v16 e17 h => ?_)
        refine lv_iinc (v := v16) (lv' := [(5, .int v16), (4, .int v14), (6, .int v6), (0, .ref a0), (1, .int x1), (2, .int x2), (3, .int x3)]) hx hb dL_isLetter_81 hl (k := 6) rfl (by rw [e17]; rfl) (by decide) rfl (fun ls hl => ?_)
        refine lv_goto (tgt := 20) hx hb dL_isLetter_84 (by decide) ?_
        exact ih _ _ _ _ _ h hM (lv_sub hl [3, 4, 5, 6, 1, 0] rfl)
set_option maxHeartbeats 4000000 in
set_option maxRecDepth 100000 in
theorem w_L_isLetter_L97 {p : Program} {l : Launch} {e : Env} {R : Room} {s : State} {m : MethodId} {args : Array Value} {below : List Frame} {meth : Method} {c : Code} {g : cz_G} {b : Nat} (X : cz_X p s m args meth c cL_isLetter 9 RL g b (some .boolean)) (hRf : 6 ≤ R.frames) (hRl : 141 ≤ R.locals) {r0 : Int32} {M9 : cz_M} {a0 : Nat} {x1 : Int32} {x2 : Int32} {x3 : Int32} {x4 : Int32} {M : cz_M} (ka0 : cz_K b a0 4)
    (K : Int32 → Int32 → Int32 → Option (Int32 × cz_M)) (hX : ∀ (x5 : Int32) (x6 : Int32) (x7 : Int32)  (H : Heap) (locs : List Loc) (ls : Array Slot), K x5 x6 x7 = some (r0, M9) → cz_WS g b M s H locs → lv_has ls 9 [(0, .ref a0), (1, .int x1), (2, .int x2), (3, .int x3), (4, .int x4), (5, .int x5), (6, .int x6), (7, .int x7)] → W p l e R s m args below meth c H locs 0 0 (MQ below (cz_Q g b (some (.int r0)) M9) args s 0 0 (cz_Ar b)) (F0 m 173 ls [])) :
    ∀ (n : Nat) (x5 : Int32) (x6 : Int32) (x7 : Int32)  (H : Heap) (locs : List Loc) (ls : Array Slot), cz_it3 (f_L_isLetter_L97 a0 x1 x2 x3 x4 M K) n x5 x6 x7 = some (r0, M9) → cz_WS g b M s H locs → lv_has ls 9 [(0, .ref a0), (1, .int x1), (2, .int x2), (3, .int x3), (4, .int x4), (5, .int x5), (6, .int x6), (7, .int x7)] → W p l e R s m args below meth c H locs 0 0 (MQ below (cz_Q g b (some (.int r0)) M9) args s 0 0 (cz_Ar b)) (F0 m 97 ls []) := by
  obtain ⟨hx, hb, -, ho, ht, -⟩ := id X
  intro n
  induction n with
  | zero => intro x5 x6 x7 H locs ls h; cases (show none = some _ from h)
  | succ n ih =>
    intro x5 x6 x7 H locs ls h hM hl
    have h : f_L_isLetter_L97 a0 x1 x2 x3 x4 M K (cz_it3 (f_L_isLetter_L97 a0 x1 x2 x3 x4 M K) n) x5 x6 x7 = some (r0, M9) := h
    rw [f_L_isLetter_L97] at h
    refine lv_iload hx hb dL_isLetter_97 (lv_at hl 7 rfl) ?_
    refine lv_iload_n hx hb dL_isLetter_99 rfl (lv_at hl 1 rfl) ?_
    refine lv_icmp_ge (tgt := 173) hx hb dL_isLetter_100 (by decide) (fun c20 => ?_) (fun c20 => ?_)
    · have h := cz_ite_t c20 h
      exact hX _ _ _ _ _ _ h hM (lv_sub hl [0, 1, 2, 3, 4, 5, 6, 7] rfl)
    · have h := cz_ite_f c20 h
      refine lv_aload_n hx hb dL_isLetter_103 rfl (lv_at hl 0 rfl) ?_
      refine lv_iload hx hb dL_isLetter_104 (lv_at hl 7 rfl) ?_
      refine lv_iconst (v := nI 0) hx hb dL_isLetter_106 (by decide) ?_
      obtain ⟨v21, hq, h⟩ := cz_bd_t h
      refine cz_runV (rest := []) (As := [.int x7, .int (nI 0)]) (T := TX4) (N0 := 8) X hM hl.1 (c_X4_letter (l := l) (g := g) (b := b) ka0 hq) mv_X4_letter rfl (by decide) ka0 ml_L_64 ⟨Nat.le_trans (Nat.le_of_ble_eq_true rfl) hRf, Nat.le_trans (Nat.le_of_ble_eq_true rfl) hRl⟩ rfl rfl (Nat.le_of_ble_eq_true rfl) dL_isLetter_107 (fun H locs hM => ?_)
      refine lv_aload_n hx hb dL_isLetter_110 rfl (lv_at hl 0 rfl) ?_
      refine lv_iload_n hx hb dL_isLetter_111 rfl (lv_at hl 1 rfl) ?_
      refine lv_iconst (v := nI 0) hx hb dL_isLetter_112 (by decide) ?_
      obtain ⟨v22, hq, h⟩ := cz_bd_t h
      refine cz_runV (rest := [.int v21]) (As := [.int x1, .int (nI 0)]) (T := TX4) (N0 := 8) X hM hl.1 (c_X4_letter (l := l) (g := g) (b := b) ka0 hq) mv_X4_letter rfl (by decide) ka0 ml_L_64 ⟨Nat.le_trans (Nat.le_of_ble_eq_true rfl) hRf, Nat.le_trans (Nat.le_of_ble_eq_true rfl) hRl⟩ rfl rfl (Nat.le_of_ble_eq_true rfl) dL_isLetter_113 (fun H locs hM => ?_)
      refine lv_icmp_ne (tgt := 123) hx hb dL_isLetter_116 (by decide) (fun c23 => ?_) (fun c23 => ?_)
      · have h := cz_ite_f c23 h
        refine lv_iconst (v := nI 0) hx hb dL_isLetter_123 (by decide) ?_
        refine lv_istore (lv' := [(8, .int (nI 0)), (0, .ref a0), (1, .int x1), (2, .int x2), (3, .int x3), (4, .int x4), (5, .int x5), (6, .int x6), (7, .int x7)]) hx hb dL_isLetter_124 hl (by decide) rfl (fun ls hl => ?_)
        refine lv_iload hx hb dL_isLetter_126 (lv_at hl 0 rfl) ?_
        refine lv_if_eq (tgt := 136) hx hb dL_isLetter_128 (by decide) (fun _ => ?_) (fun c24 => absurd (by decide) c24)
        refine lv_iload hx hb dL_isLetter_136 (lv_at hl 6 rfl) ?_
        refine lv_istore (lv' := [(5, .int x5), (8, .int (nI 0)), (0, .ref a0), (1, .int x1), (2, .int x2), (3, .int x3), (4, .int x4), (6, .int x6), (7, .int x7)]) hx hb dL_isLetter_138 hl (by decide) rfl (fun ls hl => ?_)
        refine lv_iload hx hb dL_isLetter_140 (lv_at hl 7 rfl) ?_
        refine lv_if_ne (tgt := 160) hx hb dL_isLetter_142 (by decide) (fun c25 => ?_) (fun c25 => ?_)
        · have h := cz_ite_f c25 h
          refine lv_iconst (v := nI 1) hx hb dL_isLetter_160 (by decide) ?_
          refine lv_goto (tgt := 165) hx hb dL_isLetter_161 (by decide) ?_
          refine lv_istore (lv' := [(6, .int (nI 1)), (5, .int x5), (8, .int (nI 0)), (0, .ref a0), (1, .int x1), (2, .int x2), (3, .int x3), (4, .int x4), (7, .int x7)]) hx hb dL_isLetter_165 hl (by decide) rfl (fun ls hl => ?_)
          refine cz_nmL (v := x7 + nI 1) h (fun v26 e27 h => ?_)
          refine lv_iinc (v := v26) (lv' := [(7, .int v26), (6, .int (nI 1)), (5, .int x5), (8, .int (nI 0)), (0, .ref a0), (1, .int x1), (2, .int x2), (3, .int x3), (4, .int x4)]) hx hb dL_isLetter_167 hl (k := 8) rfl (by rw [e27]; rfl) (by decide) rfl (fun ls hl => ?_)
          refine lv_goto (tgt := 97) hx hb dL_isLetter_170 (by decide) ?_
          exact ih _ _ _ _ _ _ h hM (lv_sub hl [4, 5, 6, 7, 8, 2, 1, 0] rfl)
        · have h := cz_ite_t c25 h
          refine lv_iload hx hb dL_isLetter_145 (lv_at hl 1 rfl) ?_
          refine lv_if_eq (tgt := 164) hx hb dL_isLetter_147 (by decide) (fun _ => ?_) (fun c28 => absurd (by decide) c28)
          refine lv_iconst (v := nI 0) hx hb dL_isLetter_164 (by decide) ?_
          refine lv_istore (lv' := [(6, .int (nI 0)), (5, .int x5), (8, .int (nI 0)), (0, .ref a0), (1, .int x1), (2, .int x2), (3, .int x3), (4, .int x4), (7, .int x7)]) hx hb dL_isLetter_165 hl (by decide) rfl (fun ls hl => ?_)
          refine cz_nmL (v := x7 + nI 1) h (fun v29 e30 h => ?_)
          refine lv_iinc (v := v29) (lv' := [(7, .int v29), (6, .int (nI 0)), (5, .int x5), (8, .int (nI 0)), (0, .ref a0), (1, .int x1), (2, .int x2), (3, .int x3), (4, .int x4)]) hx hb dL_isLetter_167 hl (k := 8) rfl (by rw [e30]; rfl) (by decide) rfl (fun ls hl => ?_)
          refine lv_goto (tgt := 97) hx hb dL_isLetter_170 (by decide) ?_
          exact ih _ _ _ _ _ _ h hM (lv_sub hl [4, 5, 6, 7, 8, 2, 1, 0] rfl)
      · have h := cz_ite_t c23 h
        refine lv_iconst (v := nI 1) hx hb dL_isLetter_119 (by decide) ?_
        refine lv_goto (tgt := 124) hx hb dL_isLetter_120 (by decide) ?_
        refine lv_istore (lv' := [(8, .int (nI 1)), (0, .ref a0), (1, .int x1), (2, .int x2), (3, .int x3), (4, .int x4), (5, .int x5), (6, .int x6), (7, .int x7)]) hx hb dL_isLetter_124 hl (by decide) rfl (fun ls hl => ?_)
        refine lv_iload hx hb dL_isLetter_126 (lv_at hl 0 rfl) ?_
        refine lv_if_eq (tgt := 136) hx hb dL_isLetter_128 (by decide) (fun c31 => absurd c31 (by decide)) (fun _ => ?_)
        refine lv_iload hx hb dL_isLetter_131 (lv_at hl 8 rfl) ?_
        refine lv_goto (tgt := 138) hx hb dL_isLetter_133 (by decide) ?_
        refine lv_istore (lv' := [(5, .int x7), (8, .int (nI 1)), (0, .ref a0), (1, .int x1), (2, .int x2), (3, .int x3), (4, .int x4), (6, .int x6), (7, .int x7)]) hx hb dL_isLetter_138 hl (by decide) rfl (fun ls hl => ?_)
        refine lv_iload hx hb dL_isLetter_140 (lv_at hl 7 rfl) ?_
        refine lv_if_ne (tgt := 160) hx hb dL_isLetter_142 (by decide) (fun c32 => ?_) (fun c32 => ?_)
        · have h := cz_ite_f c32 h
          refine lv_iconst (v := nI 1) hx hb dL_isLetter_160 (by decide) ?_
          refine lv_goto (tgt := 165) hx hb dL_isLetter_161 (by decide) ?_
          refine lv_istore (lv' := [(6, .int (nI 1)), (5, .int x7), (8, .int (nI 1)), (0, .ref a0), (1, .int x1), (2, .int x2), (3, .int x3), (4, .int x4), (7, .int x7)]) hx hb dL_isLetter_165 hl (by decide) rfl (fun ls hl => ?_)
          refine cz_nmL (v := x7 + nI 1) h (fun v33 e34 h => ?_)
          refine lv_iinc (v := v33) (lv' := [(7, .int v33), (6, .int (nI 1)), (5, .int x7), (8, .int (nI 1)), (0, .ref a0), (1, .int x1), (2, .int x2), (3, .int x3), (4, .int x4)]) hx hb dL_isLetter_167 hl (k := 8) rfl (by rw [e34]; rfl) (by decide) rfl (fun ls hl => ?_)
          refine lv_goto (tgt := 97) hx hb dL_isLetter_170 (by decide) ?_
          exact ih _ _ _ _ _ _ h hM (lv_sub hl [4, 5, 6, 7, 8, 2, 1, 0] rfl)
        · have h := cz_ite_t c32 h
          refine lv_iload hx hb dL_isLetter_145 (lv_at hl 1 rfl) ?_
          refine lv_if_eq (tgt := 164) hx hb dL_isLetter_147 (by decide) (fun c35 => absurd c35 (by decide)) (fun _ => ?_)
          refine lv_aload_n hx hb dL_isLetter_150 rfl (lv_at hl 2 rfl) ?_
          refine lv_iload hx hb dL_isLetter_151 (lv_at hl 8 rfl) ?_
          refine lv_iconst (v := nI 2) hx hb dL_isLetter_153 (by decide) ?_
          obtain ⟨v36, hq, h⟩ := cz_bd_t h
          refine cz_runV (rest := []) (As := [.int x7, .int (nI 2)]) (T := TX4) (N0 := 8) X hM hl.1 (c_X4_letter (l := l) (g := g) (b := b) ka0 hq) mv_X4_letter rfl (by decide) ka0 ml_L_64 ⟨Nat.le_trans (Nat.le_of_ble_eq_true rfl) hRf, Nat.le_trans (Nat.le_of_ble_eq_true rfl) hRl⟩ rfl rfl (Nat.le_of_ble_eq_true rfl) dL_isLetter_154 (fun H locs hM => ?_)
          refine lv_if_ne (tgt := 164) hx hb dL_isLetter_157 (by decide) (fun c37 => ?_) (fun c37 => ?_)
          · have h := cz_ite_f c37 h
            refine lv_iconst (v := nI 0) hx hb dL_isLetter_164 (by decide) ?_
            refine lv_istore (lv' := [(6, .int (nI 0)), (5, .int x7), (8, .int (nI 1)), (0, .ref a0), (1, .int x1), (2, .int x2), (3, .int x3), (4, .int x4), (7, .int x7)]) hx hb dL_isLetter_165 hl (by decide) rfl (fun ls hl => ?_)
            refine cz_nmL (v := x7 + nI 1) h (fun v38 e39 h => ?_)
            refine lv_iinc (v := v38) (lv' := [(7, .int v38), (6, .int (nI 0)), (5, .int x7), (8, .int (nI 1)), (0, .ref a0), (1, .int x1), (2, .int x2), (3, .int x3), (4, .int x4)]) hx hb dL_isLetter_167 hl (k := 8) rfl (by rw [e39]; rfl) (by decide) rfl (fun ls hl => ?_)
            refine lv_goto (tgt := 97) hx hb dL_isLetter_170 (by decide) ?_
            exact ih _ _ _ _ _ _ h hM (lv_sub hl [4, 5, 6, 7, 8, 2, 1, 0] rfl)
          · have h := cz_ite_t c37 h
            refine lv_iconst (v := nI 1) hx hb dL_isLetter_160 (by decide) ?_
            refine lv_goto (tgt := 165) hx hb dL_isLetter_161 (by decide) ?_
            refine lv_istore (lv' := [(6, .int (nI 1)), (5, .int x7), (8, .int (nI 1)), (0, .ref a0), (1, .int x1), (2, .int x2), (3, .int x3), (4, .int x4), (7, .int x7)]) hx hb dL_isLetter_165 hl (by decide) rfl (fun ls hl => ?_)
            refine cz_nmL (v := x7 + nI 1) h (fun v40 e41 h => ?_)
            refine lv_iinc (v := v40) (lv' := [(7, .int v40), (6, .int (nI 1)), (5, .int x7), (8, .int (nI 1)), (0, .ref a0), (1, .int x1), (2, .int x2), (3, .int x3), (4, .int x4)]) hx hb dL_isLetter_167 hl (k := 8) rfl (by rw [e41]; rfl) (by decide) rfl (fun ls hl => ?_)
            refine lv_goto (tgt := 97) hx hb dL_isLetter_170 (by decide) ?_
            exact ih _ _ _ _ _ _ h hM (lv_sub hl [4, 5, 6, 7, 8, 2, 1, 0] rfl)
set_option maxHeartbeats 4000000 in
set_option maxRecDepth 100000 in
theorem c_L_isLetter {l : Launch} {g : cz_G} {b : Nat} {M : cz_M} {r0 : Int32} {M9 : cz_M} {a0 : Nat} {x1 : Int32} (ka0 : cz_K b a0 4) (h : f_L_isLetter M a0 x1 = some (r0, M9)) : cz_C l yL_isLetter cL_isLetter 9 (some .boolean) 6 141 g b [.ref a0, .int x1] M (some (.int r0)) M9 := by
  refine cz_start (by decide) (Nat.le_of_ble_eq_true rfl) (fun p e s m args below meth c X H ls hM hl => ?_)
  have X : cz_X p s m args meth c cL_isLetter 9 RL g b (some .boolean) := X
  obtain ⟨hx, hb, -, ho, ht, -⟩ := id X
  have hRf : 6 ≤ ({ frames := 6, cells := 0, slots := 0, locals := 141 } : Room).frames := Nat.le_refl _
  have hRl : 141 ≤ ({ frames := 6, cells := 0, slots := 0, locals := 141 } : Room).locals := Nat.le_refl _
  have hl : lv_has ls 9 [(0, .ref a0), (1, .int x1)] := hl
  rw [f_L_isLetter] at h
  refine lv_aload_n hx hb dL_isLetter_0 rfl (lv_at hl 0 rfl) ?_
  refine lv_iload_n hx hb dL_isLetter_1 rfl (lv_at hl 1 rfl) ?_
  refine lv_iconst (v := nI 2) hx hb dL_isLetter_2 (by decide) ?_
  obtain ⟨v1, hq, h⟩ := cz_bd_t h
  refine cz_runV (rest := []) (As := [.int x1, .int (nI 2)]) (T := TX4) (N0 := 8) X hM hl.1 (c_X4_letter (l := l) (g := g) (b := b) ka0 hq) mv_X4_letter rfl (by decide) ka0 ml_L_64 ⟨Nat.le_trans (Nat.le_of_ble_eq_true rfl) hRf, Nat.le_trans (Nat.le_of_ble_eq_true rfl) hRl⟩ rfl rfl (Nat.le_of_ble_eq_true rfl) dL_isLetter_3 (fun H locs hM => ?_)
  by_cases c2 : v1 = (nI 0)
  · replace h := cz_ite_t c2 h
    subst c2
    refine lv_istore_n (lv' := [(2, .int (nI 0)), (0, .ref a0), (1, .int x1)]) hx hb dL_isLetter_6 rfl hl (by decide) rfl (fun ls hl => ?_)
    refine lv_aload_n hx hb dL_isLetter_7 rfl (lv_at hl 1 rfl) ?_
    refine lv_iload_n hx hb dL_isLetter_8 rfl (lv_at hl 2 rfl) ?_
    refine lv_iconst (v := nI 3) hx hb dL_isLetter_9 (by decide) ?_
    obtain ⟨v3, hq, h⟩ := cz_bd_t h
    refine cz_runV (rest := []) (As := [.int x1, .int (nI 3)]) (T := TX4) (N0 := 8) X hM hl.1 (c_X4_letter (l := l) (g := g) (b := b) ka0 hq) mv_X4_letter rfl (by decide) ka0 ml_L_64 ⟨Nat.le_trans (Nat.le_of_ble_eq_true rfl) hRf, Nat.le_trans (Nat.le_of_ble_eq_true rfl) hRl⟩ rfl rfl (Nat.le_of_ble_eq_true rfl) dL_isLetter_10 (fun H locs hM => ?_)
    refine lv_istore_n (lv' := [(3, .int v3), (2, .int (nI 0)), (0, .ref a0), (1, .int x1)]) hx hb dL_isLetter_13 rfl hl (by decide) rfl (fun ls hl => ?_)
    refine lv_iconst (v := nI 0) hx hb dL_isLetter_14 (by decide) ?_
    refine lv_istore (lv' := [(4, .int (nI 0)), (3, .int v3), (2, .int (nI 0)), (0, .ref a0), (1, .int x1)]) hx hb dL_isLetter_15 hl (by decide) rfl (fun ls hl => ?_)
    refine lv_iconst (v := nI 0) hx hb dL_isLetter_17 (by decide) ?_
    refine lv_istore (lv' := [(5, .int (nI 0)), (4, .int (nI 0)), (3, .int v3), (2, .int (nI 0)), (0, .ref a0), (1, .int x1)]) hx hb dL_isLetter_18 hl (by decide) rfl (fun ls hl => ?_)
    refine w_L_isLetter_L20 X hRf hRl ka0 _ (fun y18 y19 H locs ls h hM hl => ?_) _ _ _ _ _ _ h hM (lv_sub hl [4, 5, 3, 2, 1, 0] rfl)
    refine lv_bipush (v := -6) hx hb dL_isLetter_87 (by decide) ?_
    refine lv_istore (lv' := [(5, .int (-6 : Int32)), (0, .ref a0), (1, .int x1), (2, .int (nI 0)), (3, .int v3), (4, .int y18)]) hx hb dL_isLetter_89 hl (by decide) rfl (fun ls hl => ?_)
    refine lv_iconst (v := nI 0) hx hb dL_isLetter_91 (by decide) ?_
    refine lv_istore (lv' := [(6, .int (nI 0)), (5, .int (-6 : Int32)), (0, .ref a0), (1, .int x1), (2, .int (nI 0)), (3, .int v3), (4, .int y18)]) hx hb dL_isLetter_92 hl (by decide) rfl (fun ls hl => ?_)
    refine lv_iconst (v := nI 0) hx hb dL_isLetter_94 (by decide) ?_
    refine lv_istore (lv' := [(7, .int (nI 0)), (6, .int (nI 0)), (5, .int (-6 : Int32)), (0, .ref a0), (1, .int x1), (2, .int (nI 0)), (3, .int v3), (4, .int y18)]) hx hb dL_isLetter_95 hl (by decide) rfl (fun ls hl => ?_)
    refine w_L_isLetter_L97 X hRf hRl ka0 _ (fun y42 y43 y44 H locs ls h hM hl => ?_) _ _ _ _ _ _ _ h hM (lv_sub hl [3, 4, 5, 6, 7, 2, 1, 0] rfl)
    refine lv_aload_n hx hb dL_isLetter_173 rfl (lv_at hl 0 rfl) ?_
    refine lv_iload_n hx hb dL_isLetter_174 rfl (lv_at hl 1 rfl) ?_
    obtain ⟨v46, M45, hq, h⟩ := cz_b2_t h
    refine cz_runV (rest := []) (As := [.int x1]) (T := TX4) (N0 := 8) X hM hl.1 (c_X4_why (l := l) (g := g) (b := b) ka0 hq) mv_X4_why rfl (by decide) ka0 ml_L_58 ⟨Nat.le_trans (Nat.le_of_ble_eq_true rfl) hRf, Nat.le_trans (Nat.le_of_ble_eq_true rfl) hRl⟩ rfl rfl (Nat.le_of_ble_eq_true rfl) dL_isLetter_175 (fun H locs hM => ?_)
    refine lv_istore (lv' := [(7, .int v46), (0, .ref a0), (1, .int x1), (2, .int (nI 0)), (3, .int v3), (4, .int y18), (5, .int y42), (6, .int y43)]) hx hb dL_isLetter_178 hl (by decide) rfl (fun ls hl => ?_)
    refine lv_iload_n hx hb dL_isLetter_180 rfl (lv_at hl 3 rfl) ?_
    refine lv_if_ne (tgt := 188) hx hb dL_isLetter_181 (by decide) (fun c47 => absurd (by decide) c47) (fun _ => ?_)
    refine lv_iconst (v := nI 1) hx hb dL_isLetter_184 (by decide) ?_
    refine lv_goto (tgt := 189) hx hb dL_isLetter_185 (by decide) ?_
    refine lv_iload_n hx hb dL_isLetter_189 rfl (lv_at hl 4 rfl) ?_
    refine lv_if_lt (tgt := 197) hx hb dL_isLetter_190 (by decide) (fun c48 => ?_) (fun c48 => ?_)
    · have h := cz_ite_t c48 h
      refine lv_iconst (v := nI 0) hx hb dL_isLetter_197 (by decide) ?_
      refine lv_icmp_ne (tgt := 314) hx hb dL_isLetter_198 (by decide) (fun _ => ?_) (fun c49 => absurd c49 (by decide))
      refine lv_iconst (v := nI 0) hx hb dL_isLetter_314 (by decide) ?_
      cases h
    · have h := cz_ite_f c48 h
      refine lv_iconst (v := nI 1) hx hb dL_isLetter_193 (by decide) ?_
      refine lv_goto (tgt := 198) hx hb dL_isLetter_194 (by decide) ?_
      refine lv_icmp_ne (tgt := 314) hx hb dL_isLetter_198 (by decide) (fun c50 => absurd (by decide) c50) (fun _ => ?_)
      refine lv_iload_n hx hb dL_isLetter_201 rfl (lv_at hl 3 rfl) ?_
      refine lv_iconst (v := nI 1) hx hb dL_isLetter_202 (by decide) ?_
      refine lv_icmp_ne (tgt := 210) hx hb dL_isLetter_203 (by decide) (fun _ => ?_) (fun c51 => absurd c51 (by decide))
      refine lv_iconst (v := nI 0) hx hb dL_isLetter_210 (by decide) ?_
      refine lv_aload_n hx hb dL_isLetter_211 rfl (lv_at hl 1 rfl) ?_
      refine lv_iload_n hx hb dL_isLetter_212 rfl (lv_at hl 2 rfl) ?_
      refine lv_iconst (v := nI 5) hx hb dL_isLetter_213 (by decide) ?_
      obtain ⟨v52, hq, h⟩ := cz_bd_t h
      refine cz_runV (rest := [.int (nI 0)]) (As := [.int x1, .int (nI 5)]) (T := TX4) (N0 := 8) X hM hl.1 (c_X4_letter (l := l) (g := g) (b := b) ka0 hq) mv_X4_letter rfl (by decide) ka0 ml_L_64 ⟨Nat.le_trans (Nat.le_of_ble_eq_true rfl) hRf, Nat.le_trans (Nat.le_of_ble_eq_true rfl) hRl⟩ rfl rfl (Nat.le_of_ble_eq_true rfl) dL_isLetter_214 (fun H locs hM => ?_)
      refine lv_bipush (v := -6) hx hb dL_isLetter_217 (by decide) ?_
      refine lv_icmp_eq (tgt := 226) hx hb dL_isLetter_219 (by decide) (fun c53 => ?_) (fun c53 => ?_)
      · have h := cz_ite_t c53 h
        refine lv_iconst (v := nI 0) hx hb dL_isLetter_226 (by decide) ?_
        refine lv_icmp_ne (tgt := 314) hx hb dL_isLetter_227 (by decide) (fun c54 => absurd (by decide) c54) (fun _ => ?_)
        refine lv_iload_n hx hb dL_isLetter_230 rfl (lv_at hl 3 rfl) ?_
        refine lv_iconst (v := nI 1) hx hb dL_isLetter_231 (by decide) ?_
        refine lv_icmp_ne (tgt := 239) hx hb dL_isLetter_232 (by decide) (fun _ => ?_) (fun c55 => absurd c55 (by decide))
        refine lv_iconst (v := nI 0) hx hb dL_isLetter_239 (by decide) ?_
        refine lv_aload_n hx hb dL_isLetter_240 rfl (lv_at hl 1 rfl) ?_
        refine lv_iload_n hx hb dL_isLetter_241 rfl (lv_at hl 2 rfl) ?_
        refine lv_bipush (v := nI 8) hx hb dL_isLetter_242 (by decide) ?_
        obtain ⟨v56, hq, h⟩ := cz_bd_t h
        refine cz_runV (rest := [.int (nI 0)]) (As := [.int x1, .int (nI 8)]) (T := TX4) (N0 := 8) X hM hl.1 (c_X4_letter (l := l) (g := g) (b := b) ka0 hq) mv_X4_letter rfl (by decide) ka0 ml_L_64 ⟨Nat.le_trans (Nat.le_of_ble_eq_true rfl) hRf, Nat.le_trans (Nat.le_of_ble_eq_true rfl) hRl⟩ rfl rfl (Nat.le_of_ble_eq_true rfl) dL_isLetter_244 (fun H locs hM => ?_)
        refine lv_bipush (v := -6) hx hb dL_isLetter_247 (by decide) ?_
        refine lv_icmp_eq (tgt := 256) hx hb dL_isLetter_249 (by decide) (fun c57 => ?_) (fun c57 => ?_)
        · have h := cz_ite_t c57 h
          refine lv_iconst (v := nI 0) hx hb dL_isLetter_256 (by decide) ?_
          refine lv_icmp_ne (tgt := 314) hx hb dL_isLetter_257 (by decide) (fun c58 => absurd (by decide) c58) (fun _ => ?_)
          refine lv_iload hx hb dL_isLetter_260 (lv_at hl 5 rfl) ?_
          refine lv_aload_n hx hb dL_isLetter_262 rfl (lv_at hl 1 rfl) ?_
          refine lv_iload_n hx hb dL_isLetter_263 rfl (lv_at hl 2 rfl) ?_
          refine lv_bipush (v := nI 6) hx hb dL_isLetter_264 (by decide) ?_
          obtain ⟨v59, hq, h⟩ := cz_bd_t h
          refine cz_runV (rest := [.int y18]) (As := [.int x1, .int (nI 6)]) (T := TX4) (N0 := 8) X hM hl.1 (c_X4_letter (l := l) (g := g) (b := b) ka0 hq) mv_X4_letter rfl (by decide) ka0 ml_L_64 ⟨Nat.le_trans (Nat.le_of_ble_eq_true rfl) hRf, Nat.le_trans (Nat.le_of_ble_eq_true rfl) hRl⟩ rfl rfl (Nat.le_of_ble_eq_true rfl) dL_isLetter_266 (fun H locs hM => ?_)
          refine lv_icmp_ne (tgt := 314) hx hb dL_isLetter_269 (by decide) (fun c60 => ?_) (fun c60 => ?_)
          · have h := cz_ite_f c60 h
            refine lv_iconst (v := nI 0) hx hb dL_isLetter_314 (by decide) ?_
            cases h
          · have h := cz_ite_t c60 h
            refine lv_iload_n hx hb dL_isLetter_272 rfl (lv_at hl 3 rfl) ?_
            refine lv_iconst (v := nI 1) hx hb dL_isLetter_273 (by decide) ?_
            refine lv_icmp_eq (tgt := 282) hx hb dL_isLetter_274 (by decide) (fun c61 => absurd c61 (by decide)) (fun _ => ?_)
            refine lv_iload hx hb dL_isLetter_277 (lv_at hl 5 rfl) ?_
            refine lv_if_ne (tgt := 314) hx hb dL_isLetter_279 (by decide) (fun c62 => ?_) (fun c62 => ?_)
            · have h := cz_ite_f c62 h
              refine lv_iconst (v := nI 0) hx hb dL_isLetter_314 (by decide) ?_
              cases h
            · have h := cz_ite_t c62 h
              refine lv_aload_n hx hb dL_isLetter_282 rfl (lv_at hl 1 rfl) ?_
              refine lv_iload_n hx hb dL_isLetter_283 rfl (lv_at hl 2 rfl) ?_
              refine lv_bipush (v := nI 9) hx hb dL_isLetter_284 (by decide) ?_
              obtain ⟨v63, hq, h⟩ := cz_bd_t h
              refine cz_runV (rest := []) (As := [.int x1, .int (nI 9)]) (T := TX4) (N0 := 8) X hM hl.1 (c_X4_letter (l := l) (g := g) (b := b) ka0 hq) mv_X4_letter rfl (by decide) ka0 ml_L_64 ⟨Nat.le_trans (Nat.le_of_ble_eq_true rfl) hRf, Nat.le_trans (Nat.le_of_ble_eq_true rfl) hRl⟩ rfl rfl (Nat.le_of_ble_eq_true rfl) dL_isLetter_286 (fun H locs hM => ?_)
              refine lv_iload hx hb dL_isLetter_289 (lv_at hl 6 rfl) ?_
              refine lv_icmp_ne (tgt := 314) hx hb dL_isLetter_291 (by decide) (fun c64 => ?_) (fun c64 => ?_)
              · have h := cz_ite_f c64 h
                refine lv_iconst (v := nI 0) hx hb dL_isLetter_314 (by decide) ?_
                cases h
              · have h := cz_ite_t c64 h
                refine lv_aload_n hx hb dL_isLetter_294 rfl (lv_at hl 1 rfl) ?_
                refine lv_iload_n hx hb dL_isLetter_295 rfl (lv_at hl 2 rfl) ?_
                refine lv_aload_n hx hb dL_isLetter_296 rfl (lv_at hl 1 rfl) ?_
                refine lv_iload_n hx hb dL_isLetter_297 rfl (lv_at hl 2 rfl) ?_
                refine lv_bipush (v := nI 10) hx hb dL_isLetter_298 (by decide) ?_
                obtain ⟨v65, hq, h⟩ := cz_bd_t h
                refine cz_runV (rest := [.int x1, .ref a0]) (As := [.int x1, .int (nI 10)]) (T := TX4) (N0 := 8) X hM hl.1 (c_X4_letter (l := l) (g := g) (b := b) ka0 hq) mv_X4_letter rfl (by decide) ka0 ml_L_64 ⟨Nat.le_trans (Nat.le_of_ble_eq_true rfl) hRf, Nat.le_trans (Nat.le_of_ble_eq_true rfl) hRl⟩ rfl rfl (Nat.le_of_ble_eq_true rfl) dL_isLetter_300 (fun H locs hM => ?_)
                obtain ⟨v66, hq, h⟩ := cz_bd_t h
                refine cz_runV (rest := []) (As := [.int x1, .int v65]) (T := TX4) (N0 := 8) X hM hl.1 (c_X4_word (l := l) (g := g) (b := b) ka0 hq) mv_X4_word rfl (by decide) ka0 ml_L_67 ⟨Nat.le_trans (Nat.le_of_ble_eq_true rfl) hRf, Nat.le_trans (Nat.le_of_ble_eq_true rfl) hRl⟩ rfl rfl (Nat.le_of_ble_eq_true rfl) dL_isLetter_303 (fun H locs hM => ?_)
                refine lv_iconst (v := -1) hx hb dL_isLetter_306 (by decide) ?_
                refine lv_icmp_ne (tgt := 314) hx hb dL_isLetter_307 (by decide) (fun c67 => ?_) (fun c67 => ?_)
                · have h := cz_ite_f c67 h
                  refine lv_iconst (v := nI 0) hx hb dL_isLetter_314 (by decide) ?_
                  cases h
                · have h := cz_ite_t c67 h
                  refine lv_iconst (v := nI 1) hx hb dL_isLetter_310 (by decide) ?_
                  refine lv_goto (tgt := 315) hx hb dL_isLetter_311 (by decide) ?_
                  refine lv_istore (lv' := [(8, .int (nI 1)), (7, .int v46), (0, .ref a0), (1, .int x1), (2, .int (nI 0)), (3, .int v3), (4, .int y18), (5, .int y42), (6, .int y43)]) hx hb dL_isLetter_315 hl (by decide) rfl (fun ls hl => ?_)
                  refine lv_iload hx hb dL_isLetter_317 (lv_at hl 0 rfl) ?_
                  refine lv_if_eq (tgt := 405) hx hb dL_isLetter_319 (by decide) (fun c68 => absurd c68 (by decide)) (fun _ => ?_)
                  refine lv_iload hx hb dL_isLetter_322 (lv_at hl 1 rfl) ?_
                  refine lv_iconst (v := nI 1) hx hb dL_isLetter_324 (by decide) ?_
                  refine lv_icmp_ne (tgt := 332) hx hb dL_isLetter_325 (by decide) (fun c69 => ?_) (fun c69 => ?_)
                  · have h := cz_ite_f c69 h
                    refine lv_iconst (v := nI 0) hx hb dL_isLetter_332 (by decide) ?_
                    refine lv_iload_n hx hb dL_isLetter_333 rfl (lv_at hl 4 rfl) ?_
                    refine lv_if_eq (tgt := 341) hx hb dL_isLetter_334 (by decide) (fun _ => ?_) (fun c70 => absurd (by decide) c70)
                    refine lv_iconst (v := nI 0) hx hb dL_isLetter_341 (by decide) ?_
                    refine lv_icmp_ne (tgt := 405) hx hb dL_isLetter_342 (by decide) (fun c71 => absurd (by decide) c71) (fun _ => ?_)
                    refine lv_iload_n hx hb dL_isLetter_345 rfl (lv_at hl 4 rfl) ?_
                    refine lv_if_ne (tgt := 365) hx hb dL_isLetter_346 (by decide) (fun c72 => absurd (by decide) c72) (fun _ => ?_)
                    refine lv_iload hx hb dL_isLetter_349 (lv_at hl 1 rfl) ?_
                    refine lv_iconst (v := nI 2) hx hb dL_isLetter_351 (by decide) ?_
                    refine lv_icmp_ne (tgt := 359) hx hb dL_isLetter_352 (by decide) (fun c73 => ?_) (fun c73 => ?_)
                    · have h := cz_ite_f c73 h
                      refine lv_iconst (v := nI 0) hx hb dL_isLetter_359 (by decide) ?_
                      refine lv_iload hx hb dL_isLetter_360 (lv_at hl 8 rfl) ?_
                      refine lv_icmp_ne (tgt := 405) hx hb dL_isLetter_362 (by decide) (fun c74 => ?_) (fun c74 => ?_)
                      · have h := cz_ite_f c74 h
                        refine lv_iconst (v := nI 0) hx hb dL_isLetter_405 (by decide) ?_
                        cases h
                      · have h := cz_ite_t c74 h
                        refine lv_iload_n hx hb dL_isLetter_365 rfl (lv_at hl 4 rfl) ?_
                        refine lv_iconst (v := nI 1) hx hb dL_isLetter_366 (by decide) ?_
                        refine lv_icmp_ne (tgt := 401) hx hb dL_isLetter_367 (by decide) (fun _ => ?_) (fun c75 => absurd c75 (by decide))
                        refine lv_iconst (v := nI 1) hx hb dL_isLetter_401 (by decide) ?_
                        refine lv_goto (tgt := 406) hx hb dL_isLetter_402 (by decide) ?_
                        refine lv_istore (lv' := [(8, .int (nI 1)), (7, .int v46), (0, .ref a0), (1, .int x1), (2, .int (nI 0)), (3, .int v3), (4, .int y18), (5, .int y42), (6, .int y43)]) hx hb dL_isLetter_406 hl (by decide) rfl (fun ls hl => ?_)
                        refine lv_iload hx hb dL_isLetter_408 (lv_at hl 0 rfl) ?_
                        refine lv_if_eq (tgt := 449) hx hb dL_isLetter_410 (by decide) (fun c76 => absurd c76 (by decide)) (fun _ => ?_)
                        refine lv_iload_n hx hb dL_isLetter_413 rfl (lv_at hl 3 rfl) ?_
                        refine lv_iconst (v := nI 4) hx hb dL_isLetter_414 (by decide) ?_
                        refine lv_irem hx hb dL_isLetter_415 (by decide) ?_
                        refine lv_if_ne (tgt := 445) hx hb dL_isLetter_416 (by decide) (fun c77 => ?_) (fun c77 => ?_)
                        · have h := cz_ite_f c77 h
                          refine lv_iconst (v := nI 1) hx hb dL_isLetter_445 (by decide) ?_
                          refine lv_goto (tgt := 450) hx hb dL_isLetter_446 (by decide) ?_
                          exact cz_reti X hM h rfl dL_isLetter_450
                        · have h := cz_ite_t c77 h
                          refine lv_iload_n hx hb dL_isLetter_419 rfl (lv_at hl 4 rfl) ?_
                          refine lv_iconst (v := nI 1) hx hb dL_isLetter_420 (by decide) ?_
                          refine lv_icmp_ne (tgt := 428) hx hb dL_isLetter_421 (by decide) (fun _ => ?_) (fun c78 => absurd c78 (by decide))
                          refine lv_iconst (v := nI 0) hx hb dL_isLetter_428 (by decide) ?_
                          refine lv_aload_n hx hb dL_isLetter_429 rfl (lv_at hl 2 rfl) ?_
                          refine lv_iload_n hx hb dL_isLetter_430 rfl (lv_at hl 3 rfl) ?_
                          obtain ⟨v80, M79, hq, h⟩ := cz_b2_t h
                          refine cz_runV (rest := [.int (nI 0)]) (As := [.int x1]) (T := TX4) (N0 := 8) X hM hl.1 (c_X4_untilCome (l := l) (g := g) (b := b) ka0 hq) mv_X4_untilCome rfl (by decide) ka0 ml_L_55 ⟨Nat.le_trans (Nat.le_of_ble_eq_true rfl) hRf, Nat.le_trans (Nat.le_of_ble_eq_true rfl) hRl⟩ rfl rfl (Nat.le_of_ble_eq_true rfl) dL_isLetter_431 (fun H locs hM => ?_)
                          refine lv_if_ne (tgt := 441) hx hb dL_isLetter_434 (by decide) (fun c81 => ?_) (fun c81 => ?_)
                          · have h := cz_ite_f c81 h
                            refine lv_iconst (v := nI 0) hx hb dL_isLetter_441 (by decide) ?_
                            refine lv_icmp_ne (tgt := 449) hx hb dL_isLetter_442 (by decide) (fun c82 => absurd (by decide) c82) (fun _ => ?_)
                            refine lv_iconst (v := nI 1) hx hb dL_isLetter_445 (by decide) ?_
                            refine lv_goto (tgt := 450) hx hb dL_isLetter_446 (by decide) ?_
                            exact cz_reti X hM h rfl dL_isLetter_450
                          · have h := cz_ite_t c81 h
                            refine lv_iconst (v := nI 1) hx hb dL_isLetter_437 (by decide) ?_
                            refine lv_goto (tgt := 442) hx hb dL_isLetter_438 (by decide) ?_
                            refine lv_icmp_ne (tgt := 449) hx hb dL_isLetter_442 (by decide) (fun _ => ?_) (fun c83 => absurd c83 (by decide))
                            refine lv_iconst (v := nI 0) hx hb dL_isLetter_449 (by decide) ?_
                            cases h
                    · have h := cz_ite_t c73 h
                      refine lv_iconst (v := nI 1) hx hb dL_isLetter_355 (by decide) ?_
                      refine lv_goto (tgt := 360) hx hb dL_isLetter_356 (by decide) ?_
                      refine lv_iload hx hb dL_isLetter_360 (lv_at hl 8 rfl) ?_
                      refine lv_icmp_ne (tgt := 405) hx hb dL_isLetter_362 (by decide) (fun c84 => ?_) (fun c84 => ?_)
                      · have h := cz_ite_f c84 h
                        refine lv_iconst (v := nI 0) hx hb dL_isLetter_405 (by decide) ?_
                        cases h
                      · have h := cz_ite_t c84 h
                        refine lv_iload_n hx hb dL_isLetter_365 rfl (lv_at hl 4 rfl) ?_
                        refine lv_iconst (v := nI 1) hx hb dL_isLetter_366 (by decide) ?_
                        refine lv_icmp_ne (tgt := 401) hx hb dL_isLetter_367 (by decide) (fun _ => ?_) (fun c85 => absurd c85 (by decide))
                        refine lv_iconst (v := nI 1) hx hb dL_isLetter_401 (by decide) ?_
                        refine lv_goto (tgt := 406) hx hb dL_isLetter_402 (by decide) ?_
                        refine lv_istore (lv' := [(8, .int (nI 1)), (7, .int v46), (0, .ref a0), (1, .int x1), (2, .int (nI 0)), (3, .int v3), (4, .int y18), (5, .int y42), (6, .int y43)]) hx hb dL_isLetter_406 hl (by decide) rfl (fun ls hl => ?_)
                        refine lv_iload hx hb dL_isLetter_408 (lv_at hl 0 rfl) ?_
                        refine lv_if_eq (tgt := 449) hx hb dL_isLetter_410 (by decide) (fun c86 => absurd c86 (by decide)) (fun _ => ?_)
                        refine lv_iload_n hx hb dL_isLetter_413 rfl (lv_at hl 3 rfl) ?_
                        refine lv_iconst (v := nI 4) hx hb dL_isLetter_414 (by decide) ?_
                        refine lv_irem hx hb dL_isLetter_415 (by decide) ?_
                        refine lv_if_ne (tgt := 445) hx hb dL_isLetter_416 (by decide) (fun c87 => ?_) (fun c87 => ?_)
                        · have h := cz_ite_f c87 h
                          refine lv_iconst (v := nI 1) hx hb dL_isLetter_445 (by decide) ?_
                          refine lv_goto (tgt := 450) hx hb dL_isLetter_446 (by decide) ?_
                          exact cz_reti X hM h rfl dL_isLetter_450
                        · have h := cz_ite_t c87 h
                          refine lv_iload_n hx hb dL_isLetter_419 rfl (lv_at hl 4 rfl) ?_
                          refine lv_iconst (v := nI 1) hx hb dL_isLetter_420 (by decide) ?_
                          refine lv_icmp_ne (tgt := 428) hx hb dL_isLetter_421 (by decide) (fun _ => ?_) (fun c88 => absurd c88 (by decide))
                          refine lv_iconst (v := nI 0) hx hb dL_isLetter_428 (by decide) ?_
                          refine lv_aload_n hx hb dL_isLetter_429 rfl (lv_at hl 2 rfl) ?_
                          refine lv_iload_n hx hb dL_isLetter_430 rfl (lv_at hl 3 rfl) ?_
                          obtain ⟨v90, M89, hq, h⟩ := cz_b2_t h
                          refine cz_runV (rest := [.int (nI 0)]) (As := [.int x1]) (T := TX4) (N0 := 8) X hM hl.1 (c_X4_untilCome (l := l) (g := g) (b := b) ka0 hq) mv_X4_untilCome rfl (by decide) ka0 ml_L_55 ⟨Nat.le_trans (Nat.le_of_ble_eq_true rfl) hRf, Nat.le_trans (Nat.le_of_ble_eq_true rfl) hRl⟩ rfl rfl (Nat.le_of_ble_eq_true rfl) dL_isLetter_431 (fun H locs hM => ?_)
                          refine lv_if_ne (tgt := 441) hx hb dL_isLetter_434 (by decide) (fun c91 => ?_) (fun c91 => ?_)
                          · have h := cz_ite_f c91 h
                            refine lv_iconst (v := nI 0) hx hb dL_isLetter_441 (by decide) ?_
                            refine lv_icmp_ne (tgt := 449) hx hb dL_isLetter_442 (by decide) (fun c92 => absurd (by decide) c92) (fun _ => ?_)
                            refine lv_iconst (v := nI 1) hx hb dL_isLetter_445 (by decide) ?_
                            refine lv_goto (tgt := 450) hx hb dL_isLetter_446 (by decide) ?_
                            exact cz_reti X hM h rfl dL_isLetter_450
                          · have h := cz_ite_t c91 h
                            refine lv_iconst (v := nI 1) hx hb dL_isLetter_437 (by decide) ?_
                            refine lv_goto (tgt := 442) hx hb dL_isLetter_438 (by decide) ?_
                            refine lv_icmp_ne (tgt := 449) hx hb dL_isLetter_442 (by decide) (fun _ => ?_) (fun c93 => absurd c93 (by decide))
                            refine lv_iconst (v := nI 0) hx hb dL_isLetter_449 (by decide) ?_
                            cases h
                  · have h := cz_ite_t c69 h
                    refine lv_iconst (v := nI 1) hx hb dL_isLetter_328 (by decide) ?_
                    refine lv_goto (tgt := 333) hx hb dL_isLetter_329 (by decide) ?_
                    refine lv_iload_n hx hb dL_isLetter_333 rfl (lv_at hl 4 rfl) ?_
                    refine lv_if_eq (tgt := 341) hx hb dL_isLetter_334 (by decide) (fun _ => ?_) (fun c94 => absurd (by decide) c94)
                    refine lv_iconst (v := nI 0) hx hb dL_isLetter_341 (by decide) ?_
                    refine lv_icmp_ne (tgt := 405) hx hb dL_isLetter_342 (by decide) (fun _ => ?_) (fun c95 => absurd c95 (by decide))
                    refine lv_iconst (v := nI 0) hx hb dL_isLetter_405 (by decide) ?_
                    cases h
        · have h := cz_ite_f c57 h
          refine lv_iconst (v := nI 1) hx hb dL_isLetter_252 (by decide) ?_
          refine lv_goto (tgt := 257) hx hb dL_isLetter_253 (by decide) ?_
          refine lv_icmp_ne (tgt := 314) hx hb dL_isLetter_257 (by decide) (fun _ => ?_) (fun c96 => absurd c96 (by decide))
          refine lv_iconst (v := nI 0) hx hb dL_isLetter_314 (by decide) ?_
          cases h
      · have h := cz_ite_f c53 h
        refine lv_iconst (v := nI 1) hx hb dL_isLetter_222 (by decide) ?_
        refine lv_goto (tgt := 227) hx hb dL_isLetter_223 (by decide) ?_
        refine lv_icmp_ne (tgt := 314) hx hb dL_isLetter_227 (by decide) (fun _ => ?_) (fun c97 => absurd c97 (by decide))
        refine lv_iconst (v := nI 0) hx hb dL_isLetter_314 (by decide) ?_
        cases h
  replace h := cz_ite_f c2 h
  by_cases c98 : v1 = (nI 1)
  · replace h := cz_ite_t c98 h
    subst c98
    refine lv_istore_n (lv' := [(2, .int (nI 1)), (0, .ref a0), (1, .int x1)]) hx hb dL_isLetter_6 rfl hl (by decide) rfl (fun ls hl => ?_)
    refine lv_aload_n hx hb dL_isLetter_7 rfl (lv_at hl 1 rfl) ?_
    refine lv_iload_n hx hb dL_isLetter_8 rfl (lv_at hl 2 rfl) ?_
    refine lv_iconst (v := nI 3) hx hb dL_isLetter_9 (by decide) ?_
    obtain ⟨v99, hq, h⟩ := cz_bd_t h
    refine cz_runV (rest := []) (As := [.int x1, .int (nI 3)]) (T := TX4) (N0 := 8) X hM hl.1 (c_X4_letter (l := l) (g := g) (b := b) ka0 hq) mv_X4_letter rfl (by decide) ka0 ml_L_64 ⟨Nat.le_trans (Nat.le_of_ble_eq_true rfl) hRf, Nat.le_trans (Nat.le_of_ble_eq_true rfl) hRl⟩ rfl rfl (Nat.le_of_ble_eq_true rfl) dL_isLetter_10 (fun H locs hM => ?_)
    refine lv_istore_n (lv' := [(3, .int v99), (2, .int (nI 1)), (0, .ref a0), (1, .int x1)]) hx hb dL_isLetter_13 rfl hl (by decide) rfl (fun ls hl => ?_)
    refine lv_iconst (v := nI 0) hx hb dL_isLetter_14 (by decide) ?_
    refine lv_istore (lv' := [(4, .int (nI 0)), (3, .int v99), (2, .int (nI 1)), (0, .ref a0), (1, .int x1)]) hx hb dL_isLetter_15 hl (by decide) rfl (fun ls hl => ?_)
    refine lv_iconst (v := nI 0) hx hb dL_isLetter_17 (by decide) ?_
    refine lv_istore (lv' := [(5, .int (nI 0)), (4, .int (nI 0)), (3, .int v99), (2, .int (nI 1)), (0, .ref a0), (1, .int x1)]) hx hb dL_isLetter_18 hl (by decide) rfl (fun ls hl => ?_)
    refine w_L_isLetter_L20 X hRf hRl ka0 _ (fun y100 y101 H locs ls h hM hl => ?_) _ _ _ _ _ _ h hM (lv_sub hl [4, 5, 3, 2, 1, 0] rfl)
    refine lv_bipush (v := -6) hx hb dL_isLetter_87 (by decide) ?_
    refine lv_istore (lv' := [(5, .int (-6 : Int32)), (0, .ref a0), (1, .int x1), (2, .int (nI 1)), (3, .int v99), (4, .int y100)]) hx hb dL_isLetter_89 hl (by decide) rfl (fun ls hl => ?_)
    refine lv_iconst (v := nI 0) hx hb dL_isLetter_91 (by decide) ?_
    refine lv_istore (lv' := [(6, .int (nI 0)), (5, .int (-6 : Int32)), (0, .ref a0), (1, .int x1), (2, .int (nI 1)), (3, .int v99), (4, .int y100)]) hx hb dL_isLetter_92 hl (by decide) rfl (fun ls hl => ?_)
    refine lv_iconst (v := nI 0) hx hb dL_isLetter_94 (by decide) ?_
    refine lv_istore (lv' := [(7, .int (nI 0)), (6, .int (nI 0)), (5, .int (-6 : Int32)), (0, .ref a0), (1, .int x1), (2, .int (nI 1)), (3, .int v99), (4, .int y100)]) hx hb dL_isLetter_95 hl (by decide) rfl (fun ls hl => ?_)
    refine w_L_isLetter_L97 X hRf hRl ka0 _ (fun y102 y103 y104 H locs ls h hM hl => ?_) _ _ _ _ _ _ _ h hM (lv_sub hl [3, 4, 5, 6, 7, 2, 1, 0] rfl)
    refine lv_aload_n hx hb dL_isLetter_173 rfl (lv_at hl 0 rfl) ?_
    refine lv_iload_n hx hb dL_isLetter_174 rfl (lv_at hl 1 rfl) ?_
    obtain ⟨v106, M105, hq, h⟩ := cz_b2_t h
    refine cz_runV (rest := []) (As := [.int x1]) (T := TX4) (N0 := 8) X hM hl.1 (c_X4_why (l := l) (g := g) (b := b) ka0 hq) mv_X4_why rfl (by decide) ka0 ml_L_58 ⟨Nat.le_trans (Nat.le_of_ble_eq_true rfl) hRf, Nat.le_trans (Nat.le_of_ble_eq_true rfl) hRl⟩ rfl rfl (Nat.le_of_ble_eq_true rfl) dL_isLetter_175 (fun H locs hM => ?_)
    refine lv_istore (lv' := [(7, .int v106), (0, .ref a0), (1, .int x1), (2, .int (nI 1)), (3, .int v99), (4, .int y100), (5, .int y102), (6, .int y103)]) hx hb dL_isLetter_178 hl (by decide) rfl (fun ls hl => ?_)
    refine lv_iload_n hx hb dL_isLetter_180 rfl (lv_at hl 3 rfl) ?_
    refine lv_if_ne (tgt := 188) hx hb dL_isLetter_181 (by decide) (fun _ => ?_) (fun c107 => absurd c107 (by decide))
    refine lv_iconst (v := nI 0) hx hb dL_isLetter_188 (by decide) ?_
    refine lv_iload_n hx hb dL_isLetter_189 rfl (lv_at hl 4 rfl) ?_
    refine lv_if_lt (tgt := 197) hx hb dL_isLetter_190 (by decide) (fun c108 => ?_) (fun c108 => ?_)
    · have h := cz_ite_t c108 h
      refine lv_iconst (v := nI 0) hx hb dL_isLetter_197 (by decide) ?_
      refine lv_icmp_ne (tgt := 314) hx hb dL_isLetter_198 (by decide) (fun c109 => absurd (by decide) c109) (fun _ => ?_)
      refine lv_iload_n hx hb dL_isLetter_201 rfl (lv_at hl 3 rfl) ?_
      refine lv_iconst (v := nI 1) hx hb dL_isLetter_202 (by decide) ?_
      refine lv_icmp_ne (tgt := 210) hx hb dL_isLetter_203 (by decide) (fun c110 => absurd (by decide) c110) (fun _ => ?_)
      refine lv_iconst (v := nI 1) hx hb dL_isLetter_206 (by decide) ?_
      refine lv_goto (tgt := 211) hx hb dL_isLetter_207 (by decide) ?_
      refine lv_aload_n hx hb dL_isLetter_211 rfl (lv_at hl 1 rfl) ?_
      refine lv_iload_n hx hb dL_isLetter_212 rfl (lv_at hl 2 rfl) ?_
      refine lv_iconst (v := nI 5) hx hb dL_isLetter_213 (by decide) ?_
      obtain ⟨v111, hq, h⟩ := cz_bd_t h
      refine cz_runV (rest := [.int (nI 1)]) (As := [.int x1, .int (nI 5)]) (T := TX4) (N0 := 8) X hM hl.1 (c_X4_letter (l := l) (g := g) (b := b) ka0 hq) mv_X4_letter rfl (by decide) ka0 ml_L_64 ⟨Nat.le_trans (Nat.le_of_ble_eq_true rfl) hRf, Nat.le_trans (Nat.le_of_ble_eq_true rfl) hRl⟩ rfl rfl (Nat.le_of_ble_eq_true rfl) dL_isLetter_214 (fun H locs hM => ?_)
      refine lv_bipush (v := -6) hx hb dL_isLetter_217 (by decide) ?_
      refine lv_icmp_eq (tgt := 226) hx hb dL_isLetter_219 (by decide) (fun c112 => ?_) (fun c112 => ?_)
      · have h := cz_ite_t c112 h
        refine lv_iconst (v := nI 0) hx hb dL_isLetter_226 (by decide) ?_
        refine lv_icmp_ne (tgt := 314) hx hb dL_isLetter_227 (by decide) (fun _ => ?_) (fun c113 => absurd c113 (by decide))
        refine lv_iconst (v := nI 0) hx hb dL_isLetter_314 (by decide) ?_
        cases h
      · have h := cz_ite_f c112 h
        refine lv_iconst (v := nI 1) hx hb dL_isLetter_222 (by decide) ?_
        refine lv_goto (tgt := 227) hx hb dL_isLetter_223 (by decide) ?_
        refine lv_icmp_ne (tgt := 314) hx hb dL_isLetter_227 (by decide) (fun c114 => absurd (by decide) c114) (fun _ => ?_)
        refine lv_iload_n hx hb dL_isLetter_230 rfl (lv_at hl 3 rfl) ?_
        refine lv_iconst (v := nI 1) hx hb dL_isLetter_231 (by decide) ?_
        refine lv_icmp_ne (tgt := 239) hx hb dL_isLetter_232 (by decide) (fun c115 => absurd (by decide) c115) (fun _ => ?_)
        refine lv_iconst (v := nI 1) hx hb dL_isLetter_235 (by decide) ?_
        refine lv_goto (tgt := 240) hx hb dL_isLetter_236 (by decide) ?_
        refine lv_aload_n hx hb dL_isLetter_240 rfl (lv_at hl 1 rfl) ?_
        refine lv_iload_n hx hb dL_isLetter_241 rfl (lv_at hl 2 rfl) ?_
        refine lv_bipush (v := nI 8) hx hb dL_isLetter_242 (by decide) ?_
        obtain ⟨v116, hq, h⟩ := cz_bd_t h
        refine cz_runV (rest := [.int (nI 1)]) (As := [.int x1, .int (nI 8)]) (T := TX4) (N0 := 8) X hM hl.1 (c_X4_letter (l := l) (g := g) (b := b) ka0 hq) mv_X4_letter rfl (by decide) ka0 ml_L_64 ⟨Nat.le_trans (Nat.le_of_ble_eq_true rfl) hRf, Nat.le_trans (Nat.le_of_ble_eq_true rfl) hRl⟩ rfl rfl (Nat.le_of_ble_eq_true rfl) dL_isLetter_244 (fun H locs hM => ?_)
        refine lv_bipush (v := -6) hx hb dL_isLetter_247 (by decide) ?_
        refine lv_icmp_eq (tgt := 256) hx hb dL_isLetter_249 (by decide) (fun c117 => ?_) (fun c117 => ?_)
        · have h := cz_ite_t c117 h
          refine lv_iconst (v := nI 0) hx hb dL_isLetter_256 (by decide) ?_
          refine lv_icmp_ne (tgt := 314) hx hb dL_isLetter_257 (by decide) (fun _ => ?_) (fun c118 => absurd c118 (by decide))
          refine lv_iconst (v := nI 0) hx hb dL_isLetter_314 (by decide) ?_
          cases h
        · have h := cz_ite_f c117 h
          refine lv_iconst (v := nI 1) hx hb dL_isLetter_252 (by decide) ?_
          refine lv_goto (tgt := 257) hx hb dL_isLetter_253 (by decide) ?_
          refine lv_icmp_ne (tgt := 314) hx hb dL_isLetter_257 (by decide) (fun c119 => absurd (by decide) c119) (fun _ => ?_)
          refine lv_iload hx hb dL_isLetter_260 (lv_at hl 5 rfl) ?_
          refine lv_aload_n hx hb dL_isLetter_262 rfl (lv_at hl 1 rfl) ?_
          refine lv_iload_n hx hb dL_isLetter_263 rfl (lv_at hl 2 rfl) ?_
          refine lv_bipush (v := nI 6) hx hb dL_isLetter_264 (by decide) ?_
          obtain ⟨v120, hq, h⟩ := cz_bd_t h
          refine cz_runV (rest := [.int y100]) (As := [.int x1, .int (nI 6)]) (T := TX4) (N0 := 8) X hM hl.1 (c_X4_letter (l := l) (g := g) (b := b) ka0 hq) mv_X4_letter rfl (by decide) ka0 ml_L_64 ⟨Nat.le_trans (Nat.le_of_ble_eq_true rfl) hRf, Nat.le_trans (Nat.le_of_ble_eq_true rfl) hRl⟩ rfl rfl (Nat.le_of_ble_eq_true rfl) dL_isLetter_266 (fun H locs hM => ?_)
          refine lv_icmp_ne (tgt := 314) hx hb dL_isLetter_269 (by decide) (fun c121 => ?_) (fun c121 => ?_)
          · have h := cz_ite_f c121 h
            refine lv_iconst (v := nI 0) hx hb dL_isLetter_314 (by decide) ?_
            cases h
          · have h := cz_ite_t c121 h
            refine lv_iload_n hx hb dL_isLetter_272 rfl (lv_at hl 3 rfl) ?_
            refine lv_iconst (v := nI 1) hx hb dL_isLetter_273 (by decide) ?_
            refine lv_icmp_eq (tgt := 282) hx hb dL_isLetter_274 (by decide) (fun _ => ?_) (fun c122 => absurd (by decide) c122)
            refine lv_aload_n hx hb dL_isLetter_282 rfl (lv_at hl 1 rfl) ?_
            refine lv_iload_n hx hb dL_isLetter_283 rfl (lv_at hl 2 rfl) ?_
            refine lv_bipush (v := nI 9) hx hb dL_isLetter_284 (by decide) ?_
            obtain ⟨v123, hq, h⟩ := cz_bd_t h
            refine cz_runV (rest := []) (As := [.int x1, .int (nI 9)]) (T := TX4) (N0 := 8) X hM hl.1 (c_X4_letter (l := l) (g := g) (b := b) ka0 hq) mv_X4_letter rfl (by decide) ka0 ml_L_64 ⟨Nat.le_trans (Nat.le_of_ble_eq_true rfl) hRf, Nat.le_trans (Nat.le_of_ble_eq_true rfl) hRl⟩ rfl rfl (Nat.le_of_ble_eq_true rfl) dL_isLetter_286 (fun H locs hM => ?_)
            refine lv_iload hx hb dL_isLetter_289 (lv_at hl 6 rfl) ?_
            refine lv_icmp_ne (tgt := 314) hx hb dL_isLetter_291 (by decide) (fun c124 => ?_) (fun c124 => ?_)
            · have h := cz_ite_f c124 h
              refine lv_iconst (v := nI 0) hx hb dL_isLetter_314 (by decide) ?_
              cases h
            · have h := cz_ite_t c124 h
              refine lv_aload_n hx hb dL_isLetter_294 rfl (lv_at hl 1 rfl) ?_
              refine lv_iload_n hx hb dL_isLetter_295 rfl (lv_at hl 2 rfl) ?_
              refine lv_aload_n hx hb dL_isLetter_296 rfl (lv_at hl 1 rfl) ?_
              refine lv_iload_n hx hb dL_isLetter_297 rfl (lv_at hl 2 rfl) ?_
              refine lv_bipush (v := nI 10) hx hb dL_isLetter_298 (by decide) ?_
              obtain ⟨v125, hq, h⟩ := cz_bd_t h
              refine cz_runV (rest := [.int x1, .ref a0]) (As := [.int x1, .int (nI 10)]) (T := TX4) (N0 := 8) X hM hl.1 (c_X4_letter (l := l) (g := g) (b := b) ka0 hq) mv_X4_letter rfl (by decide) ka0 ml_L_64 ⟨Nat.le_trans (Nat.le_of_ble_eq_true rfl) hRf, Nat.le_trans (Nat.le_of_ble_eq_true rfl) hRl⟩ rfl rfl (Nat.le_of_ble_eq_true rfl) dL_isLetter_300 (fun H locs hM => ?_)
              obtain ⟨v126, hq, h⟩ := cz_bd_t h
              refine cz_runV (rest := []) (As := [.int x1, .int v125]) (T := TX4) (N0 := 8) X hM hl.1 (c_X4_word (l := l) (g := g) (b := b) ka0 hq) mv_X4_word rfl (by decide) ka0 ml_L_67 ⟨Nat.le_trans (Nat.le_of_ble_eq_true rfl) hRf, Nat.le_trans (Nat.le_of_ble_eq_true rfl) hRl⟩ rfl rfl (Nat.le_of_ble_eq_true rfl) dL_isLetter_303 (fun H locs hM => ?_)
              refine lv_iconst (v := -1) hx hb dL_isLetter_306 (by decide) ?_
              refine lv_icmp_ne (tgt := 314) hx hb dL_isLetter_307 (by decide) (fun c127 => ?_) (fun c127 => ?_)
              · have h := cz_ite_f c127 h
                refine lv_iconst (v := nI 0) hx hb dL_isLetter_314 (by decide) ?_
                cases h
              · have h := cz_ite_t c127 h
                refine lv_iconst (v := nI 1) hx hb dL_isLetter_310 (by decide) ?_
                refine lv_goto (tgt := 315) hx hb dL_isLetter_311 (by decide) ?_
                refine lv_istore (lv' := [(8, .int (nI 1)), (7, .int v106), (0, .ref a0), (1, .int x1), (2, .int (nI 1)), (3, .int v99), (4, .int y100), (5, .int y102), (6, .int y103)]) hx hb dL_isLetter_315 hl (by decide) rfl (fun ls hl => ?_)
                refine lv_iload hx hb dL_isLetter_317 (lv_at hl 0 rfl) ?_
                refine lv_if_eq (tgt := 405) hx hb dL_isLetter_319 (by decide) (fun c128 => absurd c128 (by decide)) (fun _ => ?_)
                refine lv_iload hx hb dL_isLetter_322 (lv_at hl 1 rfl) ?_
                refine lv_iconst (v := nI 1) hx hb dL_isLetter_324 (by decide) ?_
                refine lv_icmp_ne (tgt := 332) hx hb dL_isLetter_325 (by decide) (fun c129 => ?_) (fun c129 => ?_)
                · have h := cz_ite_f c129 h
                  refine lv_iconst (v := nI 0) hx hb dL_isLetter_332 (by decide) ?_
                  refine lv_iload_n hx hb dL_isLetter_333 rfl (lv_at hl 4 rfl) ?_
                  refine lv_if_eq (tgt := 341) hx hb dL_isLetter_334 (by decide) (fun c130 => absurd c130 (by decide)) (fun _ => ?_)
                  refine lv_iconst (v := nI 1) hx hb dL_isLetter_337 (by decide) ?_
                  refine lv_goto (tgt := 342) hx hb dL_isLetter_338 (by decide) ?_
                  refine lv_icmp_ne (tgt := 405) hx hb dL_isLetter_342 (by decide) (fun _ => ?_) (fun c131 => absurd c131 (by decide))
                  refine lv_iconst (v := nI 0) hx hb dL_isLetter_405 (by decide) ?_
                  cases h
                · have h := cz_ite_t c129 h
                  refine lv_iconst (v := nI 1) hx hb dL_isLetter_328 (by decide) ?_
                  refine lv_goto (tgt := 333) hx hb dL_isLetter_329 (by decide) ?_
                  refine lv_iload_n hx hb dL_isLetter_333 rfl (lv_at hl 4 rfl) ?_
                  refine lv_if_eq (tgt := 341) hx hb dL_isLetter_334 (by decide) (fun c132 => absurd c132 (by decide)) (fun _ => ?_)
                  refine lv_iconst (v := nI 1) hx hb dL_isLetter_337 (by decide) ?_
                  refine lv_goto (tgt := 342) hx hb dL_isLetter_338 (by decide) ?_
                  refine lv_icmp_ne (tgt := 405) hx hb dL_isLetter_342 (by decide) (fun c133 => absurd (by decide) c133) (fun _ => ?_)
                  refine lv_iload_n hx hb dL_isLetter_345 rfl (lv_at hl 4 rfl) ?_
                  refine lv_if_ne (tgt := 365) hx hb dL_isLetter_346 (by decide) (fun _ => ?_) (fun c134 => absurd c134 (by decide))
                  refine lv_iload_n hx hb dL_isLetter_365 rfl (lv_at hl 4 rfl) ?_
                  refine lv_iconst (v := nI 1) hx hb dL_isLetter_366 (by decide) ?_
                  refine lv_icmp_ne (tgt := 401) hx hb dL_isLetter_367 (by decide) (fun c135 => absurd (by decide) c135) (fun _ => ?_)
                  refine lv_aload_n hx hb dL_isLetter_370 rfl (lv_at hl 2 rfl) ?_
                  refine lv_iload_n hx hb dL_isLetter_371 rfl (lv_at hl 3 rfl) ?_
                  refine lv_iconst (v := nI 5) hx hb dL_isLetter_372 (by decide) ?_
                  obtain ⟨v136, hq, h⟩ := cz_bd_t h
                  refine cz_runV (rest := []) (As := [.int x1, .int (nI 5)]) (T := TX4) (N0 := 8) X hM hl.1 (c_X4_letter (l := l) (g := g) (b := b) ka0 hq) mv_X4_letter rfl (by decide) ka0 ml_L_64 ⟨Nat.le_trans (Nat.le_of_ble_eq_true rfl) hRf, Nat.le_trans (Nat.le_of_ble_eq_true rfl) hRl⟩ rfl rfl (Nat.le_of_ble_eq_true rfl) dL_isLetter_373 (fun H locs hM => ?_)
                  refine lv_iconst (v := nI 1) hx hb dL_isLetter_376 (by decide) ?_
                  refine lv_icmp_lt (tgt := 405) hx hb dL_isLetter_377 (by decide) (fun c137 => ?_) (fun c137 => ?_)
                  · have h := cz_ite_t c137 h
                    refine lv_iconst (v := nI 0) hx hb dL_isLetter_405 (by decide) ?_
                    cases h
                  · have h := cz_ite_f c137 h
                    refine lv_aload_n hx hb dL_isLetter_380 rfl (lv_at hl 2 rfl) ?_
                    refine lv_iload_n hx hb dL_isLetter_381 rfl (lv_at hl 3 rfl) ?_
                    refine lv_iconst (v := nI 5) hx hb dL_isLetter_382 (by decide) ?_
                    obtain ⟨v138, hq, h⟩ := cz_bd_t h
                    refine cz_runV (rest := []) (As := [.int x1, .int (nI 5)]) (T := TX4) (N0 := 8) X hM hl.1 (c_X4_letter (l := l) (g := g) (b := b) ka0 hq) mv_X4_letter rfl (by decide) ka0 ml_L_64 ⟨Nat.le_trans (Nat.le_of_ble_eq_true rfl) hRf, Nat.le_trans (Nat.le_of_ble_eq_true rfl) hRl⟩ rfl rfl (Nat.le_of_ble_eq_true rfl) dL_isLetter_383 (fun H locs hM => ?_)
                    refine lv_aload_n hx hb dL_isLetter_386 rfl (lv_at hl 2 rfl) ?_
                    refine lv_iconst (v := nI 3) hx hb dL_isLetter_387 (by decide) ?_
                    obtain ⟨v140, M139, hq, h⟩ := cz_b2_t h
                    refine cz_runV (rest := [.int v138]) (As := [.int (nI 3)]) (T := TX4) (N0 := 8) X hM hl.1 (c_X4_count (l := l) (g := g) (b := b) ka0 hq) mv_X4_count rfl (by decide) ka0 ml_L_9 ⟨Nat.le_trans (Nat.le_of_ble_eq_true rfl) hRf, Nat.le_trans (Nat.le_of_ble_eq_true rfl) hRl⟩ rfl rfl (Nat.le_of_ble_eq_true rfl) dL_isLetter_388 (fun H locs hM => ?_)
                    refine lv_aload_n hx hb dL_isLetter_391 rfl (lv_at hl 2 rfl) ?_
                    refine lv_iload_n hx hb dL_isLetter_392 rfl (lv_at hl 3 rfl) ?_
                    refine lv_iconst (v := nI 4) hx hb dL_isLetter_393 (by decide) ?_
                    obtain ⟨v141, hq, h⟩ := cz_bd_t h
                    refine cz_runV (rest := [.int v140, .int v138]) (As := [.int x1, .int (nI 4)]) (T := TX4) (N0 := 8) X hM hl.1 (c_X4_letter (l := l) (g := g) (b := b) ka0 hq) mv_X4_letter rfl (by decide) ka0 ml_L_64 ⟨Nat.le_trans (Nat.le_of_ble_eq_true rfl) hRf, Nat.le_trans (Nat.le_of_ble_eq_true rfl) hRl⟩ rfl rfl (Nat.le_of_ble_eq_true rfl) dL_isLetter_394 (fun H locs hM => ?_)
                    refine lv_isub hx hb dL_isLetter_397 ?_
                    refine lv_icmp_gt (tgt := 405) hx hb dL_isLetter_398 (by decide) (fun c142 => ?_) (fun c142 => ?_)
                    · have h := cz_ite_t c142 h
                      refine lv_iconst (v := nI 0) hx hb dL_isLetter_405 (by decide) ?_
                      cases h
                    · have h := cz_ite_f c142 h
                      refine lv_iconst (v := nI 1) hx hb dL_isLetter_401 (by decide) ?_
                      refine lv_goto (tgt := 406) hx hb dL_isLetter_402 (by decide) ?_
                      refine lv_istore (lv' := [(8, .int (nI 1)), (7, .int v106), (0, .ref a0), (1, .int x1), (2, .int (nI 1)), (3, .int v99), (4, .int y100), (5, .int y102), (6, .int y103)]) hx hb dL_isLetter_406 hl (by decide) rfl (fun ls hl => ?_)
                      refine lv_iload hx hb dL_isLetter_408 (lv_at hl 0 rfl) ?_
                      refine lv_if_eq (tgt := 449) hx hb dL_isLetter_410 (by decide) (fun c143 => absurd c143 (by decide)) (fun _ => ?_)
                      refine lv_iload_n hx hb dL_isLetter_413 rfl (lv_at hl 3 rfl) ?_
                      refine lv_iconst (v := nI 4) hx hb dL_isLetter_414 (by decide) ?_
                      refine lv_irem hx hb dL_isLetter_415 (by decide) ?_
                      refine lv_if_ne (tgt := 445) hx hb dL_isLetter_416 (by decide) (fun c144 => ?_) (fun c144 => ?_)
                      · have h := cz_ite_f c144 h
                        refine lv_iconst (v := nI 1) hx hb dL_isLetter_445 (by decide) ?_
                        refine lv_goto (tgt := 450) hx hb dL_isLetter_446 (by decide) ?_
                        exact cz_reti X hM h rfl dL_isLetter_450
                      · have h := cz_ite_t c144 h
                        refine lv_iload_n hx hb dL_isLetter_419 rfl (lv_at hl 4 rfl) ?_
                        refine lv_iconst (v := nI 1) hx hb dL_isLetter_420 (by decide) ?_
                        refine lv_icmp_ne (tgt := 428) hx hb dL_isLetter_421 (by decide) (fun c145 => absurd (by decide) c145) (fun _ => ?_)
                        refine lv_iconst (v := nI 1) hx hb dL_isLetter_424 (by decide) ?_
                        refine lv_goto (tgt := 429) hx hb dL_isLetter_425 (by decide) ?_
                        refine lv_aload_n hx hb dL_isLetter_429 rfl (lv_at hl 2 rfl) ?_
                        refine lv_iload_n hx hb dL_isLetter_430 rfl (lv_at hl 3 rfl) ?_
                        obtain ⟨v147, M146, hq, h⟩ := cz_b2_t h
                        refine cz_runV (rest := [.int (nI 1)]) (As := [.int x1]) (T := TX4) (N0 := 8) X hM hl.1 (c_X4_untilCome (l := l) (g := g) (b := b) ka0 hq) mv_X4_untilCome rfl (by decide) ka0 ml_L_55 ⟨Nat.le_trans (Nat.le_of_ble_eq_true rfl) hRf, Nat.le_trans (Nat.le_of_ble_eq_true rfl) hRl⟩ rfl rfl (Nat.le_of_ble_eq_true rfl) dL_isLetter_431 (fun H locs hM => ?_)
                        refine lv_if_ne (tgt := 441) hx hb dL_isLetter_434 (by decide) (fun c148 => ?_) (fun c148 => ?_)
                        · have h := cz_ite_f c148 h
                          refine lv_iconst (v := nI 0) hx hb dL_isLetter_441 (by decide) ?_
                          refine lv_icmp_ne (tgt := 449) hx hb dL_isLetter_442 (by decide) (fun _ => ?_) (fun c149 => absurd c149 (by decide))
                          refine lv_iconst (v := nI 0) hx hb dL_isLetter_449 (by decide) ?_
                          cases h
                        · have h := cz_ite_t c148 h
                          refine lv_iconst (v := nI 1) hx hb dL_isLetter_437 (by decide) ?_
                          refine lv_goto (tgt := 442) hx hb dL_isLetter_438 (by decide) ?_
                          refine lv_icmp_ne (tgt := 449) hx hb dL_isLetter_442 (by decide) (fun c150 => absurd (by decide) c150) (fun _ => ?_)
                          refine lv_iconst (v := nI 1) hx hb dL_isLetter_445 (by decide) ?_
                          refine lv_goto (tgt := 450) hx hb dL_isLetter_446 (by decide) ?_
                          exact cz_reti X hM h rfl dL_isLetter_450
    · have h := cz_ite_f c108 h
      refine lv_iconst (v := nI 1) hx hb dL_isLetter_193 (by decide) ?_
      refine lv_goto (tgt := 198) hx hb dL_isLetter_194 (by decide) ?_
      refine lv_icmp_ne (tgt := 314) hx hb dL_isLetter_198 (by decide) (fun _ => ?_) (fun c151 => absurd c151 (by decide))
      refine lv_iconst (v := nI 0) hx hb dL_isLetter_314 (by decide) ?_
      cases h
  replace h := cz_ite_f c98 h
  by_cases c152 : v1 = (nI 2)
  · replace h := cz_ite_t c152 h
    subst c152
    refine lv_istore_n (lv' := [(2, .int (nI 2)), (0, .ref a0), (1, .int x1)]) hx hb dL_isLetter_6 rfl hl (by decide) rfl (fun ls hl => ?_)
    refine lv_aload_n hx hb dL_isLetter_7 rfl (lv_at hl 1 rfl) ?_
    refine lv_iload_n hx hb dL_isLetter_8 rfl (lv_at hl 2 rfl) ?_
    refine lv_iconst (v := nI 3) hx hb dL_isLetter_9 (by decide) ?_
    obtain ⟨v153, hq, h⟩ := cz_bd_t h
    refine cz_runV (rest := []) (As := [.int x1, .int (nI 3)]) (T := TX4) (N0 := 8) X hM hl.1 (c_X4_letter (l := l) (g := g) (b := b) ka0 hq) mv_X4_letter rfl (by decide) ka0 ml_L_64 ⟨Nat.le_trans (Nat.le_of_ble_eq_true rfl) hRf, Nat.le_trans (Nat.le_of_ble_eq_true rfl) hRl⟩ rfl rfl (Nat.le_of_ble_eq_true rfl) dL_isLetter_10 (fun H locs hM => ?_)
    refine lv_istore_n (lv' := [(3, .int v153), (2, .int (nI 2)), (0, .ref a0), (1, .int x1)]) hx hb dL_isLetter_13 rfl hl (by decide) rfl (fun ls hl => ?_)
    refine lv_iconst (v := nI 0) hx hb dL_isLetter_14 (by decide) ?_
    refine lv_istore (lv' := [(4, .int (nI 0)), (3, .int v153), (2, .int (nI 2)), (0, .ref a0), (1, .int x1)]) hx hb dL_isLetter_15 hl (by decide) rfl (fun ls hl => ?_)
    refine lv_iconst (v := nI 0) hx hb dL_isLetter_17 (by decide) ?_
    refine lv_istore (lv' := [(5, .int (nI 0)), (4, .int (nI 0)), (3, .int v153), (2, .int (nI 2)), (0, .ref a0), (1, .int x1)]) hx hb dL_isLetter_18 hl (by decide) rfl (fun ls hl => ?_)
    refine w_L_isLetter_L20 X hRf hRl ka0 _ (fun y154 y155 H locs ls h hM hl => ?_) _ _ _ _ _ _ h hM (lv_sub hl [4, 5, 3, 2, 1, 0] rfl)
    refine lv_bipush (v := -6) hx hb dL_isLetter_87 (by decide) ?_
    refine lv_istore (lv' := [(5, .int (-6 : Int32)), (0, .ref a0), (1, .int x1), (2, .int (nI 2)), (3, .int v153), (4, .int y154)]) hx hb dL_isLetter_89 hl (by decide) rfl (fun ls hl => ?_)
    refine lv_iconst (v := nI 0) hx hb dL_isLetter_91 (by decide) ?_
    refine lv_istore (lv' := [(6, .int (nI 0)), (5, .int (-6 : Int32)), (0, .ref a0), (1, .int x1), (2, .int (nI 2)), (3, .int v153), (4, .int y154)]) hx hb dL_isLetter_92 hl (by decide) rfl (fun ls hl => ?_)
    refine lv_iconst (v := nI 0) hx hb dL_isLetter_94 (by decide) ?_
    refine lv_istore (lv' := [(7, .int (nI 0)), (6, .int (nI 0)), (5, .int (-6 : Int32)), (0, .ref a0), (1, .int x1), (2, .int (nI 2)), (3, .int v153), (4, .int y154)]) hx hb dL_isLetter_95 hl (by decide) rfl (fun ls hl => ?_)
    refine w_L_isLetter_L97 X hRf hRl ka0 _ (fun y156 y157 y158 H locs ls h hM hl => ?_) _ _ _ _ _ _ _ h hM (lv_sub hl [3, 4, 5, 6, 7, 2, 1, 0] rfl)
    refine lv_aload_n hx hb dL_isLetter_173 rfl (lv_at hl 0 rfl) ?_
    refine lv_iload_n hx hb dL_isLetter_174 rfl (lv_at hl 1 rfl) ?_
    obtain ⟨v160, M159, hq, h⟩ := cz_b2_t h
    refine cz_runV (rest := []) (As := [.int x1]) (T := TX4) (N0 := 8) X hM hl.1 (c_X4_why (l := l) (g := g) (b := b) ka0 hq) mv_X4_why rfl (by decide) ka0 ml_L_58 ⟨Nat.le_trans (Nat.le_of_ble_eq_true rfl) hRf, Nat.le_trans (Nat.le_of_ble_eq_true rfl) hRl⟩ rfl rfl (Nat.le_of_ble_eq_true rfl) dL_isLetter_175 (fun H locs hM => ?_)
    refine lv_istore (lv' := [(7, .int v160), (0, .ref a0), (1, .int x1), (2, .int (nI 2)), (3, .int v153), (4, .int y154), (5, .int y156), (6, .int y157)]) hx hb dL_isLetter_178 hl (by decide) rfl (fun ls hl => ?_)
    refine lv_iload_n hx hb dL_isLetter_180 rfl (lv_at hl 3 rfl) ?_
    refine lv_if_ne (tgt := 188) hx hb dL_isLetter_181 (by decide) (fun _ => ?_) (fun c161 => absurd c161 (by decide))
    refine lv_iconst (v := nI 0) hx hb dL_isLetter_188 (by decide) ?_
    refine lv_iload_n hx hb dL_isLetter_189 rfl (lv_at hl 4 rfl) ?_
    refine lv_if_lt (tgt := 197) hx hb dL_isLetter_190 (by decide) (fun c162 => ?_) (fun c162 => ?_)
    · have h := cz_ite_t c162 h
      refine lv_iconst (v := nI 0) hx hb dL_isLetter_197 (by decide) ?_
      refine lv_icmp_ne (tgt := 314) hx hb dL_isLetter_198 (by decide) (fun c163 => absurd (by decide) c163) (fun _ => ?_)
      refine lv_iload_n hx hb dL_isLetter_201 rfl (lv_at hl 3 rfl) ?_
      refine lv_iconst (v := nI 1) hx hb dL_isLetter_202 (by decide) ?_
      refine lv_icmp_ne (tgt := 210) hx hb dL_isLetter_203 (by decide) (fun _ => ?_) (fun c164 => absurd c164 (by decide))
      refine lv_iconst (v := nI 0) hx hb dL_isLetter_210 (by decide) ?_
      refine lv_aload_n hx hb dL_isLetter_211 rfl (lv_at hl 1 rfl) ?_
      refine lv_iload_n hx hb dL_isLetter_212 rfl (lv_at hl 2 rfl) ?_
      refine lv_iconst (v := nI 5) hx hb dL_isLetter_213 (by decide) ?_
      obtain ⟨v165, hq, h⟩ := cz_bd_t h
      refine cz_runV (rest := [.int (nI 0)]) (As := [.int x1, .int (nI 5)]) (T := TX4) (N0 := 8) X hM hl.1 (c_X4_letter (l := l) (g := g) (b := b) ka0 hq) mv_X4_letter rfl (by decide) ka0 ml_L_64 ⟨Nat.le_trans (Nat.le_of_ble_eq_true rfl) hRf, Nat.le_trans (Nat.le_of_ble_eq_true rfl) hRl⟩ rfl rfl (Nat.le_of_ble_eq_true rfl) dL_isLetter_214 (fun H locs hM => ?_)
      refine lv_bipush (v := -6) hx hb dL_isLetter_217 (by decide) ?_
      refine lv_icmp_eq (tgt := 226) hx hb dL_isLetter_219 (by decide) (fun c166 => ?_) (fun c166 => ?_)
      · have h := cz_ite_t c166 h
        refine lv_iconst (v := nI 0) hx hb dL_isLetter_226 (by decide) ?_
        refine lv_icmp_ne (tgt := 314) hx hb dL_isLetter_227 (by decide) (fun c167 => absurd (by decide) c167) (fun _ => ?_)
        refine lv_iload_n hx hb dL_isLetter_230 rfl (lv_at hl 3 rfl) ?_
        refine lv_iconst (v := nI 1) hx hb dL_isLetter_231 (by decide) ?_
        refine lv_icmp_ne (tgt := 239) hx hb dL_isLetter_232 (by decide) (fun _ => ?_) (fun c168 => absurd c168 (by decide))
        refine lv_iconst (v := nI 0) hx hb dL_isLetter_239 (by decide) ?_
        refine lv_aload_n hx hb dL_isLetter_240 rfl (lv_at hl 1 rfl) ?_
        refine lv_iload_n hx hb dL_isLetter_241 rfl (lv_at hl 2 rfl) ?_
        refine lv_bipush (v := nI 8) hx hb dL_isLetter_242 (by decide) ?_
        obtain ⟨v169, hq, h⟩ := cz_bd_t h
        refine cz_runV (rest := [.int (nI 0)]) (As := [.int x1, .int (nI 8)]) (T := TX4) (N0 := 8) X hM hl.1 (c_X4_letter (l := l) (g := g) (b := b) ka0 hq) mv_X4_letter rfl (by decide) ka0 ml_L_64 ⟨Nat.le_trans (Nat.le_of_ble_eq_true rfl) hRf, Nat.le_trans (Nat.le_of_ble_eq_true rfl) hRl⟩ rfl rfl (Nat.le_of_ble_eq_true rfl) dL_isLetter_244 (fun H locs hM => ?_)
        refine lv_bipush (v := -6) hx hb dL_isLetter_247 (by decide) ?_
        refine lv_icmp_eq (tgt := 256) hx hb dL_isLetter_249 (by decide) (fun c170 => ?_) (fun c170 => ?_)
        · have h := cz_ite_t c170 h
          refine lv_iconst (v := nI 0) hx hb dL_isLetter_256 (by decide) ?_
          refine lv_icmp_ne (tgt := 314) hx hb dL_isLetter_257 (by decide) (fun c171 => absurd (by decide) c171) (fun _ => ?_)
          refine lv_iload hx hb dL_isLetter_260 (lv_at hl 5 rfl) ?_
          refine lv_aload_n hx hb dL_isLetter_262 rfl (lv_at hl 1 rfl) ?_
          refine lv_iload_n hx hb dL_isLetter_263 rfl (lv_at hl 2 rfl) ?_
          refine lv_bipush (v := nI 6) hx hb dL_isLetter_264 (by decide) ?_
          obtain ⟨v172, hq, h⟩ := cz_bd_t h
          refine cz_runV (rest := [.int y154]) (As := [.int x1, .int (nI 6)]) (T := TX4) (N0 := 8) X hM hl.1 (c_X4_letter (l := l) (g := g) (b := b) ka0 hq) mv_X4_letter rfl (by decide) ka0 ml_L_64 ⟨Nat.le_trans (Nat.le_of_ble_eq_true rfl) hRf, Nat.le_trans (Nat.le_of_ble_eq_true rfl) hRl⟩ rfl rfl (Nat.le_of_ble_eq_true rfl) dL_isLetter_266 (fun H locs hM => ?_)
          refine lv_icmp_ne (tgt := 314) hx hb dL_isLetter_269 (by decide) (fun c173 => ?_) (fun c173 => ?_)
          · have h := cz_ite_f c173 h
            refine lv_iconst (v := nI 0) hx hb dL_isLetter_314 (by decide) ?_
            cases h
          · have h := cz_ite_t c173 h
            refine lv_iload_n hx hb dL_isLetter_272 rfl (lv_at hl 3 rfl) ?_
            refine lv_iconst (v := nI 1) hx hb dL_isLetter_273 (by decide) ?_
            refine lv_icmp_eq (tgt := 282) hx hb dL_isLetter_274 (by decide) (fun c174 => absurd c174 (by decide)) (fun _ => ?_)
            refine lv_iload hx hb dL_isLetter_277 (lv_at hl 5 rfl) ?_
            refine lv_if_ne (tgt := 314) hx hb dL_isLetter_279 (by decide) (fun c175 => ?_) (fun c175 => ?_)
            · have h := cz_ite_f c175 h
              refine lv_iconst (v := nI 0) hx hb dL_isLetter_314 (by decide) ?_
              cases h
            · have h := cz_ite_t c175 h
              refine lv_aload_n hx hb dL_isLetter_282 rfl (lv_at hl 1 rfl) ?_
              refine lv_iload_n hx hb dL_isLetter_283 rfl (lv_at hl 2 rfl) ?_
              refine lv_bipush (v := nI 9) hx hb dL_isLetter_284 (by decide) ?_
              obtain ⟨v176, hq, h⟩ := cz_bd_t h
              refine cz_runV (rest := []) (As := [.int x1, .int (nI 9)]) (T := TX4) (N0 := 8) X hM hl.1 (c_X4_letter (l := l) (g := g) (b := b) ka0 hq) mv_X4_letter rfl (by decide) ka0 ml_L_64 ⟨Nat.le_trans (Nat.le_of_ble_eq_true rfl) hRf, Nat.le_trans (Nat.le_of_ble_eq_true rfl) hRl⟩ rfl rfl (Nat.le_of_ble_eq_true rfl) dL_isLetter_286 (fun H locs hM => ?_)
              refine lv_iload hx hb dL_isLetter_289 (lv_at hl 6 rfl) ?_
              refine lv_icmp_ne (tgt := 314) hx hb dL_isLetter_291 (by decide) (fun c177 => ?_) (fun c177 => ?_)
              · have h := cz_ite_f c177 h
                refine lv_iconst (v := nI 0) hx hb dL_isLetter_314 (by decide) ?_
                cases h
              · have h := cz_ite_t c177 h
                refine lv_aload_n hx hb dL_isLetter_294 rfl (lv_at hl 1 rfl) ?_
                refine lv_iload_n hx hb dL_isLetter_295 rfl (lv_at hl 2 rfl) ?_
                refine lv_aload_n hx hb dL_isLetter_296 rfl (lv_at hl 1 rfl) ?_
                refine lv_iload_n hx hb dL_isLetter_297 rfl (lv_at hl 2 rfl) ?_
                refine lv_bipush (v := nI 10) hx hb dL_isLetter_298 (by decide) ?_
                obtain ⟨v178, hq, h⟩ := cz_bd_t h
                refine cz_runV (rest := [.int x1, .ref a0]) (As := [.int x1, .int (nI 10)]) (T := TX4) (N0 := 8) X hM hl.1 (c_X4_letter (l := l) (g := g) (b := b) ka0 hq) mv_X4_letter rfl (by decide) ka0 ml_L_64 ⟨Nat.le_trans (Nat.le_of_ble_eq_true rfl) hRf, Nat.le_trans (Nat.le_of_ble_eq_true rfl) hRl⟩ rfl rfl (Nat.le_of_ble_eq_true rfl) dL_isLetter_300 (fun H locs hM => ?_)
                obtain ⟨v179, hq, h⟩ := cz_bd_t h
                refine cz_runV (rest := []) (As := [.int x1, .int v178]) (T := TX4) (N0 := 8) X hM hl.1 (c_X4_word (l := l) (g := g) (b := b) ka0 hq) mv_X4_word rfl (by decide) ka0 ml_L_67 ⟨Nat.le_trans (Nat.le_of_ble_eq_true rfl) hRf, Nat.le_trans (Nat.le_of_ble_eq_true rfl) hRl⟩ rfl rfl (Nat.le_of_ble_eq_true rfl) dL_isLetter_303 (fun H locs hM => ?_)
                refine lv_iconst (v := -1) hx hb dL_isLetter_306 (by decide) ?_
                refine lv_icmp_ne (tgt := 314) hx hb dL_isLetter_307 (by decide) (fun c180 => ?_) (fun c180 => ?_)
                · have h := cz_ite_f c180 h
                  refine lv_iconst (v := nI 0) hx hb dL_isLetter_314 (by decide) ?_
                  cases h
                · have h := cz_ite_t c180 h
                  refine lv_iconst (v := nI 1) hx hb dL_isLetter_310 (by decide) ?_
                  refine lv_goto (tgt := 315) hx hb dL_isLetter_311 (by decide) ?_
                  refine lv_istore (lv' := [(8, .int (nI 1)), (7, .int v160), (0, .ref a0), (1, .int x1), (2, .int (nI 2)), (3, .int v153), (4, .int y154), (5, .int y156), (6, .int y157)]) hx hb dL_isLetter_315 hl (by decide) rfl (fun ls hl => ?_)
                  refine lv_iload hx hb dL_isLetter_317 (lv_at hl 0 rfl) ?_
                  refine lv_if_eq (tgt := 405) hx hb dL_isLetter_319 (by decide) (fun c181 => absurd c181 (by decide)) (fun _ => ?_)
                  refine lv_iload hx hb dL_isLetter_322 (lv_at hl 1 rfl) ?_
                  refine lv_iconst (v := nI 1) hx hb dL_isLetter_324 (by decide) ?_
                  refine lv_icmp_ne (tgt := 332) hx hb dL_isLetter_325 (by decide) (fun c182 => ?_) (fun c182 => ?_)
                  · have h := cz_ite_f c182 h
                    refine lv_iconst (v := nI 0) hx hb dL_isLetter_332 (by decide) ?_
                    refine lv_iload_n hx hb dL_isLetter_333 rfl (lv_at hl 4 rfl) ?_
                    refine lv_if_eq (tgt := 341) hx hb dL_isLetter_334 (by decide) (fun c183 => absurd c183 (by decide)) (fun _ => ?_)
                    refine lv_iconst (v := nI 1) hx hb dL_isLetter_337 (by decide) ?_
                    refine lv_goto (tgt := 342) hx hb dL_isLetter_338 (by decide) ?_
                    refine lv_icmp_ne (tgt := 405) hx hb dL_isLetter_342 (by decide) (fun _ => ?_) (fun c184 => absurd c184 (by decide))
                    refine lv_iconst (v := nI 0) hx hb dL_isLetter_405 (by decide) ?_
                    cases h
                  · have h := cz_ite_t c182 h
                    refine lv_iconst (v := nI 1) hx hb dL_isLetter_328 (by decide) ?_
                    refine lv_goto (tgt := 333) hx hb dL_isLetter_329 (by decide) ?_
                    refine lv_iload_n hx hb dL_isLetter_333 rfl (lv_at hl 4 rfl) ?_
                    refine lv_if_eq (tgt := 341) hx hb dL_isLetter_334 (by decide) (fun c185 => absurd c185 (by decide)) (fun _ => ?_)
                    refine lv_iconst (v := nI 1) hx hb dL_isLetter_337 (by decide) ?_
                    refine lv_goto (tgt := 342) hx hb dL_isLetter_338 (by decide) ?_
                    refine lv_icmp_ne (tgt := 405) hx hb dL_isLetter_342 (by decide) (fun c186 => absurd (by decide) c186) (fun _ => ?_)
                    refine lv_iload_n hx hb dL_isLetter_345 rfl (lv_at hl 4 rfl) ?_
                    refine lv_if_ne (tgt := 365) hx hb dL_isLetter_346 (by decide) (fun _ => ?_) (fun c187 => absurd c187 (by decide))
                    refine lv_iload_n hx hb dL_isLetter_365 rfl (lv_at hl 4 rfl) ?_
                    refine lv_iconst (v := nI 1) hx hb dL_isLetter_366 (by decide) ?_
                    refine lv_icmp_ne (tgt := 401) hx hb dL_isLetter_367 (by decide) (fun _ => ?_) (fun c188 => absurd c188 (by decide))
                    refine lv_iconst (v := nI 1) hx hb dL_isLetter_401 (by decide) ?_
                    refine lv_goto (tgt := 406) hx hb dL_isLetter_402 (by decide) ?_
                    refine lv_istore (lv' := [(8, .int (nI 1)), (7, .int v160), (0, .ref a0), (1, .int x1), (2, .int (nI 2)), (3, .int v153), (4, .int y154), (5, .int y156), (6, .int y157)]) hx hb dL_isLetter_406 hl (by decide) rfl (fun ls hl => ?_)
                    refine lv_iload hx hb dL_isLetter_408 (lv_at hl 0 rfl) ?_
                    refine lv_if_eq (tgt := 449) hx hb dL_isLetter_410 (by decide) (fun c189 => absurd c189 (by decide)) (fun _ => ?_)
                    refine lv_iload_n hx hb dL_isLetter_413 rfl (lv_at hl 3 rfl) ?_
                    refine lv_iconst (v := nI 4) hx hb dL_isLetter_414 (by decide) ?_
                    refine lv_irem hx hb dL_isLetter_415 (by decide) ?_
                    refine lv_if_ne (tgt := 445) hx hb dL_isLetter_416 (by decide) (fun c190 => ?_) (fun c190 => ?_)
                    · have h := cz_ite_f c190 h
                      refine lv_iconst (v := nI 1) hx hb dL_isLetter_445 (by decide) ?_
                      refine lv_goto (tgt := 450) hx hb dL_isLetter_446 (by decide) ?_
                      exact cz_reti X hM h rfl dL_isLetter_450
                    · have h := cz_ite_t c190 h
                      refine lv_iload_n hx hb dL_isLetter_419 rfl (lv_at hl 4 rfl) ?_
                      refine lv_iconst (v := nI 1) hx hb dL_isLetter_420 (by decide) ?_
                      refine lv_icmp_ne (tgt := 428) hx hb dL_isLetter_421 (by decide) (fun _ => ?_) (fun c191 => absurd c191 (by decide))
                      refine lv_iconst (v := nI 0) hx hb dL_isLetter_428 (by decide) ?_
                      refine lv_aload_n hx hb dL_isLetter_429 rfl (lv_at hl 2 rfl) ?_
                      refine lv_iload_n hx hb dL_isLetter_430 rfl (lv_at hl 3 rfl) ?_
                      obtain ⟨v193, M192, hq, h⟩ := cz_b2_t h
                      refine cz_runV (rest := [.int (nI 0)]) (As := [.int x1]) (T := TX4) (N0 := 8) X hM hl.1 (c_X4_untilCome (l := l) (g := g) (b := b) ka0 hq) mv_X4_untilCome rfl (by decide) ka0 ml_L_55 ⟨Nat.le_trans (Nat.le_of_ble_eq_true rfl) hRf, Nat.le_trans (Nat.le_of_ble_eq_true rfl) hRl⟩ rfl rfl (Nat.le_of_ble_eq_true rfl) dL_isLetter_431 (fun H locs hM => ?_)
                      refine lv_if_ne (tgt := 441) hx hb dL_isLetter_434 (by decide) (fun c194 => ?_) (fun c194 => ?_)
                      · have h := cz_ite_f c194 h
                        refine lv_iconst (v := nI 0) hx hb dL_isLetter_441 (by decide) ?_
                        refine lv_icmp_ne (tgt := 449) hx hb dL_isLetter_442 (by decide) (fun c195 => absurd (by decide) c195) (fun _ => ?_)
                        refine lv_iconst (v := nI 1) hx hb dL_isLetter_445 (by decide) ?_
                        refine lv_goto (tgt := 450) hx hb dL_isLetter_446 (by decide) ?_
                        exact cz_reti X hM h rfl dL_isLetter_450
                      · have h := cz_ite_t c194 h
                        refine lv_iconst (v := nI 1) hx hb dL_isLetter_437 (by decide) ?_
                        refine lv_goto (tgt := 442) hx hb dL_isLetter_438 (by decide) ?_
                        refine lv_icmp_ne (tgt := 449) hx hb dL_isLetter_442 (by decide) (fun _ => ?_) (fun c196 => absurd c196 (by decide))
                        refine lv_iconst (v := nI 0) hx hb dL_isLetter_449 (by decide) ?_
                        cases h
        · have h := cz_ite_f c170 h
          refine lv_iconst (v := nI 1) hx hb dL_isLetter_252 (by decide) ?_
          refine lv_goto (tgt := 257) hx hb dL_isLetter_253 (by decide) ?_
          refine lv_icmp_ne (tgt := 314) hx hb dL_isLetter_257 (by decide) (fun _ => ?_) (fun c197 => absurd c197 (by decide))
          refine lv_iconst (v := nI 0) hx hb dL_isLetter_314 (by decide) ?_
          cases h
      · have h := cz_ite_f c166 h
        refine lv_iconst (v := nI 1) hx hb dL_isLetter_222 (by decide) ?_
        refine lv_goto (tgt := 227) hx hb dL_isLetter_223 (by decide) ?_
        refine lv_icmp_ne (tgt := 314) hx hb dL_isLetter_227 (by decide) (fun _ => ?_) (fun c198 => absurd c198 (by decide))
        refine lv_iconst (v := nI 0) hx hb dL_isLetter_314 (by decide) ?_
        cases h
    · have h := cz_ite_f c162 h
      refine lv_iconst (v := nI 1) hx hb dL_isLetter_193 (by decide) ?_
      refine lv_goto (tgt := 198) hx hb dL_isLetter_194 (by decide) ?_
      refine lv_icmp_ne (tgt := 314) hx hb dL_isLetter_198 (by decide) (fun _ => ?_) (fun c199 => absurd c199 (by decide))
      refine lv_iconst (v := nI 0) hx hb dL_isLetter_314 (by decide) ?_
      cases h
  replace h := cz_ite_f c152 h
  cases h
