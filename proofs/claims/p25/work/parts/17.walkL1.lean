theorem mv_L_holds : cz_MS yL_holds cL_holds 13 (some .boolean) 1 := ⟨mt_L_holds, mc_L_holds, ini_L, by decide +kernel⟩
set_option maxHeartbeats 4000000 in
set_option maxRecDepth 100000 in
theorem w_L_holds_L55 {p : Program} {l : Launch} {e : Env} {s : State} {m : MethodId} {args : Array Value} {below : List Frame} {meth : Method} {c : Code} {g : cz_G} {b : Nat} (X : cz_X p s m args meth c cL_holds 13 RL g b (some .boolean)) {cells slots : Nat} (hcc : cells ≤ 2) (hss : slots ≤ 5) {t0 t1 : Nat} {r0 : Int32} {M9 : cz_M} {a0 : Nat} {x1 : Int32} (ka0 : cz_K b a0 4)
    (K : Int32 → Int32 → Int32 → Int32 → Int32 → Int32 → (Nat → Int32) → (Nat → Int32) → cz_M → Option (Int32 × cz_M)) (hX : ∀ (x2 : Int32) (x3 : Int32) (x4 : Int32) (x5 : Int32) (x8 : Int32) (x10 : Int32) (f0 : Nat → Int32) (f1 : Nat → Int32) (M : cz_M) (H : Heap) (locs : List Loc) (ls : Array Slot), K x2 x3 x4 x5 x8 x10 f0 f1 M = some (r0, M9) → cz_WT g b M [cz_sc g t0 3 f0, cz_sc g t1 2 f1] s H locs → lv_has ls 13 [(0, .ref a0), (1, .int x1), (2, .int x2), (3, .int x3), (4, .int x4), (5, .int x5), (6, .ref t0), (7, .ref t1), (8, .int x8), (9, .int (nI 1)), (10, .int x10)] → W p l e { frames := 7, cells := 2, slots := 5, locals := 169 } s m args below meth c H locs cells slots (MQ below (cz_QD g b (some (.int r0)) M9) args s 2 5 (fun q => b ≤ q)) (F0 m 215 ls [])) :
    ∀ (n : Nat) (x2 : Int32) (x3 : Int32) (x4 : Int32) (x5 : Int32) (x8 : Int32) (x10 : Int32) (f0 : Nat → Int32) (f1 : Nat → Int32) (M : cz_M) (H : Heap) (locs : List Loc) (ls : Array Slot), cz_it9 (f_L_holds_L55 a0 x1 K) n x2 x3 x4 x5 x8 x10 f0 f1 M = some (r0, M9) → cz_WT g b M [cz_sc g t0 3 f0, cz_sc g t1 2 f1] s H locs → lv_has ls 13 [(0, .ref a0), (1, .int x1), (2, .int x2), (3, .int x3), (4, .int x4), (5, .int x5), (6, .ref t0), (7, .ref t1), (8, .int x8), (9, .int (nI 1)), (10, .int x10)] → W p l e { frames := 7, cells := 2, slots := 5, locals := 169 } s m args below meth c H locs cells slots (MQ below (cz_QD g b (some (.int r0)) M9) args s 2 5 (fun q => b ≤ q)) (F0 m 55 ls []) := by
  obtain ⟨hx, hb, -, ho, ht, -⟩ := id X
  intro n
  induction n with
  | zero => intro x2 x3 x4 x5 x8 x10 f0 f1 M H locs ls h; cases (show none = some _ from h)
  | succ n ih =>
    intro x2 x3 x4 x5 x8 x10 f0 f1 M H locs ls h hM hl
    have h : f_L_holds_L55 a0 x1 K (cz_it9 (f_L_holds_L55 a0 x1 K) n) x2 x3 x4 x5 x8 x10 f0 f1 M = some (r0, M9) := h
    rw [f_L_holds_L55] at h
    have hRf : 7 ≤ ({ frames := 7, cells := 2, slots := 5, locals := 169 } : Room).frames := Nat.le_refl _
    have hRl : 169 ≤ ({ frames := 7, cells := 2, slots := 5, locals := 169 } : Room).locals := Nat.le_refl _
    refine lv_iload hx hb dL_holds_55 (lv_at hl 10 rfl) ?_
    refine lv_iload_n hx hb dL_holds_57 rfl (lv_at hl 1 rfl) ?_
    refine lv_icmp_ge (tgt := 215) hx hb dL_holds_58 (by decide) (fun c10 => ?_) (fun c10 => ?_)
    · have h := cz_ite_t c10 h
      exact hX _ _ _ _ _ _ _ _ _ _ _ _ h hM (lv_sub hl [0, 1, 2, 3, 4, 5, 6, 7, 8, 9, 10] rfl)
    · have h := cz_ite_f c10 h
      refine lv_iload hx hb dL_holds_61 (lv_at hl 9 rfl) ?_
      refine lv_if_eq (tgt := 215) hx hb dL_holds_63 (by decide) (fun c11 => absurd c11 (by decide)) (fun _ => ?_)
      refine lv_aload_n hx hb dL_holds_66 rfl (lv_at hl 0 rfl) ?_
      refine lv_iload hx hb dL_holds_67 (lv_at hl 10 rfl) ?_
      obtain ⟨v13, M12, hq, h⟩ := cz_b2_t h
      refine cz_TrunS (rest := []) (As := [.ref a0, .int x10]) hcc hss X hM hl.1 (c_L_isLetter (l := l) (g := g) (b := b) ka0 hq) mv_L_isLetter ml_L_70 ⟨Nat.le_trans (Nat.le_of_ble_eq_true rfl) hRf, Nat.le_trans (Nat.le_of_ble_eq_true rfl) hRl⟩ rfl rfl (Nat.le_of_ble_eq_true rfl) dL_holds_69 (fun H locs hM => ?_)
      by_cases c14 : v13 = (nI 1)
      · replace h := cz_ite_t c14 h
        subst c14
        refine lv_istore (lv' := [(9, .int (nI 1)), (0, .ref a0), (1, .int x1), (2, .int x2), (3, .int x3), (4, .int x4), (5, .int x5), (6, .ref t0), (7, .ref t1), (8, .int x8), (10, .int x10)]) hx hb dL_holds_72 hl (by decide) rfl (fun ls hl => ?_)
        refine lv_aload_n hx hb dL_holds_74 rfl (lv_at hl 1 rfl) ?_
        refine lv_iload hx hb dL_holds_75 (lv_at hl 10 rfl) ?_
        refine lv_iconst (v := nI 2) hx hb dL_holds_77 (by decide) ?_
        obtain ⟨v15, hq, h⟩ := cz_bd_t h
        refine cz_TrunV (rest := []) (As := [.int x10, .int (nI 2)]) (T := TX4) (N0 := 8) hcc hss X hM hl.1 (c_X4_letter (l := l) (g := g) (b := b) ka0 hq) mv_X4_letter rfl (by decide) ka0 ml_L_64 ⟨Nat.le_trans (Nat.le_of_ble_eq_true rfl) hRf, Nat.le_trans (Nat.le_of_ble_eq_true rfl) hRl⟩ rfl rfl (Nat.le_of_ble_eq_true rfl) dL_holds_78 (fun H locs hM => ?_)
        by_cases c16 : v15 = (nI 0)
        · replace h := cz_ite_t c16 h
          subst c16
          refine lv_istore (lv' := [(11, .int (nI 0)), (9, .int (nI 1)), (0, .ref a0), (1, .int x1), (2, .int x2), (3, .int x3), (4, .int x4), (5, .int x5), (6, .ref t0), (7, .ref t1), (8, .int x8), (10, .int x10)]) hx hb dL_holds_81 hl (by decide) rfl (fun ls hl => ?_)
          refine lv_iload hx hb dL_holds_83 (lv_at hl 0 rfl) ?_
          refine lv_iconst (v := nI 1) hx hb dL_holds_85 (by decide) ?_
          refine lv_icmp_ne (tgt := 99) hx hb dL_holds_86 (by decide) (fun _ => ?_) (fun c17 => absurd c17 (by decide))
          refine lv_iconst (v := nI 0) hx hb dL_holds_99 (by decide) ?_
          refine lv_istore (lv' := [(12, .int (nI 0)), (11, .int (nI 0)), (9, .int (nI 1)), (0, .ref a0), (1, .int x1), (2, .int x2), (3, .int x3), (4, .int x4), (5, .int x5), (6, .ref t0), (7, .ref t1), (8, .int x8), (10, .int x10)]) hx hb dL_holds_100 hl (by decide) rfl (fun ls hl => ?_)
          refine lv_aload hx hb dL_holds_102 (lv_at hl 9 rfl) ?_
          refine lv_iload hx hb dL_holds_104 (lv_at hl 1 rfl) ?_
          refine lv_dup2_11 hx hb dL_holds_106 rfl rfl ?_
          refine cz_Tald (j := 0) (n := 3) X hM h rfl dL_holds_107 (fun h => ?_)
          refine lv_iconst (v := nI 1) hx hb dL_holds_108 (by decide) ?_
          refine lv_iadd hx hb dL_holds_109 ?_
          refine cz_Tast (j := 0) (n := 3) X hM h rfl dL_holds_110 (fun f18 H locs h hM => ?_)
          refine lv_aload hx hb dL_holds_111 (lv_at hl 10 rfl) ?_
          refine lv_aload_n hx hb dL_holds_113 rfl (lv_at hl 3 rfl) ?_
          refine lv_iload hx hb dL_holds_114 (lv_at hl 12 rfl) ?_
          refine lv_iconst (v := nI 1) hx hb dL_holds_116 (by decide) ?_
          obtain ⟨v19, hq, h⟩ := cz_bd_t h
          refine cz_TrunV (rest := [.ref t1]) (As := [.int x10, .int (nI 1)]) (T := TX4) (N0 := 8) hcc hss X hM hl.1 (c_X4_letter (l := l) (g := g) (b := b) ka0 hq) mv_X4_letter rfl (by decide) ka0 ml_L_64 ⟨Nat.le_trans (Nat.le_of_ble_eq_true rfl) hRf, Nat.le_trans (Nat.le_of_ble_eq_true rfl) hRl⟩ rfl rfl (Nat.le_of_ble_eq_true rfl) dL_holds_117 (fun H locs hM => ?_)
          refine lv_dup2_11 hx hb dL_holds_120 rfl rfl ?_
          refine cz_Tald (j := 1) (n := 2) X hM h rfl dL_holds_121 (fun h => ?_)
          refine lv_iload hx hb dL_holds_122 (lv_at hl 1 rfl) ?_
          refine lv_if_ne (tgt := 131) hx hb dL_holds_124 (by decide) (fun c20 => absurd (by decide) c20) (fun _ => ?_)
          refine lv_iconst (v := nI 1) hx hb dL_holds_127 (by decide) ?_
          refine lv_goto (tgt := 132) hx hb dL_holds_128 (by decide) ?_
          refine lv_iadd hx hb dL_holds_132 ?_
          refine cz_Tast (j := 1) (n := 2) X hM h rfl dL_holds_133 (fun f21 H locs h hM => ?_)
          refine lv_iload hx hb dL_holds_134 (lv_at hl 11 rfl) ?_
          refine lv_iload hx hb dL_holds_136 (lv_at hl 1 rfl) ?_
          refine lv_if_ne (tgt := 151) hx hb dL_holds_138 (by decide) (fun c22 => absurd (by decide) c22) (fun _ => ?_)
          refine lv_aload_n hx hb dL_holds_141 rfl (lv_at hl 3 rfl) ?_
          refine lv_iload hx hb dL_holds_142 (lv_at hl 12 rfl) ?_
          refine lv_iconst (v := nI 3) hx hb dL_holds_144 (by decide) ?_
          obtain ⟨v23, hq, h⟩ := cz_bd_t h
          refine cz_TrunV (rest := [.int x8]) (As := [.int x10, .int (nI 3)]) (T := TX4) (N0 := 8) hcc hss X hM hl.1 (c_X4_letter (l := l) (g := g) (b := b) ka0 hq) mv_X4_letter rfl (by decide) ka0 ml_L_64 ⟨Nat.le_trans (Nat.le_of_ble_eq_true rfl) hRf, Nat.le_trans (Nat.le_of_ble_eq_true rfl) hRl⟩ rfl rfl (Nat.le_of_ble_eq_true rfl) dL_holds_145 (fun H locs hM => ?_)
          refine lv_goto (tgt := 152) hx hb dL_holds_148 (by decide) ?_
          refine lv_iadd hx hb dL_holds_152 ?_
          refine cz_nmil h (fun v24 h => ?_)
          refine lv_istore (lv' := [(8, .int v24), (12, .int (nI 0)), (11, .int (nI 0)), (9, .int (nI 1)), (0, .ref a0), (1, .int x1), (2, .int x2), (3, .int x3), (4, .int x4), (5, .int x5), (6, .ref t0), (7, .ref t1), (10, .int x10)]) hx hb dL_holds_153 hl (by decide) rfl (fun ls hl => ?_)
          refine lv_iload_n hx hb dL_holds_155 rfl (lv_at hl 6 rfl) ?_
          refine lv_iload hx hb dL_holds_156 (lv_at hl 1 rfl) ?_
          refine lv_iadd hx hb dL_holds_158 ?_
          refine cz_nmil h (fun v25 h => ?_)
          refine lv_istore_n (lv' := [(2, .int v25), (8, .int v24), (12, .int (nI 0)), (11, .int (nI 0)), (9, .int (nI 1)), (0, .ref a0), (1, .int x1), (3, .int x3), (4, .int x4), (5, .int x5), (6, .ref t0), (7, .ref t1), (10, .int x10)]) hx hb dL_holds_159 rfl hl (by decide) rfl (fun ls hl => ?_)
          refine lv_iload hx hb dL_holds_160 (lv_at hl 2 rfl) ?_
          refine lv_iload_n hx hb dL_holds_162 rfl (lv_at hl 7 rfl) ?_
          refine lv_icmp_le (tgt := 171) hx hb dL_holds_163 (by decide) (fun c26 => ?_) (fun c26 => ?_)
          · have h := cz_ite_t c26 h
            refine lv_iload_n hx hb dL_holds_171 rfl (lv_at hl 7 rfl) ?_
            refine lv_istore_n (lv' := [(3, .int x3), (2, .int v25), (8, .int v24), (12, .int (nI 0)), (11, .int (nI 0)), (9, .int (nI 1)), (0, .ref a0), (1, .int x1), (4, .int x4), (5, .int x5), (6, .ref t0), (7, .ref t1), (10, .int x10)]) hx hb dL_holds_172 rfl hl (by decide) rfl (fun ls hl => ?_)
            refine lv_iload hx hb dL_holds_173 (lv_at hl 8 rfl) ?_
            refine lv_aload_n hx hb dL_holds_175 rfl (lv_at hl 6 rfl) ?_
            refine lv_iload hx hb dL_holds_176 (lv_at hl 12 rfl) ?_
            refine lv_bipush (v := nI 6) hx hb dL_holds_178 (by decide) ?_
            obtain ⟨v27, hq, h⟩ := cz_bd_t h
            refine cz_TrunV (rest := [.int x4]) (As := [.int x10, .int (nI 6)]) (T := TX4) (N0 := 8) hcc hss X hM hl.1 (c_X4_letter (l := l) (g := g) (b := b) ka0 hq) mv_X4_letter rfl (by decide) ka0 ml_L_64 ⟨Nat.le_trans (Nat.le_of_ble_eq_true rfl) hRf, Nat.le_trans (Nat.le_of_ble_eq_true rfl) hRl⟩ rfl rfl (Nat.le_of_ble_eq_true rfl) dL_holds_180 (fun H locs hM => ?_)
            refine lv_iadd hx hb dL_holds_183 ?_
            refine cz_nmil h (fun v28 h => ?_)
            refine lv_istore (lv' := [(4, .int v28), (3, .int x3), (2, .int v25), (8, .int v24), (12, .int (nI 0)), (11, .int (nI 0)), (9, .int (nI 1)), (0, .ref a0), (1, .int x1), (5, .int x5), (6, .ref t0), (7, .ref t1), (10, .int x10)]) hx hb dL_holds_184 hl (by decide) rfl (fun ls hl => ?_)
            refine lv_iload hx hb dL_holds_186 (lv_at hl 9 rfl) ?_
            refine lv_iload hx hb dL_holds_188 (lv_at hl 5 rfl) ?_
            refine lv_if_ne (tgt := 205) hx hb dL_holds_190 (by decide) (fun c29 => absurd (by decide) c29) (fun _ => ?_)
            refine lv_iconst (v := nI 1) hx hb dL_holds_193 (by decide) ?_
            refine lv_aload_n hx hb dL_holds_194 rfl (lv_at hl 7 rfl) ?_
            refine lv_iload hx hb dL_holds_195 (lv_at hl 12 rfl) ?_
            refine lv_iconst (v := nI 0) hx hb dL_holds_197 (by decide) ?_
            obtain ⟨v30, hq, h⟩ := cz_bd_t h
            refine cz_TrunV (rest := [.int (nI 1), .int x5]) (As := [.int x10, .int (nI 0)]) (T := TX4) (N0 := 8) hcc hss X hM hl.1 (c_X4_letter (l := l) (g := g) (b := b) ka0 hq) mv_X4_letter rfl (by decide) ka0 ml_L_64 ⟨Nat.le_trans (Nat.le_of_ble_eq_true rfl) hRf, Nat.le_trans (Nat.le_of_ble_eq_true rfl) hRl⟩ rfl rfl (Nat.le_of_ble_eq_true rfl) dL_holds_198 (fun H locs hM => ?_)
            refine lv_ishl hx hb dL_holds_201 ?_
            refine lv_goto (tgt := 206) hx hb dL_holds_202 (by decide) ?_
            refine lv_ior hx hb dL_holds_206 ?_
            refine cz_nmil h (fun v31 h => ?_)
            refine lv_istore (lv' := [(5, .int v31), (4, .int v28), (3, .int x3), (2, .int v25), (8, .int v24), (12, .int (nI 0)), (11, .int (nI 0)), (9, .int (nI 1)), (0, .ref a0), (1, .int x1), (6, .ref t0), (7, .ref t1), (10, .int x10)]) hx hb dL_holds_207 hl (by decide) rfl (fun ls hl => ?_)
            refine cz_nmL (v := x10 + nI 1) h (fun v32 e33 h => ?_)
            refine lv_iinc (v := v32) (lv' := [(10, .int v32), (5, .int v31), (4, .int v28), (3, .int x3), (2, .int v25), (8, .int v24), (12, .int (nI 0)), (11, .int (nI 0)), (9, .int (nI 1)), (0, .ref a0), (1, .int x1), (6, .ref t0), (7, .ref t1)]) hx hb dL_holds_209 hl (k := 12) rfl (by rw [e33]; rfl) (by decide) rfl (fun ls hl => ?_)
            refine lv_goto (tgt := 55) hx hb dL_holds_212 (by decide) ?_
            exact ih _ _ _ _ _ _ _ _ _ _ _ _ h hM (lv_sub hl [9, 10, 4, 3, 2, 1, 11, 12, 5, 8, 0] rfl)
          · have h := cz_ite_f c26 h
            refine lv_iload hx hb dL_holds_166 (lv_at hl 2 rfl) ?_
            refine lv_goto (tgt := 172) hx hb dL_holds_168 (by decide) ?_
            refine lv_istore_n (lv' := [(3, .int (nI 0)), (2, .int v25), (8, .int v24), (12, .int (nI 0)), (11, .int (nI 0)), (9, .int (nI 1)), (0, .ref a0), (1, .int x1), (4, .int x4), (5, .int x5), (6, .ref t0), (7, .ref t1), (10, .int x10)]) hx hb dL_holds_172 rfl hl (by decide) rfl (fun ls hl => ?_)
            refine lv_iload hx hb dL_holds_173 (lv_at hl 8 rfl) ?_
            refine lv_aload_n hx hb dL_holds_175 rfl (lv_at hl 6 rfl) ?_
            refine lv_iload hx hb dL_holds_176 (lv_at hl 12 rfl) ?_
            refine lv_bipush (v := nI 6) hx hb dL_holds_178 (by decide) ?_
            obtain ⟨v34, hq, h⟩ := cz_bd_t h
            refine cz_TrunV (rest := [.int x4]) (As := [.int x10, .int (nI 6)]) (T := TX4) (N0 := 8) hcc hss X hM hl.1 (c_X4_letter (l := l) (g := g) (b := b) ka0 hq) mv_X4_letter rfl (by decide) ka0 ml_L_64 ⟨Nat.le_trans (Nat.le_of_ble_eq_true rfl) hRf, Nat.le_trans (Nat.le_of_ble_eq_true rfl) hRl⟩ rfl rfl (Nat.le_of_ble_eq_true rfl) dL_holds_180 (fun H locs hM => ?_)
            refine lv_iadd hx hb dL_holds_183 ?_
            refine cz_nmil h (fun v35 h => ?_)
            refine lv_istore (lv' := [(4, .int v35), (3, .int (nI 0)), (2, .int v25), (8, .int v24), (12, .int (nI 0)), (11, .int (nI 0)), (9, .int (nI 1)), (0, .ref a0), (1, .int x1), (5, .int x5), (6, .ref t0), (7, .ref t1), (10, .int x10)]) hx hb dL_holds_184 hl (by decide) rfl (fun ls hl => ?_)
            refine lv_iload hx hb dL_holds_186 (lv_at hl 9 rfl) ?_
            refine lv_iload hx hb dL_holds_188 (lv_at hl 5 rfl) ?_
            refine lv_if_ne (tgt := 205) hx hb dL_holds_190 (by decide) (fun c36 => absurd (by decide) c36) (fun _ => ?_)
            refine lv_iconst (v := nI 1) hx hb dL_holds_193 (by decide) ?_
            refine lv_aload_n hx hb dL_holds_194 rfl (lv_at hl 7 rfl) ?_
            refine lv_iload hx hb dL_holds_195 (lv_at hl 12 rfl) ?_
            refine lv_iconst (v := nI 0) hx hb dL_holds_197 (by decide) ?_
            obtain ⟨v37, hq, h⟩ := cz_bd_t h
            refine cz_TrunV (rest := [.int (nI 1), .int x5]) (As := [.int x10, .int (nI 0)]) (T := TX4) (N0 := 8) hcc hss X hM hl.1 (c_X4_letter (l := l) (g := g) (b := b) ka0 hq) mv_X4_letter rfl (by decide) ka0 ml_L_64 ⟨Nat.le_trans (Nat.le_of_ble_eq_true rfl) hRf, Nat.le_trans (Nat.le_of_ble_eq_true rfl) hRl⟩ rfl rfl (Nat.le_of_ble_eq_true rfl) dL_holds_198 (fun H locs hM => ?_)
            refine lv_ishl hx hb dL_holds_201 ?_
            refine lv_goto (tgt := 206) hx hb dL_holds_202 (by decide) ?_
            refine lv_ior hx hb dL_holds_206 ?_
            refine cz_nmil h (fun v38 h => ?_)
            refine lv_istore (lv' := [(5, .int v38), (4, .int v35), (3, .int (nI 0)), (2, .int v25), (8, .int v24), (12, .int (nI 0)), (11, .int (nI 0)), (9, .int (nI 1)), (0, .ref a0), (1, .int x1), (6, .ref t0), (7, .ref t1), (10, .int x10)]) hx hb dL_holds_207 hl (by decide) rfl (fun ls hl => ?_)
            refine cz_nmL (v := x10 + nI 1) h (fun v39 e40 h => ?_)
            refine lv_iinc (v := v39) (lv' := [(10, .int v39), (5, .int v38), (4, .int v35), (3, .int (nI 0)), (2, .int v25), (8, .int v24), (12, .int (nI 0)), (11, .int (nI 0)), (9, .int (nI 1)), (0, .ref a0), (1, .int x1), (6, .ref t0), (7, .ref t1)]) hx hb dL_holds_209 hl (k := 12) rfl (by rw [e40]; rfl) (by decide) rfl (fun ls hl => ?_)
            refine lv_goto (tgt := 55) hx hb dL_holds_212 (by decide) ?_
            exact ih _ _ _ _ _ _ _ _ _ _ _ _ h hM (lv_sub hl [9, 10, 4, 3, 2, 1, 11, 12, 5, 8, 0] rfl)
        replace h := cz_ite_f c16 h
        by_cases c41 : v15 = (nI 1)
        · replace h := cz_ite_t c41 h
          subst c41
          refine lv_istore (lv' := [(11, .int (nI 1)), (9, .int (nI 1)), (0, .ref a0), (1, .int x1), (2, .int x2), (3, .int x3), (4, .int x4), (5, .int x5), (6, .ref t0), (7, .ref t1), (8, .int x8), (10, .int x10)]) hx hb dL_holds_81 hl (by decide) rfl (fun ls hl => ?_)
          refine lv_iload hx hb dL_holds_83 (lv_at hl 0 rfl) ?_
          refine lv_iconst (v := nI 1) hx hb dL_holds_85 (by decide) ?_
          refine lv_icmp_ne (tgt := 99) hx hb dL_holds_86 (by decide) (fun c42 => absurd (by decide) c42) (fun _ => ?_)
          refine lv_aload_n hx hb dL_holds_89 rfl (lv_at hl 2 rfl) ?_
          refine lv_iload hx hb dL_holds_90 (lv_at hl 11 rfl) ?_
          refine lv_iconst (v := nI 5) hx hb dL_holds_92 (by decide) ?_
          obtain ⟨v43, hq, h⟩ := cz_bd_t h
          refine cz_TrunV (rest := []) (As := [.int x10, .int (nI 5)]) (T := TX4) (N0 := 8) hcc hss X hM hl.1 (c_X4_letter (l := l) (g := g) (b := b) ka0 hq) mv_X4_letter rfl (by decide) ka0 ml_L_64 ⟨Nat.le_trans (Nat.le_of_ble_eq_true rfl) hRf, Nat.le_trans (Nat.le_of_ble_eq_true rfl) hRl⟩ rfl rfl (Nat.le_of_ble_eq_true rfl) dL_holds_93 (fun H locs hM => ?_)
          refine lv_goto (tgt := 100) hx hb dL_holds_96 (by decide) ?_
          refine lv_istore (lv' := [(12, .int v43), (11, .int (nI 1)), (9, .int (nI 1)), (0, .ref a0), (1, .int x1), (2, .int x2), (3, .int x3), (4, .int x4), (5, .int x5), (6, .ref t0), (7, .ref t1), (8, .int x8), (10, .int x10)]) hx hb dL_holds_100 hl (by decide) rfl (fun ls hl => ?_)
          refine lv_aload hx hb dL_holds_102 (lv_at hl 9 rfl) ?_
          refine lv_iload hx hb dL_holds_104 (lv_at hl 1 rfl) ?_
          refine lv_dup2_11 hx hb dL_holds_106 rfl rfl ?_
          refine cz_Tald (j := 0) (n := 3) X hM h rfl dL_holds_107 (fun h => ?_)
          refine lv_iconst (v := nI 1) hx hb dL_holds_108 (by decide) ?_
          refine lv_iadd hx hb dL_holds_109 ?_
          refine cz_Tast (j := 0) (n := 3) X hM h rfl dL_holds_110 (fun f44 H locs h hM => ?_)
          refine lv_aload hx hb dL_holds_111 (lv_at hl 10 rfl) ?_
          refine lv_aload_n hx hb dL_holds_113 rfl (lv_at hl 3 rfl) ?_
          refine lv_iload hx hb dL_holds_114 (lv_at hl 12 rfl) ?_
          refine lv_iconst (v := nI 1) hx hb dL_holds_116 (by decide) ?_
          obtain ⟨v45, hq, h⟩ := cz_bd_t h
          refine cz_TrunV (rest := [.ref t1]) (As := [.int x10, .int (nI 1)]) (T := TX4) (N0 := 8) hcc hss X hM hl.1 (c_X4_letter (l := l) (g := g) (b := b) ka0 hq) mv_X4_letter rfl (by decide) ka0 ml_L_64 ⟨Nat.le_trans (Nat.le_of_ble_eq_true rfl) hRf, Nat.le_trans (Nat.le_of_ble_eq_true rfl) hRl⟩ rfl rfl (Nat.le_of_ble_eq_true rfl) dL_holds_117 (fun H locs hM => ?_)
          refine lv_dup2_11 hx hb dL_holds_120 rfl rfl ?_
          refine cz_Tald (j := 1) (n := 2) X hM h rfl dL_holds_121 (fun h => ?_)
          refine lv_iload hx hb dL_holds_122 (lv_at hl 1 rfl) ?_
          refine lv_if_ne (tgt := 131) hx hb dL_holds_124 (by decide) (fun _ => ?_) (fun c46 => absurd c46 (by decide))
          refine lv_iconst (v := nI 0) hx hb dL_holds_131 (by decide) ?_
          refine lv_iadd hx hb dL_holds_132 ?_
          refine cz_Tast (j := 1) (n := 2) X hM h rfl dL_holds_133 (fun f47 H locs h hM => ?_)
          refine lv_iload hx hb dL_holds_134 (lv_at hl 11 rfl) ?_
          refine lv_iload hx hb dL_holds_136 (lv_at hl 1 rfl) ?_
          refine lv_if_ne (tgt := 151) hx hb dL_holds_138 (by decide) (fun _ => ?_) (fun c48 => absurd c48 (by decide))
          refine lv_iconst (v := nI 0) hx hb dL_holds_151 (by decide) ?_
          refine lv_iadd hx hb dL_holds_152 ?_
          refine cz_nmil h (fun v49 h => ?_)
          refine lv_istore (lv' := [(8, .int v49), (12, .int v43), (11, .int (nI 1)), (9, .int (nI 1)), (0, .ref a0), (1, .int x1), (2, .int x2), (3, .int x3), (4, .int x4), (5, .int x5), (6, .ref t0), (7, .ref t1), (10, .int x10)]) hx hb dL_holds_153 hl (by decide) rfl (fun ls hl => ?_)
          refine lv_iload_n hx hb dL_holds_155 rfl (lv_at hl 6 rfl) ?_
          refine lv_iload hx hb dL_holds_156 (lv_at hl 1 rfl) ?_
          refine lv_iadd hx hb dL_holds_158 ?_
          refine cz_nmil h (fun v50 h => ?_)
          refine lv_istore_n (lv' := [(2, .int v50), (8, .int v49), (12, .int v43), (11, .int (nI 1)), (9, .int (nI 1)), (0, .ref a0), (1, .int x1), (3, .int x3), (4, .int x4), (5, .int x5), (6, .ref t0), (7, .ref t1), (10, .int x10)]) hx hb dL_holds_159 rfl hl (by decide) rfl (fun ls hl => ?_)
          refine lv_iload hx hb dL_holds_160 (lv_at hl 2 rfl) ?_
          refine lv_iload_n hx hb dL_holds_162 rfl (lv_at hl 7 rfl) ?_
          refine lv_icmp_le (tgt := 171) hx hb dL_holds_163 (by decide) (fun c51 => ?_) (fun c51 => ?_)
          · have h := cz_ite_t c51 h
            refine lv_iload_n hx hb dL_holds_171 rfl (lv_at hl 7 rfl) ?_
            refine lv_istore_n (lv' := [(3, .int x3), (2, .int v50), (8, .int v49), (12, .int v43), (11, .int (nI 1)), (9, .int (nI 1)), (0, .ref a0), (1, .int x1), (4, .int x4), (5, .int x5), (6, .ref t0), (7, .ref t1), (10, .int x10)]) hx hb dL_holds_172 rfl hl (by decide) rfl (fun ls hl => ?_)
            refine lv_iload hx hb dL_holds_173 (lv_at hl 8 rfl) ?_
            refine lv_aload_n hx hb dL_holds_175 rfl (lv_at hl 6 rfl) ?_
            refine lv_iload hx hb dL_holds_176 (lv_at hl 12 rfl) ?_
            refine lv_bipush (v := nI 6) hx hb dL_holds_178 (by decide) ?_
            obtain ⟨v52, hq, h⟩ := cz_bd_t h
            refine cz_TrunV (rest := [.int x4]) (As := [.int x10, .int (nI 6)]) (T := TX4) (N0 := 8) hcc hss X hM hl.1 (c_X4_letter (l := l) (g := g) (b := b) ka0 hq) mv_X4_letter rfl (by decide) ka0 ml_L_64 ⟨Nat.le_trans (Nat.le_of_ble_eq_true rfl) hRf, Nat.le_trans (Nat.le_of_ble_eq_true rfl) hRl⟩ rfl rfl (Nat.le_of_ble_eq_true rfl) dL_holds_180 (fun H locs hM => ?_)
            refine lv_iadd hx hb dL_holds_183 ?_
            refine cz_nmil h (fun v53 h => ?_)
            refine lv_istore (lv' := [(4, .int v53), (3, .int x3), (2, .int v50), (8, .int v49), (12, .int v43), (11, .int (nI 1)), (9, .int (nI 1)), (0, .ref a0), (1, .int x1), (5, .int x5), (6, .ref t0), (7, .ref t1), (10, .int x10)]) hx hb dL_holds_184 hl (by decide) rfl (fun ls hl => ?_)
            refine lv_iload hx hb dL_holds_186 (lv_at hl 9 rfl) ?_
            refine lv_iload hx hb dL_holds_188 (lv_at hl 5 rfl) ?_
            refine lv_if_ne (tgt := 205) hx hb dL_holds_190 (by decide) (fun _ => ?_) (fun c54 => absurd c54 (by decide))
            refine lv_iconst (v := nI 0) hx hb dL_holds_205 (by decide) ?_
            refine lv_ior hx hb dL_holds_206 ?_
            refine cz_nmil h (fun v55 h => ?_)
            refine lv_istore (lv' := [(5, .int v55), (4, .int v53), (3, .int x3), (2, .int v50), (8, .int v49), (12, .int v43), (11, .int (nI 1)), (9, .int (nI 1)), (0, .ref a0), (1, .int x1), (6, .ref t0), (7, .ref t1), (10, .int x10)]) hx hb dL_holds_207 hl (by decide) rfl (fun ls hl => ?_)
            refine cz_nmL (v := x10 + nI 1) h (fun v56 e57 h => ?_)
            refine lv_iinc (v := v56) (lv' := [(10, .int v56), (5, .int v55), (4, .int v53), (3, .int x3), (2, .int v50), (8, .int v49), (12, .int v43), (11, .int (nI 1)), (9, .int (nI 1)), (0, .ref a0), (1, .int x1), (6, .ref t0), (7, .ref t1)]) hx hb dL_holds_209 hl (k := 12) rfl (by rw [e57]; rfl) (by decide) rfl (fun ls hl => ?_)
            refine lv_goto (tgt := 55) hx hb dL_holds_212 (by decide) ?_
            exact ih _ _ _ _ _ _ _ _ _ _ _ _ h hM (lv_sub hl [9, 10, 4, 3, 2, 1, 11, 12, 5, 8, 0] rfl)
          · have h := cz_ite_f c51 h
            refine lv_iload hx hb dL_holds_166 (lv_at hl 2 rfl) ?_
            refine lv_goto (tgt := 172) hx hb dL_holds_168 (by decide) ?_
            refine lv_istore_n (lv' := [(3, .int v43), (2, .int v50), (8, .int v49), (12, .int v43), (11, .int (nI 1)), (9, .int (nI 1)), (0, .ref a0), (1, .int x1), (4, .int x4), (5, .int x5), (6, .ref t0), (7, .ref t1), (10, .int x10)]) hx hb dL_holds_172 rfl hl (by decide) rfl (fun ls hl => ?_)
            refine lv_iload hx hb dL_holds_173 (lv_at hl 8 rfl) ?_
            refine lv_aload_n hx hb dL_holds_175 rfl (lv_at hl 6 rfl) ?_
            refine lv_iload hx hb dL_holds_176 (lv_at hl 12 rfl) ?_
            refine lv_bipush (v := nI 6) hx hb dL_holds_178 (by decide) ?_
            obtain ⟨v58, hq, h⟩ := cz_bd_t h
            refine cz_TrunV (rest := [.int x4]) (As := [.int x10, .int (nI 6)]) (T := TX4) (N0 := 8) hcc hss X hM hl.1 (c_X4_letter (l := l) (g := g) (b := b) ka0 hq) mv_X4_letter rfl (by decide) ka0 ml_L_64 ⟨Nat.le_trans (Nat.le_of_ble_eq_true rfl) hRf, Nat.le_trans (Nat.le_of_ble_eq_true rfl) hRl⟩ rfl rfl (Nat.le_of_ble_eq_true rfl) dL_holds_180 (fun H locs hM => ?_)
            refine lv_iadd hx hb dL_holds_183 ?_
            refine cz_nmil h (fun v59 h => ?_)
            refine lv_istore (lv' := [(4, .int v59), (3, .int v43), (2, .int v50), (8, .int v49), (12, .int v43), (11, .int (nI 1)), (9, .int (nI 1)), (0, .ref a0), (1, .int x1), (5, .int x5), (6, .ref t0), (7, .ref t1), (10, .int x10)]) hx hb dL_holds_184 hl (by decide) rfl (fun ls hl => ?_)
            refine lv_iload hx hb dL_holds_186 (lv_at hl 9 rfl) ?_
            refine lv_iload hx hb dL_holds_188 (lv_at hl 5 rfl) ?_
            refine lv_if_ne (tgt := 205) hx hb dL_holds_190 (by decide) (fun _ => ?_) (fun c60 => absurd c60 (by decide))
            refine lv_iconst (v := nI 0) hx hb dL_holds_205 (by decide) ?_
            refine lv_ior hx hb dL_holds_206 ?_
            refine cz_nmil h (fun v61 h => ?_)
            refine lv_istore (lv' := [(5, .int v61), (4, .int v59), (3, .int v43), (2, .int v50), (8, .int v49), (12, .int v43), (11, .int (nI 1)), (9, .int (nI 1)), (0, .ref a0), (1, .int x1), (6, .ref t0), (7, .ref t1), (10, .int x10)]) hx hb dL_holds_207 hl (by decide) rfl (fun ls hl => ?_)
            refine cz_nmL (v := x10 + nI 1) h (fun v62 e63 h => ?_)
            refine lv_iinc (v := v62) (lv' := [(10, .int v62), (5, .int v61), (4, .int v59), (3, .int v43), (2, .int v50), (8, .int v49), (12, .int v43), (11, .int (nI 1)), (9, .int (nI 1)), (0, .ref a0), (1, .int x1), (6, .ref t0), (7, .ref t1)]) hx hb dL_holds_209 hl (k := 12) rfl (by rw [e63]; rfl) (by decide) rfl (fun ls hl => ?_)
            refine lv_goto (tgt := 55) hx hb dL_holds_212 (by decide) ?_
            exact ih _ _ _ _ _ _ _ _ _ _ _ _ h hM (lv_sub hl [9, 10, 4, 3, 2, 1, 11, 12, 5, 8, 0] rfl)
        replace h := cz_ite_f c41 h
        by_cases c64 : v15 = (nI 2)
        · replace h := cz_ite_t c64 h
          subst c64
          refine lv_istore (lv' := [(11, .int (nI 2)), (9, .int (nI 1)), (0, .ref a0), (1, .int x1), (2, .int x2), (3, .int x3), (4, .int x4), (5, .int x5), (6, .ref t0), (7, .ref t1), (8, .int x8), (10, .int x10)]) hx hb dL_holds_81 hl (by decide) rfl (fun ls hl => ?_)
          refine lv_iload hx hb dL_holds_83 (lv_at hl 0 rfl) ?_
          refine lv_iconst (v := nI 1) hx hb dL_holds_85 (by decide) ?_
          refine lv_icmp_ne (tgt := 99) hx hb dL_holds_86 (by decide) (fun _ => ?_) (fun c65 => absurd c65 (by decide))
          refine lv_iconst (v := nI 0) hx hb dL_holds_99 (by decide) ?_
          refine lv_istore (lv' := [(12, .int (nI 0)), (11, .int (nI 2)), (9, .int (nI 1)), (0, .ref a0), (1, .int x1), (2, .int x2), (3, .int x3), (4, .int x4), (5, .int x5), (6, .ref t0), (7, .ref t1), (8, .int x8), (10, .int x10)]) hx hb dL_holds_100 hl (by decide) rfl (fun ls hl => ?_)
          refine lv_aload hx hb dL_holds_102 (lv_at hl 9 rfl) ?_
          refine lv_iload hx hb dL_holds_104 (lv_at hl 1 rfl) ?_
          refine lv_dup2_11 hx hb dL_holds_106 rfl rfl ?_
          refine cz_Tald (j := 0) (n := 3) X hM h rfl dL_holds_107 (fun h => ?_)
          refine lv_iconst (v := nI 1) hx hb dL_holds_108 (by decide) ?_
          refine lv_iadd hx hb dL_holds_109 ?_
          refine cz_Tast (j := 0) (n := 3) X hM h rfl dL_holds_110 (fun f66 H locs h hM => ?_)
          refine lv_aload hx hb dL_holds_111 (lv_at hl 10 rfl) ?_
          refine lv_aload_n hx hb dL_holds_113 rfl (lv_at hl 3 rfl) ?_
          refine lv_iload hx hb dL_holds_114 (lv_at hl 12 rfl) ?_
          refine lv_iconst (v := nI 1) hx hb dL_holds_116 (by decide) ?_
          obtain ⟨v67, hq, h⟩ := cz_bd_t h
          refine cz_TrunV (rest := [.ref t1]) (As := [.int x10, .int (nI 1)]) (T := TX4) (N0 := 8) hcc hss X hM hl.1 (c_X4_letter (l := l) (g := g) (b := b) ka0 hq) mv_X4_letter rfl (by decide) ka0 ml_L_64 ⟨Nat.le_trans (Nat.le_of_ble_eq_true rfl) hRf, Nat.le_trans (Nat.le_of_ble_eq_true rfl) hRl⟩ rfl rfl (Nat.le_of_ble_eq_true rfl) dL_holds_117 (fun H locs hM => ?_)
          refine lv_dup2_11 hx hb dL_holds_120 rfl rfl ?_
          refine cz_Tald (j := 1) (n := 2) X hM h rfl dL_holds_121 (fun h => ?_)
          refine lv_iload hx hb dL_holds_122 (lv_at hl 1 rfl) ?_
          refine lv_if_ne (tgt := 131) hx hb dL_holds_124 (by decide) (fun _ => ?_) (fun c68 => absurd c68 (by decide))
          refine lv_iconst (v := nI 0) hx hb dL_holds_131 (by decide) ?_
          refine lv_iadd hx hb dL_holds_132 ?_
          refine cz_Tast (j := 1) (n := 2) X hM h rfl dL_holds_133 (fun f69 H locs h hM => ?_)
          refine lv_iload hx hb dL_holds_134 (lv_at hl 11 rfl) ?_
          refine lv_iload hx hb dL_holds_136 (lv_at hl 1 rfl) ?_
          refine lv_if_ne (tgt := 151) hx hb dL_holds_138 (by decide) (fun _ => ?_) (fun c70 => absurd c70 (by decide))
          refine lv_iconst (v := nI 0) hx hb dL_holds_151 (by decide) ?_
          refine lv_iadd hx hb dL_holds_152 ?_
          refine cz_nmil h (fun v71 h => ?_)
          refine lv_istore (lv' := [(8, .int v71), (12, .int (nI 0)), (11, .int (nI 2)), (9, .int (nI 1)), (0, .ref a0), (1, .int x1), (2, .int x2), (3, .int x3), (4, .int x4), (5, .int x5), (6, .ref t0), (7, .ref t1), (10, .int x10)]) hx hb dL_holds_153 hl (by decide) rfl (fun ls hl => ?_)
          refine lv_iload_n hx hb dL_holds_155 rfl (lv_at hl 6 rfl) ?_
          refine lv_iload hx hb dL_holds_156 (lv_at hl 1 rfl) ?_
          refine lv_iadd hx hb dL_holds_158 ?_
          refine cz_nmil h (fun v72 h => ?_)
          refine lv_istore_n (lv' := [(2, .int v72), (8, .int v71), (12, .int (nI 0)), (11, .int (nI 2)), (9, .int (nI 1)), (0, .ref a0), (1, .int x1), (3, .int x3), (4, .int x4), (5, .int x5), (6, .ref t0), (7, .ref t1), (10, .int x10)]) hx hb dL_holds_159 rfl hl (by decide) rfl (fun ls hl => ?_)
          refine lv_iload hx hb dL_holds_160 (lv_at hl 2 rfl) ?_
          refine lv_iload_n hx hb dL_holds_162 rfl (lv_at hl 7 rfl) ?_
          refine lv_icmp_le (tgt := 171) hx hb dL_holds_163 (by decide) (fun c73 => ?_) (fun c73 => ?_)
          · have h := cz_ite_t c73 h
            refine lv_iload_n hx hb dL_holds_171 rfl (lv_at hl 7 rfl) ?_
            refine lv_istore_n (lv' := [(3, .int x3), (2, .int v72), (8, .int v71), (12, .int (nI 0)), (11, .int (nI 2)), (9, .int (nI 1)), (0, .ref a0), (1, .int x1), (4, .int x4), (5, .int x5), (6, .ref t0), (7, .ref t1), (10, .int x10)]) hx hb dL_holds_172 rfl hl (by decide) rfl (fun ls hl => ?_)
            refine lv_iload hx hb dL_holds_173 (lv_at hl 8 rfl) ?_
            refine lv_aload_n hx hb dL_holds_175 rfl (lv_at hl 6 rfl) ?_
            refine lv_iload hx hb dL_holds_176 (lv_at hl 12 rfl) ?_
            refine lv_bipush (v := nI 6) hx hb dL_holds_178 (by decide) ?_
            obtain ⟨v74, hq, h⟩ := cz_bd_t h
            refine cz_TrunV (rest := [.int x4]) (As := [.int x10, .int (nI 6)]) (T := TX4) (N0 := 8) hcc hss X hM hl.1 (c_X4_letter (l := l) (g := g) (b := b) ka0 hq) mv_X4_letter rfl (by decide) ka0 ml_L_64 ⟨Nat.le_trans (Nat.le_of_ble_eq_true rfl) hRf, Nat.le_trans (Nat.le_of_ble_eq_true rfl) hRl⟩ rfl rfl (Nat.le_of_ble_eq_true rfl) dL_holds_180 (fun H locs hM => ?_)
            refine lv_iadd hx hb dL_holds_183 ?_
            refine cz_nmil h (fun v75 h => ?_)
            refine lv_istore (lv' := [(4, .int v75), (3, .int x3), (2, .int v72), (8, .int v71), (12, .int (nI 0)), (11, .int (nI 2)), (9, .int (nI 1)), (0, .ref a0), (1, .int x1), (5, .int x5), (6, .ref t0), (7, .ref t1), (10, .int x10)]) hx hb dL_holds_184 hl (by decide) rfl (fun ls hl => ?_)
            refine lv_iload hx hb dL_holds_186 (lv_at hl 9 rfl) ?_
            refine lv_iload hx hb dL_holds_188 (lv_at hl 5 rfl) ?_
            refine lv_if_ne (tgt := 205) hx hb dL_holds_190 (by decide) (fun _ => ?_) (fun c76 => absurd c76 (by decide))
            refine lv_iconst (v := nI 0) hx hb dL_holds_205 (by decide) ?_
            refine lv_ior hx hb dL_holds_206 ?_
            refine cz_nmil h (fun v77 h => ?_)
            refine lv_istore (lv' := [(5, .int v77), (4, .int v75), (3, .int x3), (2, .int v72), (8, .int v71), (12, .int (nI 0)), (11, .int (nI 2)), (9, .int (nI 1)), (0, .ref a0), (1, .int x1), (6, .ref t0), (7, .ref t1), (10, .int x10)]) hx hb dL_holds_207 hl (by decide) rfl (fun ls hl => ?_)
            refine cz_nmL (v := x10 + nI 1) h (fun v78 e79 h => ?_)
            refine lv_iinc (v := v78) (lv' := [(10, .int v78), (5, .int v77), (4, .int v75), (3, .int x3), (2, .int v72), (8, .int v71), (12, .int (nI 0)), (11, .int (nI 2)), (9, .int (nI 1)), (0, .ref a0), (1, .int x1), (6, .ref t0), (7, .ref t1)]) hx hb dL_holds_209 hl (k := 12) rfl (by rw [e79]; rfl) (by decide) rfl (fun ls hl => ?_)
            refine lv_goto (tgt := 55) hx hb dL_holds_212 (by decide) ?_
            exact ih _ _ _ _ _ _ _ _ _ _ _ _ h hM (lv_sub hl [9, 10, 4, 3, 2, 1, 11, 12, 5, 8, 0] rfl)
          · have h := cz_ite_f c73 h
            refine lv_iload hx hb dL_holds_166 (lv_at hl 2 rfl) ?_
            refine lv_goto (tgt := 172) hx hb dL_holds_168 (by decide) ?_
            refine lv_istore_n (lv' := [(3, .int (nI 0)), (2, .int v72), (8, .int v71), (12, .int (nI 0)), (11, .int (nI 2)), (9, .int (nI 1)), (0, .ref a0), (1, .int x1), (4, .int x4), (5, .int x5), (6, .ref t0), (7, .ref t1), (10, .int x10)]) hx hb dL_holds_172 rfl hl (by decide) rfl (fun ls hl => ?_)
            refine lv_iload hx hb dL_holds_173 (lv_at hl 8 rfl) ?_
            refine lv_aload_n hx hb dL_holds_175 rfl (lv_at hl 6 rfl) ?_
            refine lv_iload hx hb dL_holds_176 (lv_at hl 12 rfl) ?_
            refine lv_bipush (v := nI 6) hx hb dL_holds_178 (by decide) ?_
            obtain ⟨v80, hq, h⟩ := cz_bd_t h
            refine cz_TrunV (rest := [.int x4]) (As := [.int x10, .int (nI 6)]) (T := TX4) (N0 := 8) hcc hss X hM hl.1 (c_X4_letter (l := l) (g := g) (b := b) ka0 hq) mv_X4_letter rfl (by decide) ka0 ml_L_64 ⟨Nat.le_trans (Nat.le_of_ble_eq_true rfl) hRf, Nat.le_trans (Nat.le_of_ble_eq_true rfl) hRl⟩ rfl rfl (Nat.le_of_ble_eq_true rfl) dL_holds_180 (fun H locs hM => ?_)
            refine lv_iadd hx hb dL_holds_183 ?_
            refine cz_nmil h (fun v81 h => ?_)
            refine lv_istore (lv' := [(4, .int v81), (3, .int (nI 0)), (2, .int v72), (8, .int v71), (12, .int (nI 0)), (11, .int (nI 2)), (9, .int (nI 1)), (0, .ref a0), (1, .int x1), (5, .int x5), (6, .ref t0), (7, .ref t1), (10, .int x10)]) hx hb dL_holds_184 hl (by decide) rfl (fun ls hl => ?_)
            refine lv_iload hx hb dL_holds_186 (lv_at hl 9 rfl) ?_
            refine lv_iload hx hb dL_holds_188 (lv_at hl 5 rfl) ?_
            refine lv_if_ne (tgt := 205) hx hb dL_holds_190 (by decide) (fun _ => ?_) (fun c82 => absurd c82 (by decide))
            refine lv_iconst (v := nI 0) hx hb dL_holds_205 (by decide) ?_
            refine lv_ior hx hb dL_holds_206 ?_
            refine cz_nmil h (fun v83 h => ?_)
            refine lv_istore (lv' := [(5, .int v83), (4, .int v81), (3, .int (nI 0)), (2, .int v72), (8, .int v71), (12, .int (nI 0)), (11, .int (nI 2)), (9, .int (nI 1)), (0, .ref a0), (1, .int x1), (6, .ref t0), (7, .ref t1), (10, .int x10)]) hx hb dL_holds_207 hl (by decide) rfl (fun ls hl => ?_)
            refine cz_nmL (v := x10 + nI 1) h (fun v84 e85 h => ?_)
            refine lv_iinc (v := v84) (lv' := [(10, .int v84), (5, .int v83), (4, .int v81), (3, .int (nI 0)), (2, .int v72), (8, .int v71), (12, .int (nI 0)), (11, .int (nI 2)), (9, .int (nI 1)), (0, .ref a0), (1, .int x1), (6, .ref t0), (7, .ref t1)]) hx hb dL_holds_209 hl (k := 12) rfl (by rw [e85]; rfl) (by decide) rfl (fun ls hl => ?_)
            refine lv_goto (tgt := 55) hx hb dL_holds_212 (by decide) ?_
            exact ih _ _ _ _ _ _ _ _ _ _ _ _ h hM (lv_sub hl [9, 10, 4, 3, 2, 1, 11, 12, 5, 8, 0] rfl)
        replace h := cz_ite_f c64 h
        cases h
      replace h := cz_ite_f c14 h
      cases h
set_option maxHeartbeats 4000000 in
set_option maxRecDepth 100000 in
theorem w_L_holds_L221 {p : Program} {l : Launch} {e : Env} {s : State} {m : MethodId} {args : Array Value} {below : List Frame} {meth : Method} {c : Code} {g : cz_G} {b : Nat} (X : cz_X p s m args meth c cL_holds 13 RL g b (some .boolean)) {cells slots : Nat} (hcc : cells ≤ 2) (hss : slots ≤ 5) {t0 t1 : Nat} {r0 : Int32} {M9 : cz_M} {a0 : Nat} {x2 : Int32} {x3 : Int32} {x4 : Int32} {x5 : Int32} {x8 : Int32} {M : cz_M} (ka0 : cz_K b a0 4)
    (K : Int32 → Int32 → (Nat → Int32) → (Nat → Int32) → Option (Int32 × cz_M)) (hX : ∀ (x10 : Int32) (x11 : Int32) (f0 : Nat → Int32) (f1 : Nat → Int32) (H : Heap) (locs : List Loc) (ls : Array Slot), K x10 x11 f0 f1 = some (r0, M9) → cz_WT g b M [cz_sc g t0 3 f0, cz_sc g t1 2 f1] s H locs → lv_has ls 13 [(0, .ref a0), (2, .int x2), (3, .int x3), (4, .int x4), (5, .int x5), (6, .ref t0), (7, .ref t1), (8, .int x8), (9, .int (nI 1)), (10, .int x10), (11, .int x11)] → W p l e { frames := 7, cells := 2, slots := 5, locals := 169 } s m args below meth c H locs cells slots (MQ below (cz_QD g b (some (.int r0)) M9) args s 2 5 (fun q => b ≤ q)) (F0 m 294 ls [])) :
    ∀ (n : Nat) (x10 : Int32) (x11 : Int32) (f0 : Nat → Int32) (f1 : Nat → Int32) (H : Heap) (locs : List Loc) (ls : Array Slot), cz_it4 (f_L_holds_L221 a0 x2 x3 x4 x5 x8 M K) n x10 x11 f0 f1 = some (r0, M9) → cz_WT g b M [cz_sc g t0 3 f0, cz_sc g t1 2 f1] s H locs → lv_has ls 13 [(0, .ref a0), (2, .int x2), (3, .int x3), (4, .int x4), (5, .int x5), (6, .ref t0), (7, .ref t1), (8, .int x8), (9, .int (nI 1)), (10, .int x10), (11, .int x11)] → W p l e { frames := 7, cells := 2, slots := 5, locals := 169 } s m args below meth c H locs cells slots (MQ below (cz_QD g b (some (.int r0)) M9) args s 2 5 (fun q => b ≤ q)) (F0 m 221 ls []) := by
  obtain ⟨hx, hb, -, ho, ht, -⟩ := id X
  intro n
  induction n with
  | zero => intro x10 x11 f0 f1 H locs ls h; cases (show none = some _ from h)
  | succ n ih =>
    intro x10 x11 f0 f1 H locs ls h hM hl
    have h : f_L_holds_L221 a0 x2 x3 x4 x5 x8 M K (cz_it4 (f_L_holds_L221 a0 x2 x3 x4 x5 x8 M K) n) x10 x11 f0 f1 = some (r0, M9) := h
    rw [f_L_holds_L221] at h
    have hRf : 7 ≤ ({ frames := 7, cells := 2, slots := 5, locals := 169 } : Room).frames := Nat.le_refl _
    have hRl : 169 ≤ ({ frames := 7, cells := 2, slots := 5, locals := 169 } : Room).locals := Nat.le_refl _
    refine lv_iload hx hb dL_holds_221 (lv_at hl 10 rfl) ?_
    refine lv_iconst (v := nI 4) hx hb dL_holds_223 (by decide) ?_
    refine lv_icmp_ge (tgt := 294) hx hb dL_holds_224 (by decide) (fun c95 => ?_) (fun c95 => ?_)
    · have h := cz_ite_t c95 h
      exact hX _ _ _ _ _ _ _ h hM (lv_sub hl [0, 1, 2, 3, 4, 5, 6, 7, 8, 9, 10] rfl)
    · have h := cz_ite_f c95 h
      refine lv_iload hx hb dL_holds_227 (lv_at hl 8 rfl) ?_
      refine lv_if_eq (tgt := 294) hx hb dL_holds_229 (by decide) (fun c96 => absurd c96 (by decide)) (fun _ => ?_)
      refine lv_iload hx hb dL_holds_232 (lv_at hl 9 rfl) ?_
      refine lv_aload_n hx hb dL_holds_234 rfl (lv_at hl 0 rfl) ?_
      refine lv_iload hx hb dL_holds_235 (lv_at hl 10 rfl) ?_
      refine lv_iconst (v := nI 1) hx hb dL_holds_237 (by decide) ?_
      obtain ⟨v97, hq, h⟩ := cz_bd_t h
      refine cz_TrunV (rest := [.int x10]) (As := [.int x11, .int (nI 1)]) (T := TX4) (N0 := 8) hcc hss X hM hl.1 (c_X4_censor (l := l) (g := g) (b := b) ka0 hq) mv_X4_censor rfl (by decide) ka0 ml_L_74 ⟨Nat.le_trans (Nat.le_of_ble_eq_true rfl) hRf, Nat.le_trans (Nat.le_of_ble_eq_true rfl) hRl⟩ rfl rfl (Nat.le_of_ble_eq_true rfl) dL_holds_238 (fun H locs hM => ?_)
      refine lv_iadd hx hb dL_holds_241 ?_
      refine cz_nmil h (fun v98 h => ?_)
      refine lv_istore (lv' := [(10, .int v98), (0, .ref a0), (2, .int x2), (3, .int x3), (4, .int x4), (5, .int x5), (6, .ref t0), (7, .ref t1), (8, .int x8), (9, .int (nI 1)), (11, .int x11)]) hx hb dL_holds_242 hl (by decide) rfl (fun ls hl => ?_)
      refine lv_aload_n hx hb dL_holds_244 rfl (lv_at hl 1 rfl) ?_
      refine lv_iload hx hb dL_holds_245 (lv_at hl 10 rfl) ?_
      refine lv_iconst (v := nI 0) hx hb dL_holds_247 (by decide) ?_
      obtain ⟨v99, hq, h⟩ := cz_bd_t h
      refine cz_TrunV (rest := []) (As := [.int x11, .int (nI 0)]) (T := TX4) (N0 := 8) hcc hss X hM hl.1 (c_X4_censor (l := l) (g := g) (b := b) ka0 hq) mv_X4_censor rfl (by decide) ka0 ml_L_74 ⟨Nat.le_trans (Nat.le_of_ble_eq_true rfl) hRf, Nat.le_trans (Nat.le_of_ble_eq_true rfl) hRl⟩ rfl rfl (Nat.le_of_ble_eq_true rfl) dL_holds_248 (fun H locs hM => ?_)
      refine lv_if_lt (tgt := 285) hx hb dL_holds_251 (by decide) (fun c100 => ?_) (fun c100 => ?_)
      · have h := cz_ite_t c100 h
        refine lv_iconst (v := nI 0) hx hb dL_holds_285 (by decide) ?_
        cases h
      · have h := cz_ite_f c100 h
        refine lv_aload_n hx hb dL_holds_254 rfl (lv_at hl 1 rfl) ?_
        refine lv_iload hx hb dL_holds_255 (lv_at hl 10 rfl) ?_
        refine lv_iconst (v := nI 4) hx hb dL_holds_257 (by decide) ?_
        obtain ⟨v101, hq, h⟩ := cz_bd_t h
        refine cz_TrunV (rest := []) (As := [.int x11, .int (nI 4)]) (T := TX4) (N0 := 8) hcc hss X hM hl.1 (c_X4_censor (l := l) (g := g) (b := b) ka0 hq) mv_X4_censor rfl (by decide) ka0 ml_L_74 ⟨Nat.le_trans (Nat.le_of_ble_eq_true rfl) hRf, Nat.le_trans (Nat.le_of_ble_eq_true rfl) hRl⟩ rfl rfl (Nat.le_of_ble_eq_true rfl) dL_holds_258 (fun H locs hM => ?_)
        refine lv_aload_n hx hb dL_holds_261 rfl (lv_at hl 1 rfl) ?_
        refine lv_iload hx hb dL_holds_262 (lv_at hl 10 rfl) ?_
        refine lv_iconst (v := nI 2) hx hb dL_holds_264 (by decide) ?_
        obtain ⟨v102, hq, h⟩ := cz_bd_t h
        refine cz_TrunV (rest := [.int v101]) (As := [.int x11, .int (nI 2)]) (T := TX4) (N0 := 8) hcc hss X hM hl.1 (c_X4_censor (l := l) (g := g) (b := b) ka0 hq) mv_X4_censor rfl (by decide) ka0 ml_L_74 ⟨Nat.le_trans (Nat.le_of_ble_eq_true rfl) hRf, Nat.le_trans (Nat.le_of_ble_eq_true rfl) hRl⟩ rfl rfl (Nat.le_of_ble_eq_true rfl) dL_holds_265 (fun H locs hM => ?_)
        refine lv_icmp_gt (tgt := 285) hx hb dL_holds_268 (by decide) (fun c103 => ?_) (fun c103 => ?_)
        · have h := cz_ite_t c103 h
          refine lv_iconst (v := nI 0) hx hb dL_holds_285 (by decide) ?_
          cases h
        · have h := cz_ite_f c103 h
          refine lv_aload_n hx hb dL_holds_271 rfl (lv_at hl 1 rfl) ?_
          refine lv_iconst (v := nI 4) hx hb dL_holds_272 (by decide) ?_
          refine lv_iconst (v := nI 0) hx hb dL_holds_273 (by decide) ?_
          obtain ⟨v104, hq, h⟩ := cz_bd_t h
          refine cz_TrunV (rest := []) (As := [.int (nI 4), .int (nI 0)]) (T := TX4) (N0 := 8) hcc hss X hM hl.1 (c_X4_censor (l := l) (g := g) (b := b) ka0 hq) mv_X4_censor rfl (by decide) ka0 ml_L_74 ⟨Nat.le_trans (Nat.le_of_ble_eq_true rfl) hRf, Nat.le_trans (Nat.le_of_ble_eq_true rfl) hRl⟩ rfl rfl (Nat.le_of_ble_eq_true rfl) dL_holds_274 (fun H locs hM => ?_)
          refine lv_iconst (v := -1) hx hb dL_holds_277 (by decide) ?_
          refine lv_icmp_ne (tgt := 285) hx hb dL_holds_278 (by decide) (fun c105 => ?_) (fun c105 => ?_)
          · have h := cz_ite_f c105 h
            refine lv_iconst (v := nI 0) hx hb dL_holds_285 (by decide) ?_
            cases h
          · have h := cz_ite_t c105 h
            refine lv_iconst (v := nI 1) hx hb dL_holds_281 (by decide) ?_
            refine lv_goto (tgt := 286) hx hb dL_holds_282 (by decide) ?_
            refine lv_istore (lv' := [(9, .int (nI 1)), (10, .int v98), (0, .ref a0), (2, .int x2), (3, .int x3), (4, .int x4), (5, .int x5), (6, .ref t0), (7, .ref t1), (8, .int x8), (11, .int x11)]) hx hb dL_holds_286 hl (by decide) rfl (fun ls hl => ?_)
            refine cz_nmL (v := x11 + nI 1) h (fun v106 e107 h => ?_)
            refine lv_iinc (v := v106) (lv' := [(11, .int v106), (9, .int (nI 1)), (10, .int v98), (0, .ref a0), (2, .int x2), (3, .int x3), (4, .int x4), (5, .int x5), (6, .ref t0), (7, .ref t1), (8, .int x8)]) hx hb dL_holds_288 hl (k := 10) rfl (by rw [e107]; rfl) (by decide) rfl (fun ls hl => ?_)
            refine lv_goto (tgt := 221) hx hb dL_holds_291 (by decide) ?_
            exact ih _ _ _ _ _ _ _ h hM (lv_sub hl [3, 4, 5, 6, 7, 8, 9, 10, 1, 2, 0] rfl)
set_option maxHeartbeats 4000000 in
set_option maxRecDepth 100000 in
theorem c_L_holds {l : Launch} {g : cz_G} {b : Nat} {M : cz_M} {r0 : Int32} {M9 : cz_M} {a0 : Nat} (ka0 : cz_K b a0 4) (h : f_L_holds M a0 = some (r0, M9)) : cz_D l yL_holds cL_holds 13 (some .boolean) 7 169 2 5 g b [.ref a0] M (some (.int r0)) M9 := by
  refine cz_startD (by decide) (Nat.le_of_ble_eq_true rfl) (fun p e s m args below meth c X H ls hM hl => ?_)
  have X : cz_X p s m args meth c cL_holds 13 RL g b (some .boolean) := X
  obtain ⟨hx, hb, -, ho, ht, -⟩ := id X
  have hRf : 7 ≤ ({ frames := 7, cells := 2, slots := 5, locals := 169 } : Room).frames := Nat.le_refl _
  have hRl : 169 ≤ ({ frames := 7, cells := 2, slots := 5, locals := 169 } : Room).locals := Nat.le_refl _
  have hl : lv_has ls 13 [(0, .ref a0)] := hl
  rw [f_L_holds] at h
  refine lv_aload_n hx hb dL_holds_0 rfl (lv_at hl 0 rfl) ?_
  refine lv_iconst (v := nI 4) hx hb dL_holds_1 (by decide) ?_
  obtain ⟨v2, M1, hq, h⟩ := cz_b2_t h
  refine cz_TrunV (rest := []) (As := [.int (nI 4)]) (T := TX4) (N0 := 8) (Nat.le_of_ble_eq_true rfl) (Nat.le_of_ble_eq_true rfl) X hM hl.1 (c_X4_count (l := l) (g := g) (b := b) ka0 hq) mv_X4_count rfl (by decide) ka0 ml_L_9 ⟨Nat.le_trans (Nat.le_of_ble_eq_true rfl) hRf, Nat.le_trans (Nat.le_of_ble_eq_true rfl) hRl⟩ rfl rfl (Nat.le_of_ble_eq_true rfl) dL_holds_2 (fun H locs hM => ?_)
  refine lv_istore_n (lv' := [(1, .int v2), (0, .ref a0)]) hx hb dL_holds_5 rfl hl (by decide) rfl (fun ls hl => ?_)
  refine lv_iconst (v := nI 0) hx hb dL_holds_6 (by decide) ?_
  refine lv_istore_n (lv' := [(2, .int (nI 0)), (1, .int v2), (0, .ref a0)]) hx hb dL_holds_7 rfl hl (by decide) rfl (fun ls hl => ?_)
  refine lv_iconst (v := nI 0) hx hb dL_holds_8 (by decide) ?_
  refine lv_istore_n (lv' := [(3, .int (nI 0)), (2, .int (nI 0)), (1, .int v2), (0, .ref a0)]) hx hb dL_holds_9 rfl hl (by decide) rfl (fun ls hl => ?_)
  refine lv_iconst (v := nI 0) hx hb dL_holds_10 (by decide) ?_
  refine lv_istore (lv' := [(4, .int (nI 0)), (3, .int (nI 0)), (2, .int (nI 0)), (1, .int v2), (0, .ref a0)]) hx hb dL_holds_11 hl (by decide) rfl (fun ls hl => ?_)
  refine lv_iconst (v := nI 0) hx hb dL_holds_13 (by decide) ?_
  refine lv_istore (lv' := [(5, .int (nI 0)), (4, .int (nI 0)), (3, .int (nI 0)), (2, .int (nI 0)), (1, .int v2), (0, .ref a0)]) hx hb dL_holds_14 hl (by decide) rfl (fun ls hl => ?_)
  refine lv_iconst (v := nI 3) hx hb dL_holds_16 (by decide) ?_
  refine cz_Tnew (N' := 3) (atype := .int) X hM h rfl ac_int (by decide) rfl (Nat.le_of_ble_eq_true rfl) (Nat.le_of_ble_eq_true rfl) (Nat.le_of_ble_eq_true rfl) dL_holds_17 (fun f4 t3 H h hM => ?_)
  refine lv_astore (lv' := [(6, .ref t3), (5, .int (nI 0)), (4, .int (nI 0)), (3, .int (nI 0)), (2, .int (nI 0)), (1, .int v2), (0, .ref a0)]) hx hb dL_holds_19 hl (by decide) rfl (fun ls hl => ?_)
  refine lv_iconst (v := nI 2) hx hb dL_holds_21 (by decide) ?_
  refine cz_Tnew (N' := 2) (atype := .int) X hM h rfl ac_int (by decide) rfl (Nat.le_of_ble_eq_true rfl) (Nat.le_of_ble_eq_true rfl) (Nat.le_of_ble_eq_true rfl) dL_holds_22 (fun f6 t5 H h hM => ?_)
  refine lv_astore (lv' := [(7, .ref t5), (6, .ref t3), (5, .int (nI 0)), (4, .int (nI 0)), (3, .int (nI 0)), (2, .int (nI 0)), (1, .int v2), (0, .ref a0)]) hx hb dL_holds_24 hl (by decide) rfl (fun ls hl => ?_)
  refine lv_iconst (v := nI 0) hx hb dL_holds_26 (by decide) ?_
  refine lv_istore (lv' := [(8, .int (nI 0)), (7, .ref t5), (6, .ref t3), (5, .int (nI 0)), (4, .int (nI 0)), (3, .int (nI 0)), (2, .int (nI 0)), (1, .int v2), (0, .ref a0)]) hx hb dL_holds_27 hl (by decide) rfl (fun ls hl => ?_)
  refine lv_aload_n hx hb dL_holds_29 rfl (lv_at hl 8 rfl) ?_
  refine lv_iload_n hx hb dL_holds_30 rfl (lv_at hl 7 rfl) ?_
  refine lv_iconst (v := nI 0) hx hb dL_holds_31 (by decide) ?_
  obtain ⟨v7, hq, h⟩ := cz_bd_t h
  refine cz_TrunV (rest := []) (As := [.int v2, .int (nI 0)]) (T := TX4) (N0 := 8) (Nat.le_of_ble_eq_true rfl) (Nat.le_of_ble_eq_true rfl) X hM hl.1 (c_X4_letter (l := l) (g := g) (b := b) ka0 hq) mv_X4_letter rfl (by decide) ka0 ml_L_64 ⟨Nat.le_trans (Nat.le_of_ble_eq_true rfl) hRf, Nat.le_trans (Nat.le_of_ble_eq_true rfl) hRl⟩ rfl rfl (Nat.le_of_ble_eq_true rfl) dL_holds_32 (fun H locs hM => ?_)
  refine lv_iconst (v := -1) hx hb dL_holds_35 (by decide) ?_
  refine lv_icmp_ne (tgt := 49) hx hb dL_holds_36 (by decide) (fun c8 => ?_) (fun c8 => ?_)
  · have h := cz_ite_f c8 h
    refine lv_iconst (v := nI 0) hx hb dL_holds_49 (by decide) ?_
    cases h
  · have h := cz_ite_t c8 h
    refine lv_iload_n hx hb dL_holds_39 rfl (lv_at hl 7 rfl) ?_
    refine lv_bipush (v := nI 40) hx hb dL_holds_40 (by decide) ?_
    refine lv_icmp_gt (tgt := 49) hx hb dL_holds_42 (by decide) (fun c9 => ?_) (fun c9 => ?_)
    · have h := cz_ite_t c9 h
      refine lv_iconst (v := nI 0) hx hb dL_holds_49 (by decide) ?_
      cases h
    · have h := cz_ite_f c9 h
      refine lv_iconst (v := nI 1) hx hb dL_holds_45 (by decide) ?_
      refine lv_goto (tgt := 50) hx hb dL_holds_46 (by decide) ?_
      refine lv_istore (lv' := [(9, .int (nI 1)), (8, .int (nI 0)), (7, .ref t5), (6, .ref t3), (5, .int (nI 0)), (4, .int (nI 0)), (3, .int (nI 0)), (2, .int (nI 0)), (1, .int v2), (0, .ref a0)]) hx hb dL_holds_50 hl (by decide) rfl (fun ls hl => ?_)
      refine lv_iconst (v := nI 0) hx hb dL_holds_52 (by decide) ?_
      refine lv_istore (lv' := [(10, .int (nI 0)), (9, .int (nI 1)), (8, .int (nI 0)), (7, .ref t5), (6, .ref t3), (5, .int (nI 0)), (4, .int (nI 0)), (3, .int (nI 0)), (2, .int (nI 0)), (1, .int v2), (0, .ref a0)]) hx hb dL_holds_53 hl (by decide) rfl (fun ls hl => ?_)
      refine w_L_holds_L55 X (Nat.le_of_ble_eq_true rfl) (Nat.le_of_ble_eq_true rfl) ka0 _ (fun y86 y87 y88 y89 y90 y91 f92 f93 M94 H locs ls h hM hl => ?_) _ _ _ _ _ _ _ _ _ _ _ _ _ h hM (lv_sub hl [10, 9, 8, 7, 6, 5, 4, 3, 2, 1, 0] rfl)
      refine lv_iconst (v := nI 0) hx hb dL_holds_215 (by decide) ?_
      refine lv_istore (lv' := [(10, .int (nI 0)), (0, .ref a0), (1, .int v2), (2, .int y86), (3, .int y87), (4, .int y88), (5, .int y89), (6, .ref t3), (7, .ref t5), (8, .int y90), (9, .int (nI 1))]) hx hb dL_holds_216 hl (by decide) rfl (fun ls hl => ?_)
      refine lv_iconst (v := nI 0) hx hb dL_holds_218 (by decide) ?_
      refine lv_istore (lv' := [(11, .int (nI 0)), (10, .int (nI 0)), (0, .ref a0), (1, .int v2), (2, .int y86), (3, .int y87), (4, .int y88), (5, .int y89), (6, .ref t3), (7, .ref t5), (8, .int y90), (9, .int (nI 1))]) hx hb dL_holds_219 hl (by decide) rfl (fun ls hl => ?_)
      refine w_L_holds_L221 X (Nat.le_of_ble_eq_true rfl) (Nat.le_of_ble_eq_true rfl) ka0 _ (fun y108 y109 f110 f111 H locs ls h hM hl => ?_) _ _ _ _ _ _ _ _ h hM (lv_sub hl [2, 4, 5, 6, 7, 8, 9, 10, 11, 1, 0] rfl)
      refine lv_iload hx hb dL_holds_294 (lv_at hl 8 rfl) ?_
      refine lv_if_eq (tgt := 406) hx hb dL_holds_296 (by decide) (fun c112 => absurd c112 (by decide)) (fun _ => ?_)
      refine lv_iload hx hb dL_holds_299 (lv_at hl 9 rfl) ?_
      refine lv_bipush (v := nI 8) hx hb dL_holds_301 (by decide) ?_
      refine lv_icmp_ne (tgt := 406) hx hb dL_holds_303 (by decide) (fun c113 => ?_) (fun c113 => ?_)
      · have h := cz_ite_f c113 h
        refine lv_iconst (v := nI 0) hx hb dL_holds_406 (by decide) ?_
        cases h
      · have h := cz_ite_t c113 h
        refine lv_aload hx hb dL_holds_306 (lv_at hl 5 rfl) ?_
        refine lv_iconst (v := nI 0) hx hb dL_holds_308 (by decide) ?_
        refine cz_Tald (j := 0) (n := 3) X hM h rfl dL_holds_309 (fun h => ?_)
        refine lv_aload_n hx hb dL_holds_310 rfl (lv_at hl 0 rfl) ?_
        refine lv_iconst (v := nI 5) hx hb dL_holds_311 (by decide) ?_
        obtain ⟨v115, M114, hq, h⟩ := cz_b2_t h
        refine cz_TrunV (rest := [.int (f110 (Int32.toNatClampNeg (nI 0)))]) (As := [.int (nI 5)]) (T := TX4) (N0 := 8) (Nat.le_of_ble_eq_true rfl) (Nat.le_of_ble_eq_true rfl) X hM hl.1 (c_X4_count (l := l) (g := g) (b := b) ka0 hq) mv_X4_count rfl (by decide) ka0 ml_L_9 ⟨Nat.le_trans (Nat.le_of_ble_eq_true rfl) hRf, Nat.le_trans (Nat.le_of_ble_eq_true rfl) hRl⟩ rfl rfl (Nat.le_of_ble_eq_true rfl) dL_holds_312 (fun H locs hM => ?_)
        refine lv_icmp_ne (tgt := 406) hx hb dL_holds_315 (by decide) (fun c116 => ?_) (fun c116 => ?_)
        · have h := cz_ite_f c116 h
          refine lv_iconst (v := nI 0) hx hb dL_holds_406 (by decide) ?_
          cases h
        · have h := cz_ite_t c116 h
          refine lv_aload hx hb dL_holds_318 (lv_at hl 5 rfl) ?_
          refine lv_iconst (v := nI 1) hx hb dL_holds_320 (by decide) ?_
          refine cz_Tald (j := 0) (n := 3) X hM h rfl dL_holds_321 (fun h => ?_)
          refine lv_aload_n hx hb dL_holds_322 rfl (lv_at hl 0 rfl) ?_
          refine lv_bipush (v := nI 6) hx hb dL_holds_323 (by decide) ?_
          obtain ⟨v118, M117, hq, h⟩ := cz_b2_t h
          refine cz_TrunV (rest := [.int (f110 (Int32.toNatClampNeg (nI 1)))]) (As := [.int (nI 6)]) (T := TX4) (N0 := 8) (Nat.le_of_ble_eq_true rfl) (Nat.le_of_ble_eq_true rfl) X hM hl.1 (c_X4_count (l := l) (g := g) (b := b) ka0 hq) mv_X4_count rfl (by decide) ka0 ml_L_9 ⟨Nat.le_trans (Nat.le_of_ble_eq_true rfl) hRf, Nat.le_trans (Nat.le_of_ble_eq_true rfl) hRl⟩ rfl rfl (Nat.le_of_ble_eq_true rfl) dL_holds_325 (fun H locs hM => ?_)
          refine lv_icmp_ne (tgt := 406) hx hb dL_holds_328 (by decide) (fun c119 => ?_) (fun c119 => ?_)
          · have h := cz_ite_f c119 h
            refine lv_iconst (v := nI 0) hx hb dL_holds_406 (by decide) ?_
            cases h
          · have h := cz_ite_t c119 h
            refine lv_aload hx hb dL_holds_331 (lv_at hl 5 rfl) ?_
            refine lv_iconst (v := nI 2) hx hb dL_holds_333 (by decide) ?_
            refine cz_Tald (j := 0) (n := 3) X hM h rfl dL_holds_334 (fun h => ?_)
            refine lv_aload_n hx hb dL_holds_335 rfl (lv_at hl 0 rfl) ?_
            refine lv_bipush (v := nI 7) hx hb dL_holds_336 (by decide) ?_
            obtain ⟨v121, M120, hq, h⟩ := cz_b2_t h
            refine cz_TrunV (rest := [.int (f110 (Int32.toNatClampNeg (nI 2)))]) (As := [.int (nI 7)]) (T := TX4) (N0 := 8) (Nat.le_of_ble_eq_true rfl) (Nat.le_of_ble_eq_true rfl) X hM hl.1 (c_X4_count (l := l) (g := g) (b := b) ka0 hq) mv_X4_count rfl (by decide) ka0 ml_L_9 ⟨Nat.le_trans (Nat.le_of_ble_eq_true rfl) hRf, Nat.le_trans (Nat.le_of_ble_eq_true rfl) hRl⟩ rfl rfl (Nat.le_of_ble_eq_true rfl) dL_holds_338 (fun H locs hM => ?_)
            refine lv_icmp_ne (tgt := 406) hx hb dL_holds_341 (by decide) (fun c122 => ?_) (fun c122 => ?_)
            · have h := cz_ite_f c122 h
              refine lv_iconst (v := nI 0) hx hb dL_holds_406 (by decide) ?_
              cases h
            · have h := cz_ite_t c122 h
              refine lv_aload hx hb dL_holds_344 (lv_at hl 6 rfl) ?_
              refine lv_iconst (v := nI 0) hx hb dL_holds_346 (by decide) ?_
              refine cz_Tald (j := 1) (n := 2) X hM h rfl dL_holds_347 (fun h => ?_)
              refine lv_aload_n hx hb dL_holds_348 rfl (lv_at hl 0 rfl) ?_
              refine lv_bipush (v := nI 8) hx hb dL_holds_349 (by decide) ?_
              obtain ⟨v124, M123, hq, h⟩ := cz_b2_t h
              refine cz_TrunV (rest := [.int (f111 (Int32.toNatClampNeg (nI 0)))]) (As := [.int (nI 8)]) (T := TX4) (N0 := 8) (Nat.le_of_ble_eq_true rfl) (Nat.le_of_ble_eq_true rfl) X hM hl.1 (c_X4_count (l := l) (g := g) (b := b) ka0 hq) mv_X4_count rfl (by decide) ka0 ml_L_9 ⟨Nat.le_trans (Nat.le_of_ble_eq_true rfl) hRf, Nat.le_trans (Nat.le_of_ble_eq_true rfl) hRl⟩ rfl rfl (Nat.le_of_ble_eq_true rfl) dL_holds_351 (fun H locs hM => ?_)
              refine lv_icmp_ne (tgt := 406) hx hb dL_holds_354 (by decide) (fun c125 => ?_) (fun c125 => ?_)
              · have h := cz_ite_f c125 h
                refine lv_iconst (v := nI 0) hx hb dL_holds_406 (by decide) ?_
                cases h
              · have h := cz_ite_t c125 h
                refine lv_aload hx hb dL_holds_357 (lv_at hl 6 rfl) ?_
                refine lv_iconst (v := nI 1) hx hb dL_holds_359 (by decide) ?_
                refine cz_Tald (j := 1) (n := 2) X hM h rfl dL_holds_360 (fun h => ?_)
                refine lv_aload_n hx hb dL_holds_361 rfl (lv_at hl 0 rfl) ?_
                refine lv_bipush (v := nI 9) hx hb dL_holds_362 (by decide) ?_
                obtain ⟨v127, M126, hq, h⟩ := cz_b2_t h
                refine cz_TrunV (rest := [.int (f111 (Int32.toNatClampNeg (nI 1)))]) (As := [.int (nI 9)]) (T := TX4) (N0 := 8) (Nat.le_of_ble_eq_true rfl) (Nat.le_of_ble_eq_true rfl) X hM hl.1 (c_X4_count (l := l) (g := g) (b := b) ka0 hq) mv_X4_count rfl (by decide) ka0 ml_L_9 ⟨Nat.le_trans (Nat.le_of_ble_eq_true rfl) hRf, Nat.le_trans (Nat.le_of_ble_eq_true rfl) hRl⟩ rfl rfl (Nat.le_of_ble_eq_true rfl) dL_holds_364 (fun H locs hM => ?_)
                refine lv_icmp_ne (tgt := 406) hx hb dL_holds_367 (by decide) (fun c128 => ?_) (fun c128 => ?_)
                · have h := cz_ite_f c128 h
                  refine lv_iconst (v := nI 0) hx hb dL_holds_406 (by decide) ?_
                  cases h
                · have h := cz_ite_t c128 h
                  refine lv_iload hx hb dL_holds_370 (lv_at hl 7 rfl) ?_
                  refine lv_aload hx hb dL_holds_372 (lv_at hl 6 rfl) ?_
                  refine lv_iconst (v := nI 0) hx hb dL_holds_374 (by decide) ?_
                  refine cz_Tald (j := 1) (n := 2) X hM h rfl dL_holds_375 (fun h => ?_)
                  refine lv_aload hx hb dL_holds_376 (lv_at hl 6 rfl) ?_
                  refine lv_iconst (v := nI 0) hx hb dL_holds_378 (by decide) ?_
                  refine cz_Tald (j := 1) (n := 2) X hM h rfl dL_holds_379 (fun h => ?_)
                  refine lv_iconst (v := nI 1) hx hb dL_holds_380 (by decide) ?_
                  refine lv_isub hx hb dL_holds_381 ?_
                  refine lv_imul hx hb dL_holds_382 ?_
                  refine lv_iconst (v := nI 2) hx hb dL_holds_383 (by decide) ?_
                  refine lv_idiv hx hb dL_holds_384 (by decide) ?_
                  refine lv_aload hx hb dL_holds_385 (lv_at hl 6 rfl) ?_
                  refine lv_iconst (v := nI 1) hx hb dL_holds_387 (by decide) ?_
                  refine cz_Tald (j := 1) (n := 2) X hM h rfl dL_holds_388 (fun h => ?_)
                  refine lv_aload hx hb dL_holds_389 (lv_at hl 6 rfl) ?_
                  refine lv_iconst (v := nI 1) hx hb dL_holds_391 (by decide) ?_
                  refine cz_Tald (j := 1) (n := 2) X hM h rfl dL_holds_392 (fun h => ?_)
                  refine lv_iconst (v := nI 1) hx hb dL_holds_393 (by decide) ?_
                  refine lv_isub hx hb dL_holds_394 ?_
                  refine lv_imul hx hb dL_holds_395 ?_
                  refine lv_iconst (v := nI 2) hx hb dL_holds_396 (by decide) ?_
                  refine lv_idiv hx hb dL_holds_397 (by decide) ?_
                  refine lv_iadd hx hb dL_holds_398 ?_
                  refine lv_icmp_ne (tgt := 406) hx hb dL_holds_399 (by decide) (fun c129 => ?_) (fun c129 => ?_)
                  · have h := cz_ite_f c129 h
                    refine lv_iconst (v := nI 0) hx hb dL_holds_406 (by decide) ?_
                    cases h
                  · have h := cz_ite_t c129 h
                    refine lv_iconst (v := nI 1) hx hb dL_holds_402 (by decide) ?_
                    refine lv_goto (tgt := 407) hx hb dL_holds_403 (by decide) ?_
                    refine lv_istore (lv' := [(9, .int (nI 1)), (0, .ref a0), (2, .int y86), (3, .int y87), (4, .int y88), (5, .int y89), (6, .ref t3), (7, .ref t5), (8, .int y90), (10, .int y108), (11, .int y109)]) hx hb dL_holds_407 hl (by decide) rfl (fun ls hl => ?_)
                    refine lv_iload hx hb dL_holds_409 (lv_at hl 0 rfl) ?_
                    refine lv_if_eq (tgt := 463) hx hb dL_holds_411 (by decide) (fun c130 => absurd c130 (by decide)) (fun _ => ?_)
                    refine lv_iload_n hx hb dL_holds_414 rfl (lv_at hl 2 rfl) ?_
                    refine lv_aload_n hx hb dL_holds_415 rfl (lv_at hl 1 rfl) ?_
                    refine lv_bipush (v := nI 10) hx hb dL_holds_416 (by decide) ?_
                    obtain ⟨v132, M131, hq, h⟩ := cz_b2_t h
                    refine cz_TrunV (rest := [.int y86]) (As := [.int (nI 10)]) (T := TX4) (N0 := 8) (Nat.le_of_ble_eq_true rfl) (Nat.le_of_ble_eq_true rfl) X hM hl.1 (c_X4_count (l := l) (g := g) (b := b) ka0 hq) mv_X4_count rfl (by decide) ka0 ml_L_9 ⟨Nat.le_trans (Nat.le_of_ble_eq_true rfl) hRf, Nat.le_trans (Nat.le_of_ble_eq_true rfl) hRl⟩ rfl rfl (Nat.le_of_ble_eq_true rfl) dL_holds_418 (fun H locs hM => ?_)
                    refine lv_icmp_ne (tgt := 463) hx hb dL_holds_421 (by decide) (fun c133 => ?_) (fun c133 => ?_)
                    · have h := cz_ite_f c133 h
                      refine lv_iconst (v := nI 0) hx hb dL_holds_463 (by decide) ?_
                      cases h
                    · have h := cz_ite_t c133 h
                      refine lv_iload_n hx hb dL_holds_424 rfl (lv_at hl 3 rfl) ?_
                      refine lv_aload_n hx hb dL_holds_425 rfl (lv_at hl 1 rfl) ?_
                      refine lv_bipush (v := nI 11) hx hb dL_holds_426 (by decide) ?_
                      obtain ⟨v135, M134, hq, h⟩ := cz_b2_t h
                      refine cz_TrunV (rest := [.int y87]) (As := [.int (nI 11)]) (T := TX4) (N0 := 8) (Nat.le_of_ble_eq_true rfl) (Nat.le_of_ble_eq_true rfl) X hM hl.1 (c_X4_count (l := l) (g := g) (b := b) ka0 hq) mv_X4_count rfl (by decide) ka0 ml_L_9 ⟨Nat.le_trans (Nat.le_of_ble_eq_true rfl) hRf, Nat.le_trans (Nat.le_of_ble_eq_true rfl) hRl⟩ rfl rfl (Nat.le_of_ble_eq_true rfl) dL_holds_428 (fun H locs hM => ?_)
                      refine lv_icmp_ne (tgt := 463) hx hb dL_holds_431 (by decide) (fun c136 => ?_) (fun c136 => ?_)
                      · have h := cz_ite_f c136 h
                        refine lv_iconst (v := nI 0) hx hb dL_holds_463 (by decide) ?_
                        cases h
                      · have h := cz_ite_t c136 h
                        refine lv_iload hx hb dL_holds_434 (lv_at hl 4 rfl) ?_
                        refine lv_aload_n hx hb dL_holds_436 rfl (lv_at hl 1 rfl) ?_
                        refine lv_bipush (v := nI 12) hx hb dL_holds_437 (by decide) ?_
                        obtain ⟨v138, M137, hq, h⟩ := cz_b2_t h
                        refine cz_TrunV (rest := [.int y88]) (As := [.int (nI 12)]) (T := TX4) (N0 := 8) (Nat.le_of_ble_eq_true rfl) (Nat.le_of_ble_eq_true rfl) X hM hl.1 (c_X4_count (l := l) (g := g) (b := b) ka0 hq) mv_X4_count rfl (by decide) ka0 ml_L_9 ⟨Nat.le_trans (Nat.le_of_ble_eq_true rfl) hRf, Nat.le_trans (Nat.le_of_ble_eq_true rfl) hRl⟩ rfl rfl (Nat.le_of_ble_eq_true rfl) dL_holds_439 (fun H locs hM => ?_)
                        refine lv_icmp_ne (tgt := 463) hx hb dL_holds_442 (by decide) (fun c139 => ?_) (fun c139 => ?_)
                        · have h := cz_ite_f c139 h
                          refine lv_iconst (v := nI 0) hx hb dL_holds_463 (by decide) ?_
                          cases h
                        · have h := cz_ite_t c139 h
                          refine lv_iload hx hb dL_holds_445 (lv_at hl 5 rfl) ?_
                          obtain ⟨v140, hq, h⟩ := cz_bd_t h
                          refine cz_TrunS (rest := []) (As := [.int y89]) (Nat.le_of_ble_eq_true rfl) (Nat.le_of_ble_eq_true rfl) X hM hl.1 (c_L_bits (l := l) (g := g) (b := b)  hq) mv_L_bits ml_L_77 ⟨Nat.le_trans (Nat.le_of_ble_eq_true rfl) hRf, Nat.le_trans (Nat.le_of_ble_eq_true rfl) hRl⟩ rfl rfl (Nat.le_of_ble_eq_true rfl) dL_holds_447 (fun H locs hM => ?_)
                          refine lv_aload_n hx hb dL_holds_450 rfl (lv_at hl 1 rfl) ?_
                          refine lv_bipush (v := nI 13) hx hb dL_holds_451 (by decide) ?_
                          obtain ⟨v142, M141, hq, h⟩ := cz_b2_t h
                          refine cz_TrunV (rest := [.int v140]) (As := [.int (nI 13)]) (T := TX4) (N0 := 8) (Nat.le_of_ble_eq_true rfl) (Nat.le_of_ble_eq_true rfl) X hM hl.1 (c_X4_count (l := l) (g := g) (b := b) ka0 hq) mv_X4_count rfl (by decide) ka0 ml_L_9 ⟨Nat.le_trans (Nat.le_of_ble_eq_true rfl) hRf, Nat.le_trans (Nat.le_of_ble_eq_true rfl) hRl⟩ rfl rfl (Nat.le_of_ble_eq_true rfl) dL_holds_453 (fun H locs hM => ?_)
                          refine lv_icmp_ne (tgt := 463) hx hb dL_holds_456 (by decide) (fun c143 => ?_) (fun c143 => ?_)
                          · have h := cz_ite_f c143 h
                            refine lv_iconst (v := nI 0) hx hb dL_holds_463 (by decide) ?_
                            cases h
                          · have h := cz_ite_t c143 h
                            refine lv_iconst (v := nI 1) hx hb dL_holds_459 (by decide) ?_
                            refine lv_goto (tgt := 464) hx hb dL_holds_460 (by decide) ?_
                            exact cz_Treti X hM h rfl (Nat.le_of_ble_eq_true rfl) (Nat.le_of_ble_eq_true rfl) dL_holds_464
theorem mv_L_isCalm : cz_MS yL_isCalm cL_isCalm 3 (some .boolean) 1 := ⟨mt_L_isCalm, mc_L_isCalm, ini_L, by decide +kernel⟩
set_option maxHeartbeats 4000000 in
set_option maxRecDepth 100000 in
theorem c_L_isCalm {l : Launch} {g : cz_G} {b : Nat} {M : cz_M} {r0 : Int32} {M9 : cz_M} {a0 : Nat} (ka0 : cz_K b a0 4) (h : f_L_isCalm M a0 = some (r0, M9)) : cz_C l yL_isCalm cL_isCalm 3 (some .boolean) 7 162 g b [.ref a0] M (some (.int r0)) M9 := by
  refine cz_start (by decide) (Nat.le_of_ble_eq_true rfl) (fun p e s m args below meth c X H ls hM hl => ?_)
  have X : cz_X p s m args meth c cL_isCalm 3 RL g b (some .boolean) := X
  obtain ⟨hx, hb, -, ho, ht, -⟩ := id X
  have hRf : 7 ≤ ({ frames := 7, cells := 0, slots := 0, locals := 162 } : Room).frames := Nat.le_refl _
  have hRl : 162 ≤ ({ frames := 7, cells := 0, slots := 0, locals := 162 } : Room).locals := Nat.le_refl _
  have hl : lv_has ls 3 [(0, .ref a0)] := hl
  rw [f_L_isCalm] at h
  refine lv_aload_n hx hb dL_isCalm_0 rfl (lv_at hl 0 rfl) ?_
  refine lv_iconst (v := nI 0) hx hb dL_isCalm_1 (by decide) ?_
  refine lv_iconst (v := nI 4) hx hb dL_isCalm_2 (by decide) ?_
  obtain ⟨v1, hq, h⟩ := cz_bd_t h
  refine cz_runV (rest := []) (As := [.int (nI 0), .int (nI 4)]) (T := TX4) (N0 := 8) X hM hl.1 (c_X4_censor (l := l) (g := g) (b := b) ka0 hq) mv_X4_censor rfl (by decide) ka0 ml_L_74 ⟨Nat.le_trans (Nat.le_of_ble_eq_true rfl) hRf, Nat.le_trans (Nat.le_of_ble_eq_true rfl) hRl⟩ rfl rfl (Nat.le_of_ble_eq_true rfl) dL_isCalm_3 (fun H locs hM => ?_)
  refine lv_aload_n hx hb dL_isCalm_6 rfl (lv_at hl 0 rfl) ?_
  refine lv_iconst (v := nI 1) hx hb dL_isCalm_7 (by decide) ?_
  refine lv_iconst (v := nI 4) hx hb dL_isCalm_8 (by decide) ?_
  obtain ⟨v2, hq, h⟩ := cz_bd_t h
  refine cz_runV (rest := [.int v1]) (As := [.int (nI 1), .int (nI 4)]) (T := TX4) (N0 := 8) X hM hl.1 (c_X4_censor (l := l) (g := g) (b := b) ka0 hq) mv_X4_censor rfl (by decide) ka0 ml_L_74 ⟨Nat.le_trans (Nat.le_of_ble_eq_true rfl) hRf, Nat.le_trans (Nat.le_of_ble_eq_true rfl) hRl⟩ rfl rfl (Nat.le_of_ble_eq_true rfl) dL_isCalm_9 (fun H locs hM => ?_)
  refine lv_iadd hx hb dL_isCalm_12 ?_
  refine lv_aload_n hx hb dL_isCalm_13 rfl (lv_at hl 0 rfl) ?_
  refine lv_iconst (v := nI 2) hx hb dL_isCalm_14 (by decide) ?_
  refine lv_iconst (v := nI 4) hx hb dL_isCalm_15 (by decide) ?_
  obtain ⟨v3, hq, h⟩ := cz_bd_t h
  refine cz_runV (rest := [.int (v1 + v2)]) (As := [.int (nI 2), .int (nI 4)]) (T := TX4) (N0 := 8) X hM hl.1 (c_X4_censor (l := l) (g := g) (b := b) ka0 hq) mv_X4_censor rfl (by decide) ka0 ml_L_74 ⟨Nat.le_trans (Nat.le_of_ble_eq_true rfl) hRf, Nat.le_trans (Nat.le_of_ble_eq_true rfl) hRl⟩ rfl rfl (Nat.le_of_ble_eq_true rfl) dL_isCalm_16 (fun H locs hM => ?_)
  refine lv_iadd hx hb dL_isCalm_19 ?_
  refine lv_aload_n hx hb dL_isCalm_20 rfl (lv_at hl 0 rfl) ?_
  refine lv_iconst (v := nI 3) hx hb dL_isCalm_21 (by decide) ?_
  refine lv_iconst (v := nI 4) hx hb dL_isCalm_22 (by decide) ?_
  obtain ⟨v4, hq, h⟩ := cz_bd_t h
  refine cz_runV (rest := [.int ((v1 + v2) + v3)]) (As := [.int (nI 3), .int (nI 4)]) (T := TX4) (N0 := 8) X hM hl.1 (c_X4_censor (l := l) (g := g) (b := b) ka0 hq) mv_X4_censor rfl (by decide) ka0 ml_L_74 ⟨Nat.le_trans (Nat.le_of_ble_eq_true rfl) hRf, Nat.le_trans (Nat.le_of_ble_eq_true rfl) hRl⟩ rfl rfl (Nat.le_of_ble_eq_true rfl) dL_isCalm_23 (fun H locs hM => ?_)
  refine lv_iadd hx hb dL_isCalm_26 ?_
  refine cz_nmi h (fun v5 h => ?_)
  refine lv_istore_n (lv' := [(1, .int v5), (0, .ref a0)]) hx hb dL_isCalm_27 rfl hl (by decide) rfl (fun ls hl => ?_)
  refine lv_aload_n hx hb dL_isCalm_28 rfl (lv_at hl 1 rfl) ?_
  refine lv_bipush (v := nI 50) hx hb dL_isCalm_29 (by decide) ?_
  obtain ⟨v7, M6, hq, h⟩ := cz_b2_t h
  refine cz_runV (rest := []) (As := [.int (nI 50)]) (T := TX4) (N0 := 8) X hM hl.1 (c_X4_pass (l := l) (g := g) (b := b) ka0 hq) mv_X4_pass rfl (by decide) ka0 ml_L_61 ⟨Nat.le_trans (Nat.le_of_ble_eq_true rfl) hRf, Nat.le_trans (Nat.le_of_ble_eq_true rfl) hRl⟩ rfl rfl (Nat.le_of_ble_eq_true rfl) dL_isCalm_31 (fun H locs hM => ?_)
  refine lv_if_lt (tgt := 81) hx hb dL_isCalm_34 (by decide) (fun c8 => ?_) (fun c8 => ?_)
  · have h := cz_ite_t c8 h
    refine lv_iconst (v := nI 0) hx hb dL_isCalm_81 (by decide) ?_
    refine lv_istore_n (lv' := [(2, .int (nI 0)), (1, .int v5), (0, .ref a0)]) hx hb dL_isCalm_82 rfl hl (by decide) rfl (fun ls hl => ?_)
    refine lv_aload_n hx hb dL_isCalm_83 rfl (lv_at hl 2 rfl) ?_
    obtain ⟨v10, M9, hq, h⟩ := cz_b2_t h
    refine cz_runV (rest := []) (As := []) (T := TX4) (N0 := 8) X hM hl.1 (c_X4_undo (l := l) (g := g) (b := b) ka0 hq) mv_X4_undo rfl (by decide) ka0 ml_L_83 ⟨Nat.le_trans (Nat.le_of_ble_eq_true rfl) hRf, Nat.le_trans (Nat.le_of_ble_eq_true rfl) hRl⟩ rfl rfl (Nat.le_of_ble_eq_true rfl) dL_isCalm_84 (fun H locs hM => ?_)
    refine lv_if_lt (tgt := 105) hx hb dL_isCalm_87 (by decide) (fun c11 => ?_) (fun c11 => ?_)
    · have h := cz_ite_t c11 h
      refine lv_iconst (v := nI 0) hx hb dL_isCalm_105 (by decide) ?_
      exact cz_reti X hM h rfl dL_isCalm_106
    · have h := cz_ite_f c11 h
      refine lv_aload_n hx hb dL_isCalm_90 rfl (lv_at hl 2 rfl) ?_
      obtain ⟨v13, M12, hq, h⟩ := cz_b2_t h
      refine cz_runV (rest := []) (As := []) (T := TX4) (N0 := 8) X hM hl.1 (c_X4_undo (l := l) (g := g) (b := b) ka0 hq) mv_X4_undo rfl (by decide) ka0 ml_L_83 ⟨Nat.le_trans (Nat.le_of_ble_eq_true rfl) hRf, Nat.le_trans (Nat.le_of_ble_eq_true rfl) hRl⟩ rfl rfl (Nat.le_of_ble_eq_true rfl) dL_isCalm_91 (fun H locs hM => ?_)
      refine lv_if_lt (tgt := 105) hx hb dL_isCalm_94 (by decide) (fun c14 => ?_) (fun c14 => ?_)
      · have h := cz_ite_t c14 h
        refine lv_iconst (v := nI 0) hx hb dL_isCalm_105 (by decide) ?_
        exact cz_reti X hM h rfl dL_isCalm_106
      · have h := cz_ite_f c14 h
        refine lv_iload_n hx hb dL_isCalm_97 rfl (lv_at hl 0 rfl) ?_
        refine lv_if_eq (tgt := 105) hx hb dL_isCalm_98 (by decide) (fun _ => ?_) (fun c15 => absurd (by decide) c15)
        refine lv_iconst (v := nI 0) hx hb dL_isCalm_105 (by decide) ?_
        exact cz_reti X hM h rfl dL_isCalm_106
  · have h := cz_ite_f c8 h
    refine lv_aload_n hx hb dL_isCalm_37 rfl (lv_at hl 1 rfl) ?_
    refine lv_bipush (v := nI 50) hx hb dL_isCalm_38 (by decide) ?_
    obtain ⟨v17, M16, hq, h⟩ := cz_b2_t h
    refine cz_runV (rest := []) (As := [.int (nI 50)]) (T := TX4) (N0 := 8) X hM hl.1 (c_X4_pass (l := l) (g := g) (b := b) ka0 hq) mv_X4_pass rfl (by decide) ka0 ml_L_61 ⟨Nat.le_trans (Nat.le_of_ble_eq_true rfl) hRf, Nat.le_trans (Nat.le_of_ble_eq_true rfl) hRl⟩ rfl rfl (Nat.le_of_ble_eq_true rfl) dL_isCalm_40 (fun H locs hM => ?_)
    refine lv_if_lt (tgt := 81) hx hb dL_isCalm_43 (by decide) (fun c18 => ?_) (fun c18 => ?_)
    · have h := cz_ite_t c18 h
      refine lv_iconst (v := nI 0) hx hb dL_isCalm_81 (by decide) ?_
      refine lv_istore_n (lv' := [(2, .int (nI 0)), (1, .int v5), (0, .ref a0)]) hx hb dL_isCalm_82 rfl hl (by decide) rfl (fun ls hl => ?_)
      refine lv_aload_n hx hb dL_isCalm_83 rfl (lv_at hl 2 rfl) ?_
      obtain ⟨v20, M19, hq, h⟩ := cz_b2_t h
      refine cz_runV (rest := []) (As := []) (T := TX4) (N0 := 8) X hM hl.1 (c_X4_undo (l := l) (g := g) (b := b) ka0 hq) mv_X4_undo rfl (by decide) ka0 ml_L_83 ⟨Nat.le_trans (Nat.le_of_ble_eq_true rfl) hRf, Nat.le_trans (Nat.le_of_ble_eq_true rfl) hRl⟩ rfl rfl (Nat.le_of_ble_eq_true rfl) dL_isCalm_84 (fun H locs hM => ?_)
      refine lv_if_lt (tgt := 105) hx hb dL_isCalm_87 (by decide) (fun c21 => ?_) (fun c21 => ?_)
      · have h := cz_ite_t c21 h
        refine lv_iconst (v := nI 0) hx hb dL_isCalm_105 (by decide) ?_
        exact cz_reti X hM h rfl dL_isCalm_106
      · have h := cz_ite_f c21 h
        refine lv_aload_n hx hb dL_isCalm_90 rfl (lv_at hl 2 rfl) ?_
        obtain ⟨v23, M22, hq, h⟩ := cz_b2_t h
        refine cz_runV (rest := []) (As := []) (T := TX4) (N0 := 8) X hM hl.1 (c_X4_undo (l := l) (g := g) (b := b) ka0 hq) mv_X4_undo rfl (by decide) ka0 ml_L_83 ⟨Nat.le_trans (Nat.le_of_ble_eq_true rfl) hRf, Nat.le_trans (Nat.le_of_ble_eq_true rfl) hRl⟩ rfl rfl (Nat.le_of_ble_eq_true rfl) dL_isCalm_91 (fun H locs hM => ?_)
        refine lv_if_lt (tgt := 105) hx hb dL_isCalm_94 (by decide) (fun c24 => ?_) (fun c24 => ?_)
        · have h := cz_ite_t c24 h
          refine lv_iconst (v := nI 0) hx hb dL_isCalm_105 (by decide) ?_
          exact cz_reti X hM h rfl dL_isCalm_106
        · have h := cz_ite_f c24 h
          refine lv_iload_n hx hb dL_isCalm_97 rfl (lv_at hl 0 rfl) ?_
          refine lv_if_eq (tgt := 105) hx hb dL_isCalm_98 (by decide) (fun _ => ?_) (fun c25 => absurd (by decide) c25)
          refine lv_iconst (v := nI 0) hx hb dL_isCalm_105 (by decide) ?_
          exact cz_reti X hM h rfl dL_isCalm_106
    · have h := cz_ite_f c18 h
      refine lv_aload_n hx hb dL_isCalm_46 rfl (lv_at hl 1 rfl) ?_
      refine lv_iconst (v := nI 0) hx hb dL_isCalm_47 (by decide) ?_
      refine lv_iconst (v := nI 4) hx hb dL_isCalm_48 (by decide) ?_
      obtain ⟨v26, hq, h⟩ := cz_bd_t h
      refine cz_runV (rest := []) (As := [.int (nI 0), .int (nI 4)]) (T := TX4) (N0 := 8) X hM hl.1 (c_X4_censor (l := l) (g := g) (b := b) ka0 hq) mv_X4_censor rfl (by decide) ka0 ml_L_74 ⟨Nat.le_trans (Nat.le_of_ble_eq_true rfl) hRf, Nat.le_trans (Nat.le_of_ble_eq_true rfl) hRl⟩ rfl rfl (Nat.le_of_ble_eq_true rfl) dL_isCalm_49 (fun H locs hM => ?_)
      refine lv_aload_n hx hb dL_isCalm_52 rfl (lv_at hl 1 rfl) ?_
      refine lv_iconst (v := nI 1) hx hb dL_isCalm_53 (by decide) ?_
      refine lv_iconst (v := nI 4) hx hb dL_isCalm_54 (by decide) ?_
      obtain ⟨v27, hq, h⟩ := cz_bd_t h
      refine cz_runV (rest := [.int v26]) (As := [.int (nI 1), .int (nI 4)]) (T := TX4) (N0 := 8) X hM hl.1 (c_X4_censor (l := l) (g := g) (b := b) ka0 hq) mv_X4_censor rfl (by decide) ka0 ml_L_74 ⟨Nat.le_trans (Nat.le_of_ble_eq_true rfl) hRf, Nat.le_trans (Nat.le_of_ble_eq_true rfl) hRl⟩ rfl rfl (Nat.le_of_ble_eq_true rfl) dL_isCalm_55 (fun H locs hM => ?_)
      refine lv_iadd hx hb dL_isCalm_58 ?_
      refine lv_aload_n hx hb dL_isCalm_59 rfl (lv_at hl 1 rfl) ?_
      refine lv_iconst (v := nI 2) hx hb dL_isCalm_60 (by decide) ?_
      refine lv_iconst (v := nI 4) hx hb dL_isCalm_61 (by decide) ?_
      obtain ⟨v28, hq, h⟩ := cz_bd_t h
      refine cz_runV (rest := [.int (v26 + v27)]) (As := [.int (nI 2), .int (nI 4)]) (T := TX4) (N0 := 8) X hM hl.1 (c_X4_censor (l := l) (g := g) (b := b) ka0 hq) mv_X4_censor rfl (by decide) ka0 ml_L_74 ⟨Nat.le_trans (Nat.le_of_ble_eq_true rfl) hRf, Nat.le_trans (Nat.le_of_ble_eq_true rfl) hRl⟩ rfl rfl (Nat.le_of_ble_eq_true rfl) dL_isCalm_62 (fun H locs hM => ?_)
      refine lv_iadd hx hb dL_isCalm_65 ?_
      refine lv_aload_n hx hb dL_isCalm_66 rfl (lv_at hl 1 rfl) ?_
      refine lv_iconst (v := nI 3) hx hb dL_isCalm_67 (by decide) ?_
      refine lv_iconst (v := nI 4) hx hb dL_isCalm_68 (by decide) ?_
      obtain ⟨v29, hq, h⟩ := cz_bd_t h
      refine cz_runV (rest := [.int ((v26 + v27) + v28)]) (As := [.int (nI 3), .int (nI 4)]) (T := TX4) (N0 := 8) X hM hl.1 (c_X4_censor (l := l) (g := g) (b := b) ka0 hq) mv_X4_censor rfl (by decide) ka0 ml_L_74 ⟨Nat.le_trans (Nat.le_of_ble_eq_true rfl) hRf, Nat.le_trans (Nat.le_of_ble_eq_true rfl) hRl⟩ rfl rfl (Nat.le_of_ble_eq_true rfl) dL_isCalm_69 (fun H locs hM => ?_)
      refine lv_iadd hx hb dL_isCalm_72 ?_
      refine lv_iload_n hx hb dL_isCalm_73 rfl (lv_at hl 0 rfl) ?_
      refine lv_icmp_ne (tgt := 81) hx hb dL_isCalm_74 (by decide) (fun c30 => ?_) (fun c30 => ?_)
      · have h := cz_ite_f c30 h
        refine lv_iconst (v := nI 0) hx hb dL_isCalm_81 (by decide) ?_
        refine lv_istore_n (lv' := [(2, .int (nI 0)), (1, .int v5), (0, .ref a0)]) hx hb dL_isCalm_82 rfl hl (by decide) rfl (fun ls hl => ?_)
        refine lv_aload_n hx hb dL_isCalm_83 rfl (lv_at hl 2 rfl) ?_
        obtain ⟨v32, M31, hq, h⟩ := cz_b2_t h
        refine cz_runV (rest := []) (As := []) (T := TX4) (N0 := 8) X hM hl.1 (c_X4_undo (l := l) (g := g) (b := b) ka0 hq) mv_X4_undo rfl (by decide) ka0 ml_L_83 ⟨Nat.le_trans (Nat.le_of_ble_eq_true rfl) hRf, Nat.le_trans (Nat.le_of_ble_eq_true rfl) hRl⟩ rfl rfl (Nat.le_of_ble_eq_true rfl) dL_isCalm_84 (fun H locs hM => ?_)
        refine lv_if_lt (tgt := 105) hx hb dL_isCalm_87 (by decide) (fun c33 => ?_) (fun c33 => ?_)
        · have h := cz_ite_t c33 h
          refine lv_iconst (v := nI 0) hx hb dL_isCalm_105 (by decide) ?_
          exact cz_reti X hM h rfl dL_isCalm_106
        · have h := cz_ite_f c33 h
          refine lv_aload_n hx hb dL_isCalm_90 rfl (lv_at hl 2 rfl) ?_
          obtain ⟨v35, M34, hq, h⟩ := cz_b2_t h
          refine cz_runV (rest := []) (As := []) (T := TX4) (N0 := 8) X hM hl.1 (c_X4_undo (l := l) (g := g) (b := b) ka0 hq) mv_X4_undo rfl (by decide) ka0 ml_L_83 ⟨Nat.le_trans (Nat.le_of_ble_eq_true rfl) hRf, Nat.le_trans (Nat.le_of_ble_eq_true rfl) hRl⟩ rfl rfl (Nat.le_of_ble_eq_true rfl) dL_isCalm_91 (fun H locs hM => ?_)
          refine lv_if_lt (tgt := 105) hx hb dL_isCalm_94 (by decide) (fun c36 => ?_) (fun c36 => ?_)
          · have h := cz_ite_t c36 h
            refine lv_iconst (v := nI 0) hx hb dL_isCalm_105 (by decide) ?_
            exact cz_reti X hM h rfl dL_isCalm_106
          · have h := cz_ite_f c36 h
            refine lv_iload_n hx hb dL_isCalm_97 rfl (lv_at hl 0 rfl) ?_
            refine lv_if_eq (tgt := 105) hx hb dL_isCalm_98 (by decide) (fun _ => ?_) (fun c37 => absurd (by decide) c37)
            refine lv_iconst (v := nI 0) hx hb dL_isCalm_105 (by decide) ?_
            exact cz_reti X hM h rfl dL_isCalm_106
      · have h := cz_ite_t c30 h
        refine lv_iconst (v := nI 1) hx hb dL_isCalm_77 (by decide) ?_
        refine lv_goto (tgt := 82) hx hb dL_isCalm_78 (by decide) ?_
        refine lv_istore_n (lv' := [(2, .int (nI 1)), (1, .int v5), (0, .ref a0)]) hx hb dL_isCalm_82 rfl hl (by decide) rfl (fun ls hl => ?_)
        refine lv_aload_n hx hb dL_isCalm_83 rfl (lv_at hl 2 rfl) ?_
        obtain ⟨v39, M38, hq, h⟩ := cz_b2_t h
        refine cz_runV (rest := []) (As := []) (T := TX4) (N0 := 8) X hM hl.1 (c_X4_undo (l := l) (g := g) (b := b) ka0 hq) mv_X4_undo rfl (by decide) ka0 ml_L_83 ⟨Nat.le_trans (Nat.le_of_ble_eq_true rfl) hRf, Nat.le_trans (Nat.le_of_ble_eq_true rfl) hRl⟩ rfl rfl (Nat.le_of_ble_eq_true rfl) dL_isCalm_84 (fun H locs hM => ?_)
        refine lv_if_lt (tgt := 105) hx hb dL_isCalm_87 (by decide) (fun c40 => ?_) (fun c40 => ?_)
        · have h := cz_ite_t c40 h
          refine lv_iconst (v := nI 0) hx hb dL_isCalm_105 (by decide) ?_
          exact cz_reti X hM h rfl dL_isCalm_106
        · have h := cz_ite_f c40 h
          refine lv_aload_n hx hb dL_isCalm_90 rfl (lv_at hl 2 rfl) ?_
          obtain ⟨v42, M41, hq, h⟩ := cz_b2_t h
          refine cz_runV (rest := []) (As := []) (T := TX4) (N0 := 8) X hM hl.1 (c_X4_undo (l := l) (g := g) (b := b) ka0 hq) mv_X4_undo rfl (by decide) ka0 ml_L_83 ⟨Nat.le_trans (Nat.le_of_ble_eq_true rfl) hRf, Nat.le_trans (Nat.le_of_ble_eq_true rfl) hRl⟩ rfl rfl (Nat.le_of_ble_eq_true rfl) dL_isCalm_91 (fun H locs hM => ?_)
          refine lv_if_lt (tgt := 105) hx hb dL_isCalm_94 (by decide) (fun c43 => ?_) (fun c43 => ?_)
          · have h := cz_ite_t c43 h
            refine lv_iconst (v := nI 0) hx hb dL_isCalm_105 (by decide) ?_
            exact cz_reti X hM h rfl dL_isCalm_106
          · have h := cz_ite_f c43 h
            refine lv_iload_n hx hb dL_isCalm_97 rfl (lv_at hl 0 rfl) ?_
            refine lv_if_eq (tgt := 105) hx hb dL_isCalm_98 (by decide) (fun c44 => absurd c44 (by decide)) (fun _ => ?_)
            refine lv_iconst (v := nI 1) hx hb dL_isCalm_101 (by decide) ?_
            refine lv_goto (tgt := 106) hx hb dL_isCalm_102 (by decide) ?_
            exact cz_reti X hM h rfl dL_isCalm_106
theorem mv_L_tries : cz_MS yL_tries cL_tries 10 (some .boolean) 2 := ⟨mt_L_tries, mc_L_tries, ini_L, by decide +kernel⟩
set_option maxHeartbeats 4000000 in
set_option maxRecDepth 100000 in
theorem c_L_tries {l : Launch} {g : cz_G} {b : Nat} {M : cz_M} {r0 : Int32} {M9 : cz_M} {a0 : Nat} {x1 : Int32} (ka0 : cz_K b a0 4) (h : f_L_tries M a0 x1 = some (r0, M9)) : cz_C l yL_tries cL_tries 10 (some .boolean) 8 184 g b [.ref a0, .int x1] M (some (.int r0)) M9 := by
  refine cz_start (by decide) (Nat.le_of_ble_eq_true rfl) (fun p e s m args below meth c X H ls hM hl => ?_)
  have X : cz_X p s m args meth c cL_tries 10 RL g b (some .boolean) := X
  obtain ⟨hx, hb, -, ho, ht, -⟩ := id X
  have hRf : 8 ≤ ({ frames := 8, cells := 0, slots := 0, locals := 184 } : Room).frames := Nat.le_refl _
  have hRl : 184 ≤ ({ frames := 8, cells := 0, slots := 0, locals := 184 } : Room).locals := Nat.le_refl _
  have hl : lv_has ls 10 [(0, .ref a0), (1, .int x1)] := hl
  rw [f_L_tries] at h
  refine lv_aload_n hx hb dL_tries_0 rfl (lv_at hl 0 rfl) ?_
  refine lv_iconst (v := nI 4) hx hb dL_tries_1 (by decide) ?_
  refine lv_iconst (v := nI 0) hx hb dL_tries_2 (by decide) ?_
  obtain ⟨v2, M1, hq, h⟩ := cz_b2_t h
  refine cz_runV (rest := []) (As := [.int (nI 4), .int (nI 0)]) (T := TX4) (N0 := 8) X hM hl.1 (c_X4_ifPassed (l := l) (g := g) (b := b) ka0 hq) mv_X4_ifPassed rfl (by decide) ka0 ml_L_52 ⟨Nat.le_trans (Nat.le_of_ble_eq_true rfl) hRf, Nat.le_trans (Nat.le_of_ble_eq_true rfl) hRl⟩ rfl rfl (Nat.le_of_ble_eq_true rfl) dL_tries_3 (fun H locs hM => ?_)
  refine lv_istore_n (lv' := [(2, .int v2), (0, .ref a0), (1, .int x1)]) hx hb dL_tries_6 rfl hl (by decide) rfl (fun ls hl => ?_)
  refine lv_aload_n hx hb dL_tries_7 rfl (lv_at hl 1 rfl) ?_
  obtain ⟨v4, M3, hq, h⟩ := cz_b2_t h
  refine cz_runV (rest := []) (As := []) (T := TX4) (N0 := 8) X hM hl.1 (c_X4_bestTrade (l := l) (g := g) (b := b) ka0 hq) mv_X4_bestTrade rfl (by decide) ka0 ml_L_80 ⟨Nat.le_trans (Nat.le_of_ble_eq_true rfl) hRf, Nat.le_trans (Nat.le_of_ble_eq_true rfl) hRl⟩ rfl rfl (Nat.le_of_ble_eq_true rfl) dL_tries_8 (fun H locs hM => ?_)
  refine lv_istore_n (lv' := [(3, .int v4), (2, .int v2), (0, .ref a0), (1, .int x1)]) hx hb dL_tries_11 rfl hl (by decide) rfl (fun ls hl => ?_)
  refine lv_iload_n hx hb dL_tries_12 rfl (lv_at hl 1 rfl) ?_
  refine lv_istore (lv' := [(4, .int v2), (3, .int v4), (2, .int v2), (0, .ref a0), (1, .int x1)]) hx hb dL_tries_13 hl (by decide) rfl (fun ls hl => ?_)
  refine lv_iconst (v := nI 1) hx hb dL_tries_15 (by decide) ?_
  refine lv_istore (lv' := [(5, .int (nI 1)), (4, .int v2), (3, .int v4), (2, .int v2), (0, .ref a0), (1, .int x1)]) hx hb dL_tries_16 hl (by decide) rfl (fun ls hl => ?_)
  refine lv_iload_n hx hb dL_tries_18 rfl (lv_at hl 2 rfl) ?_
  refine lv_bipush (v := -6) hx hb dL_tries_19 (by decide) ?_
  refine lv_icmp_eq (tgt := 90) hx hb dL_tries_21 (by decide) (fun c5 => ?_) (fun c5 => ?_)
  · have h := cz_ite_t c5 h
    refine lv_iload_n hx hb dL_tries_90 rfl (lv_at hl 5 rfl) ?_
    refine lv_bipush (v := nI 7) hx hb dL_tries_91 (by decide) ?_
    obtain ⟨v6, hq, h⟩ := cz_bd_t h
    refine cz_runS (rest := []) (As := [.int x1, .int (nI 7)]) X hM hl.1 (c_L_low (l := l) (g := g) (b := b)  hq) mv_L_low ml_L_15 ⟨Nat.le_trans (Nat.le_of_ble_eq_true rfl) hRf, Nat.le_trans (Nat.le_of_ble_eq_true rfl) hRl⟩ rfl rfl (Nat.le_of_ble_eq_true rfl) dL_tries_93 (fun H locs hM => ?_)
    refine lv_istore (lv' := [(6, .int v6), (5, .int (nI 1)), (4, .int v2), (3, .int v4), (2, .int v2), (0, .ref a0), (1, .int x1)]) hx hb dL_tries_96 hl (by decide) rfl (fun ls hl => ?_)
    refine lv_iload hx hb dL_tries_98 (lv_at hl 0 rfl) ?_
    refine lv_iconst (v := nI 1) hx hb dL_tries_100 (by decide) ?_
    refine lv_iadd hx hb dL_tries_101 ?_
    refine lv_iload_n hx hb dL_tries_102 rfl (lv_at hl 6 rfl) ?_
    refine lv_iconst (v := nI 3) hx hb dL_tries_103 (by decide) ?_
    refine lv_ishr hx hb dL_tries_104 ?_
    refine lv_bipush (v := nI 7) hx hb dL_tries_105 (by decide) ?_
    refine lv_iload hx hb dL_tries_107 (lv_at hl 0 rfl) ?_
    refine lv_isub hx hb dL_tries_109 ?_
    obtain ⟨v7, hq, h⟩ := cz_bd_t h
    refine cz_runS (rest := [.int (v6 + (nI 1))]) (As := [.int (x1 >>> ((nI 3) &&& nI 31)), .int ((nI 7) - v6)]) X hM hl.1 (c_L_low (l := l) (g := g) (b := b)  hq) mv_L_low ml_L_15 ⟨Nat.le_trans (Nat.le_of_ble_eq_true rfl) hRf, Nat.le_trans (Nat.le_of_ble_eq_true rfl) hRl⟩ rfl rfl (Nat.le_of_ble_eq_true rfl) dL_tries_110 (fun H locs hM => ?_)
    refine lv_iadd hx hb dL_tries_113 ?_
    refine cz_nmi h (fun v8 h => ?_)
    refine lv_istore (lv' := [(7, .int v8), (6, .int v6), (5, .int (nI 1)), (4, .int v2), (3, .int v4), (2, .int v2), (0, .ref a0), (1, .int x1)]) hx hb dL_tries_114 hl (by decide) rfl (fun ls hl => ?_)
    refine lv_iload hx hb dL_tries_116 (lv_at hl 2 rfl) ?_
    refine lv_if_eq (tgt := 186) hx hb dL_tries_118 (by decide) (fun c9 => absurd c9 (by decide)) (fun _ => ?_)
    refine lv_aload_n hx hb dL_tries_121 rfl (lv_at hl 6 rfl) ?_
    refine lv_iload hx hb dL_tries_122 (lv_at hl 1 rfl) ?_
    refine lv_iload hx hb dL_tries_124 (lv_at hl 0 rfl) ?_
    obtain ⟨v11, M10, hq, h⟩ := cz_b2_t h
    refine cz_runV (rest := []) (As := [.int v6, .int v8]) (T := TX4) (N0 := 8) X hM hl.1 (c_X4_trade (l := l) (g := g) (b := b) ka0 hq) mv_X4_trade rfl (by decide) ka0 ml_L_39 ⟨Nat.le_trans (Nat.le_of_ble_eq_true rfl) hRf, Nat.le_trans (Nat.le_of_ble_eq_true rfl) hRl⟩ rfl rfl (Nat.le_of_ble_eq_true rfl) dL_tries_126 (fun H locs hM => ?_)
    refine lv_if_lt (tgt := 186) hx hb dL_tries_129 (by decide) (fun c12 => ?_) (fun c12 => ?_)
    · have h := cz_ite_t c12 h
      refine lv_aload_n hx hb dL_tries_186 rfl (lv_at hl 6 rfl) ?_
      refine lv_iconst (v := nI 1) hx hb dL_tries_187 (by decide) ?_
      obtain ⟨v14, M13, hq, h⟩ := cz_b2_t h
      refine cz_runV (rest := []) (As := [.int (nI 1)]) (T := TX4) (N0 := 8) X hM hl.1 (c_X4_count (l := l) (g := g) (b := b) ka0 hq) mv_X4_count rfl (by decide) ka0 ml_L_9 ⟨Nat.le_trans (Nat.le_of_ble_eq_true rfl) hRf, Nat.le_trans (Nat.le_of_ble_eq_true rfl) hRl⟩ rfl rfl (Nat.le_of_ble_eq_true rfl) dL_tries_188 (fun H locs hM => ?_)
      refine lv_istore (lv' := [(8, .int v14), (7, .int v8), (6, .int v6), (5, .int (nI 1)), (4, .int v2), (3, .int v4), (2, .int v2), (0, .ref a0), (1, .int x1)]) hx hb dL_tries_191 hl (by decide) rfl (fun ls hl => ?_)
      refine lv_aload_n hx hb dL_tries_193 rfl (lv_at hl 7 rfl) ?_
      obtain ⟨v16, M15, hq, h⟩ := cz_b2_t h
      refine cz_runV (rest := []) (As := []) (T := TX4) (N0 := 8) X hM hl.1 (c_X4_leastLimit (l := l) (g := g) (b := b) ka0 hq) mv_X4_leastLimit rfl (by decide) ka0 ml_L_86 ⟨Nat.le_trans (Nat.le_of_ble_eq_true rfl) hRf, Nat.le_trans (Nat.le_of_ble_eq_true rfl) hRl⟩ rfl rfl (Nat.le_of_ble_eq_true rfl) dL_tries_194 (fun H locs hM => ?_)
      refine lv_istore (lv' := [(9, .int v16), (8, .int v14), (7, .int v8), (6, .int v6), (5, .int (nI 1)), (4, .int v2), (3, .int v4), (2, .int v2), (0, .ref a0), (1, .int x1)]) hx hb dL_tries_197 hl (by decide) rfl (fun ls hl => ?_)
      refine lv_iload hx hb dL_tries_199 (lv_at hl 4 rfl) ?_
      refine lv_if_eq (tgt := 267) hx hb dL_tries_201 (by decide) (fun c17 => absurd c17 (by decide)) (fun _ => ?_)
      refine lv_aload_n hx hb dL_tries_204 rfl (lv_at hl 8 rfl) ?_
      refine lv_iconst (v := nI 1) hx hb dL_tries_205 (by decide) ?_
      refine lv_iload hx hb dL_tries_206 (lv_at hl 0 rfl) ?_
      obtain ⟨v19, M18, hq, h⟩ := cz_b2_t h
      refine cz_runV (rest := []) (As := [.int (nI 1), .int v16]) (T := TX4) (N0 := 8) X hM hl.1 (c_X4_set (l := l) (g := g) (b := b) ka0 hq) mv_X4_set rfl (by decide) ka0 ml_L_42 ⟨Nat.le_trans (Nat.le_of_ble_eq_true rfl) hRf, Nat.le_trans (Nat.le_of_ble_eq_true rfl) hRl⟩ rfl rfl (Nat.le_of_ble_eq_true rfl) dL_tries_208 (fun H locs hM => ?_)
      refine lv_iload hx hb dL_tries_211 (lv_at hl 1 rfl) ?_
      refine lv_icmp_ne (tgt := 267) hx hb dL_tries_213 (by decide) (fun c20 => ?_) (fun c20 => ?_)
      · have h := cz_ite_f c20 h
        refine lv_iconst (v := nI 0) hx hb dL_tries_267 (by decide) ?_
        cases h
      · have h := cz_ite_t c20 h
        refine lv_aload_n hx hb dL_tries_216 rfl (lv_at hl 8 rfl) ?_
        obtain ⟨v22, M21, hq, h⟩ := cz_b2_t h
        refine cz_runS (rest := []) (As := [.ref a0]) X hM hl.1 (c_L_isCalm (l := l) (g := g) (b := b) ka0 hq) mv_L_isCalm ml_L_89 ⟨Nat.le_trans (Nat.le_of_ble_eq_true rfl) hRf, Nat.le_trans (Nat.le_of_ble_eq_true rfl) hRl⟩ rfl rfl (Nat.le_of_ble_eq_true rfl) dL_tries_217 (fun H locs hM => ?_)
        refine lv_if_eq (tgt := 267) hx hb dL_tries_220 (by decide) (fun c23 => ?_) (fun c23 => ?_)
        · have h := cz_ite_t c23 h
          refine lv_iconst (v := nI 0) hx hb dL_tries_267 (by decide) ?_
          cases h
        · have h := cz_ite_f c23 h
          refine lv_iload hx hb dL_tries_223 (lv_at hl 0 rfl) ?_
          refine lv_if_eq (tgt := 256) hx hb dL_tries_225 (by decide) (fun c24 => ?_) (fun c24 => ?_)
          · have h := cz_ite_t c24 h
            refine lv_aload_n hx hb dL_tries_256 rfl (lv_at hl 8 rfl) ?_
            obtain ⟨v26, M25, hq, h⟩ := cz_b2_t h
            refine cz_runV (rest := []) (As := []) (T := TX4) (N0 := 8) X hM hl.1 (c_X4_undo (l := l) (g := g) (b := b) ka0 hq) mv_X4_undo rfl (by decide) ka0 ml_L_83 ⟨Nat.le_trans (Nat.le_of_ble_eq_true rfl) hRf, Nat.le_trans (Nat.le_of_ble_eq_true rfl) hRl⟩ rfl rfl (Nat.le_of_ble_eq_true rfl) dL_tries_257 (fun H locs hM => ?_)
            refine lv_if_lt (tgt := 267) hx hb dL_tries_260 (by decide) (fun c27 => ?_) (fun c27 => ?_)
            · have h := cz_ite_t c27 h
              refine lv_iconst (v := nI 0) hx hb dL_tries_267 (by decide) ?_
              cases h
            · have h := cz_ite_f c27 h
              refine lv_iconst (v := nI 1) hx hb dL_tries_263 (by decide) ?_
              refine lv_goto (tgt := 268) hx hb dL_tries_264 (by decide) ?_
              refine lv_istore (lv' := [(5, .int (nI 1)), (9, .int v16), (8, .int v14), (7, .int v8), (6, .int v6), (4, .int v2), (3, .int v4), (2, .int v2), (0, .ref a0), (1, .int x1)]) hx hb dL_tries_268 hl (by decide) rfl (fun ls hl => ?_)
              refine lv_iload hx hb dL_tries_270 (lv_at hl 0 rfl) ?_
              refine lv_if_eq (tgt := 299) hx hb dL_tries_272 (by decide) (fun c28 => absurd c28 (by decide)) (fun _ => ?_)
              refine lv_aload_n hx hb dL_tries_275 rfl (lv_at hl 8 rfl) ?_
              refine lv_iconst (v := nI 4) hx hb dL_tries_276 (by decide) ?_
              refine lv_iconst (v := nI 0) hx hb dL_tries_277 (by decide) ?_
              obtain ⟨v30, M29, hq, h⟩ := cz_b2_t h
              refine cz_runV (rest := []) (As := [.int (nI 4), .int (nI 0)]) (T := TX4) (N0 := 8) X hM hl.1 (c_X4_ifPassed (l := l) (g := g) (b := b) ka0 hq) mv_X4_ifPassed rfl (by decide) ka0 ml_L_52 ⟨Nat.le_trans (Nat.le_of_ble_eq_true rfl) hRf, Nat.le_trans (Nat.le_of_ble_eq_true rfl) hRl⟩ rfl rfl (Nat.le_of_ble_eq_true rfl) dL_tries_278 (fun H locs hM => ?_)
              refine lv_iload_n hx hb dL_tries_281 rfl (lv_at hl 7 rfl) ?_
              refine lv_icmp_ne (tgt := 299) hx hb dL_tries_282 (by decide) (fun c31 => ?_) (fun c31 => ?_)
              · have h := cz_ite_f c31 h
                refine lv_iconst (v := nI 0) hx hb dL_tries_299 (by decide) ?_
                cases h
              · have h := cz_ite_t c31 h
                refine lv_aload_n hx hb dL_tries_285 rfl (lv_at hl 8 rfl) ?_
                refine lv_iconst (v := nI 1) hx hb dL_tries_286 (by decide) ?_
                obtain ⟨v33, M32, hq, h⟩ := cz_b2_t h
                refine cz_runV (rest := []) (As := [.int (nI 1)]) (T := TX4) (N0 := 8) X hM hl.1 (c_X4_count (l := l) (g := g) (b := b) ka0 hq) mv_X4_count rfl (by decide) ka0 ml_L_9 ⟨Nat.le_trans (Nat.le_of_ble_eq_true rfl) hRf, Nat.le_trans (Nat.le_of_ble_eq_true rfl) hRl⟩ rfl rfl (Nat.le_of_ble_eq_true rfl) dL_tries_287 (fun H locs hM => ?_)
                refine lv_iload hx hb dL_tries_290 (lv_at hl 2 rfl) ?_
                refine lv_icmp_ne (tgt := 299) hx hb dL_tries_292 (by decide) (fun c34 => ?_) (fun c34 => ?_)
                · have h := cz_ite_f c34 h
                  refine lv_iconst (v := nI 0) hx hb dL_tries_299 (by decide) ?_
                  cases h
                · have h := cz_ite_t c34 h
                  refine lv_iconst (v := nI 1) hx hb dL_tries_295 (by decide) ?_
                  refine lv_goto (tgt := 300) hx hb dL_tries_296 (by decide) ?_
                  exact cz_reti X hM h rfl dL_tries_300
          · have h := cz_ite_f c24 h
            refine lv_aload_n hx hb dL_tries_228 rfl (lv_at hl 8 rfl) ?_
            refine lv_iconst (v := nI 1) hx hb dL_tries_229 (by decide) ?_
            refine lv_iload hx hb dL_tries_230 (lv_at hl 0 rfl) ?_
            refine lv_iconst (v := nI 1) hx hb dL_tries_232 (by decide) ?_
            refine lv_isub hx hb dL_tries_233 ?_
            obtain ⟨v36, M35, hq, h⟩ := cz_b2_t h
            refine cz_runV (rest := []) (As := [.int (nI 1), .int (v16 - (nI 1))]) (T := TX4) (N0 := 8) X hM hl.1 (c_X4_set (l := l) (g := g) (b := b) ka0 hq) mv_X4_set rfl (by decide) ka0 ml_L_42 ⟨Nat.le_trans (Nat.le_of_ble_eq_true rfl) hRf, Nat.le_trans (Nat.le_of_ble_eq_true rfl) hRl⟩ rfl rfl (Nat.le_of_ble_eq_true rfl) dL_tries_234 (fun H locs hM => ?_)
            refine lv_iload hx hb dL_tries_237 (lv_at hl 0 rfl) ?_
            refine lv_icmp_ne (tgt := 267) hx hb dL_tries_239 (by decide) (fun c37 => ?_) (fun c37 => ?_)
            · have h := cz_ite_f c37 h
              refine lv_iconst (v := nI 0) hx hb dL_tries_267 (by decide) ?_
              cases h
            · have h := cz_ite_t c37 h
              refine lv_aload_n hx hb dL_tries_242 rfl (lv_at hl 8 rfl) ?_
              obtain ⟨v39, M38, hq, h⟩ := cz_b2_t h
              refine cz_runS (rest := []) (As := [.ref a0]) X hM hl.1 (c_L_isCalm (l := l) (g := g) (b := b) ka0 hq) mv_L_isCalm ml_L_89 ⟨Nat.le_trans (Nat.le_of_ble_eq_true rfl) hRf, Nat.le_trans (Nat.le_of_ble_eq_true rfl) hRl⟩ rfl rfl (Nat.le_of_ble_eq_true rfl) dL_tries_243 (fun H locs hM => ?_)
              refine lv_if_ne (tgt := 267) hx hb dL_tries_246 (by decide) (fun c40 => ?_) (fun c40 => ?_)
              · have h := cz_ite_f c40 h
                refine lv_iconst (v := nI 0) hx hb dL_tries_267 (by decide) ?_
                cases h
              · have h := cz_ite_t c40 h
                refine lv_aload_n hx hb dL_tries_249 rfl (lv_at hl 8 rfl) ?_
                obtain ⟨v42, M41, hq, h⟩ := cz_b2_t h
                refine cz_runV (rest := []) (As := []) (T := TX4) (N0 := 8) X hM hl.1 (c_X4_undo (l := l) (g := g) (b := b) ka0 hq) mv_X4_undo rfl (by decide) ka0 ml_L_83 ⟨Nat.le_trans (Nat.le_of_ble_eq_true rfl) hRf, Nat.le_trans (Nat.le_of_ble_eq_true rfl) hRl⟩ rfl rfl (Nat.le_of_ble_eq_true rfl) dL_tries_250 (fun H locs hM => ?_)
                refine lv_if_lt (tgt := 267) hx hb dL_tries_253 (by decide) (fun c43 => ?_) (fun c43 => ?_)
                · have h := cz_ite_t c43 h
                  refine lv_iconst (v := nI 0) hx hb dL_tries_267 (by decide) ?_
                  cases h
                · have h := cz_ite_f c43 h
                  refine lv_aload_n hx hb dL_tries_256 rfl (lv_at hl 8 rfl) ?_
                  obtain ⟨v45, M44, hq, h⟩ := cz_b2_t h
                  refine cz_runV (rest := []) (As := []) (T := TX4) (N0 := 8) X hM hl.1 (c_X4_undo (l := l) (g := g) (b := b) ka0 hq) mv_X4_undo rfl (by decide) ka0 ml_L_83 ⟨Nat.le_trans (Nat.le_of_ble_eq_true rfl) hRf, Nat.le_trans (Nat.le_of_ble_eq_true rfl) hRl⟩ rfl rfl (Nat.le_of_ble_eq_true rfl) dL_tries_257 (fun H locs hM => ?_)
                  refine lv_if_lt (tgt := 267) hx hb dL_tries_260 (by decide) (fun c46 => ?_) (fun c46 => ?_)
                  · have h := cz_ite_t c46 h
                    refine lv_iconst (v := nI 0) hx hb dL_tries_267 (by decide) ?_
                    cases h
                  · have h := cz_ite_f c46 h
                    refine lv_iconst (v := nI 1) hx hb dL_tries_263 (by decide) ?_
                    refine lv_goto (tgt := 268) hx hb dL_tries_264 (by decide) ?_
                    refine lv_istore (lv' := [(5, .int (nI 1)), (9, .int v16), (8, .int v14), (7, .int v8), (6, .int v6), (4, .int v2), (3, .int v4), (2, .int v2), (0, .ref a0), (1, .int x1)]) hx hb dL_tries_268 hl (by decide) rfl (fun ls hl => ?_)
                    refine lv_iload hx hb dL_tries_270 (lv_at hl 0 rfl) ?_
                    refine lv_if_eq (tgt := 299) hx hb dL_tries_272 (by decide) (fun c47 => absurd c47 (by decide)) (fun _ => ?_)
                    refine lv_aload_n hx hb dL_tries_275 rfl (lv_at hl 8 rfl) ?_
                    refine lv_iconst (v := nI 4) hx hb dL_tries_276 (by decide) ?_
                    refine lv_iconst (v := nI 0) hx hb dL_tries_277 (by decide) ?_
                    obtain ⟨v49, M48, hq, h⟩ := cz_b2_t h
                    refine cz_runV (rest := []) (As := [.int (nI 4), .int (nI 0)]) (T := TX4) (N0 := 8) X hM hl.1 (c_X4_ifPassed (l := l) (g := g) (b := b) ka0 hq) mv_X4_ifPassed rfl (by decide) ka0 ml_L_52 ⟨Nat.le_trans (Nat.le_of_ble_eq_true rfl) hRf, Nat.le_trans (Nat.le_of_ble_eq_true rfl) hRl⟩ rfl rfl (Nat.le_of_ble_eq_true rfl) dL_tries_278 (fun H locs hM => ?_)
                    refine lv_iload_n hx hb dL_tries_281 rfl (lv_at hl 7 rfl) ?_
                    refine lv_icmp_ne (tgt := 299) hx hb dL_tries_282 (by decide) (fun c50 => ?_) (fun c50 => ?_)
                    · have h := cz_ite_f c50 h
                      refine lv_iconst (v := nI 0) hx hb dL_tries_299 (by decide) ?_
                      cases h
                    · have h := cz_ite_t c50 h
                      refine lv_aload_n hx hb dL_tries_285 rfl (lv_at hl 8 rfl) ?_
                      refine lv_iconst (v := nI 1) hx hb dL_tries_286 (by decide) ?_
                      obtain ⟨v52, M51, hq, h⟩ := cz_b2_t h
                      refine cz_runV (rest := []) (As := [.int (nI 1)]) (T := TX4) (N0 := 8) X hM hl.1 (c_X4_count (l := l) (g := g) (b := b) ka0 hq) mv_X4_count rfl (by decide) ka0 ml_L_9 ⟨Nat.le_trans (Nat.le_of_ble_eq_true rfl) hRf, Nat.le_trans (Nat.le_of_ble_eq_true rfl) hRl⟩ rfl rfl (Nat.le_of_ble_eq_true rfl) dL_tries_287 (fun H locs hM => ?_)
                      refine lv_iload hx hb dL_tries_290 (lv_at hl 2 rfl) ?_
                      refine lv_icmp_ne (tgt := 299) hx hb dL_tries_292 (by decide) (fun c53 => ?_) (fun c53 => ?_)
                      · have h := cz_ite_f c53 h
                        refine lv_iconst (v := nI 0) hx hb dL_tries_299 (by decide) ?_
                        cases h
                      · have h := cz_ite_t c53 h
                        refine lv_iconst (v := nI 1) hx hb dL_tries_295 (by decide) ?_
                        refine lv_goto (tgt := 300) hx hb dL_tries_296 (by decide) ?_
                        exact cz_reti X hM h rfl dL_tries_300
    · have h := cz_ite_f c12 h
      refine lv_aload_n hx hb dL_tries_132 rfl (lv_at hl 6 rfl) ?_
      refine lv_iconst (v := nI 4) hx hb dL_tries_133 (by decide) ?_
      refine lv_iconst (v := nI 0) hx hb dL_tries_134 (by decide) ?_
      obtain ⟨v55, M54, hq, h⟩ := cz_b2_t h
      refine cz_runV (rest := []) (As := [.int (nI 4), .int (nI 0)]) (T := TX4) (N0 := 8) X hM hl.1 (c_X4_ifPassed (l := l) (g := g) (b := b) ka0 hq) mv_X4_ifPassed rfl (by decide) ka0 ml_L_52 ⟨Nat.le_trans (Nat.le_of_ble_eq_true rfl) hRf, Nat.le_trans (Nat.le_of_ble_eq_true rfl) hRl⟩ rfl rfl (Nat.le_of_ble_eq_true rfl) dL_tries_135 (fun H locs hM => ?_)
      refine lv_istore (lv' := [(8, .int v55), (7, .int v8), (6, .int v6), (5, .int (nI 1)), (4, .int v2), (3, .int v4), (2, .int v2), (0, .ref a0), (1, .int x1)]) hx hb dL_tries_138 hl (by decide) rfl (fun ls hl => ?_)
      refine lv_iload hx hb dL_tries_140 (lv_at hl 0 rfl) ?_
      refine lv_iload hx hb dL_tries_142 (lv_at hl 4 rfl) ?_
      refine lv_icmp_lt (tgt := 172) hx hb dL_tries_144 (by decide) (fun c56 => ?_) (fun c56 => ?_)
      · have h := cz_ite_t c56 h
        refine lv_aload_n hx hb dL_tries_172 rfl (lv_at hl 7 rfl) ?_
        obtain ⟨v58, M57, hq, h⟩ := cz_b2_t h
        refine cz_runV (rest := []) (As := []) (T := TX4) (N0 := 8) X hM hl.1 (c_X4_undo (l := l) (g := g) (b := b) ka0 hq) mv_X4_undo rfl (by decide) ka0 ml_L_83 ⟨Nat.le_trans (Nat.le_of_ble_eq_true rfl) hRf, Nat.le_trans (Nat.le_of_ble_eq_true rfl) hRl⟩ rfl rfl (Nat.le_of_ble_eq_true rfl) dL_tries_173 (fun H locs hM => ?_)
        refine lv_if_lt (tgt := 183) hx hb dL_tries_176 (by decide) (fun c59 => ?_) (fun c59 => ?_)
        · have h := cz_ite_t c59 h
          refine lv_iconst (v := nI 0) hx hb dL_tries_183 (by decide) ?_
          cases h
        · have h := cz_ite_f c59 h
          refine lv_iconst (v := nI 1) hx hb dL_tries_179 (by decide) ?_
          refine lv_goto (tgt := 184) hx hb dL_tries_180 (by decide) ?_
          refine lv_istore (lv' := [(5, .int (nI 1)), (8, .int v55), (7, .int v8), (6, .int v6), (4, .int v2), (3, .int v4), (2, .int v2), (0, .ref a0), (1, .int x1)]) hx hb dL_tries_184 hl (by decide) rfl (fun ls hl => ?_)
          refine lv_aload_n hx hb dL_tries_186 rfl (lv_at hl 7 rfl) ?_
          refine lv_iconst (v := nI 1) hx hb dL_tries_187 (by decide) ?_
          obtain ⟨v61, M60, hq, h⟩ := cz_b2_t h
          refine cz_runV (rest := []) (As := [.int (nI 1)]) (T := TX4) (N0 := 8) X hM hl.1 (c_X4_count (l := l) (g := g) (b := b) ka0 hq) mv_X4_count rfl (by decide) ka0 ml_L_9 ⟨Nat.le_trans (Nat.le_of_ble_eq_true rfl) hRf, Nat.le_trans (Nat.le_of_ble_eq_true rfl) hRl⟩ rfl rfl (Nat.le_of_ble_eq_true rfl) dL_tries_188 (fun H locs hM => ?_)
          refine lv_istore (lv' := [(8, .int v61), (5, .int (nI 1)), (7, .int v8), (6, .int v6), (4, .int v2), (3, .int v4), (2, .int v2), (0, .ref a0), (1, .int x1)]) hx hb dL_tries_191 hl (by decide) rfl (fun ls hl => ?_)
          refine lv_aload_n hx hb dL_tries_193 rfl (lv_at hl 7 rfl) ?_
          obtain ⟨v63, M62, hq, h⟩ := cz_b2_t h
          refine cz_runV (rest := []) (As := []) (T := TX4) (N0 := 8) X hM hl.1 (c_X4_leastLimit (l := l) (g := g) (b := b) ka0 hq) mv_X4_leastLimit rfl (by decide) ka0 ml_L_86 ⟨Nat.le_trans (Nat.le_of_ble_eq_true rfl) hRf, Nat.le_trans (Nat.le_of_ble_eq_true rfl) hRl⟩ rfl rfl (Nat.le_of_ble_eq_true rfl) dL_tries_194 (fun H locs hM => ?_)
          refine lv_istore (lv' := [(9, .int v63), (8, .int v61), (5, .int (nI 1)), (7, .int v8), (6, .int v6), (4, .int v2), (3, .int v4), (2, .int v2), (0, .ref a0), (1, .int x1)]) hx hb dL_tries_197 hl (by decide) rfl (fun ls hl => ?_)
          refine lv_iload hx hb dL_tries_199 (lv_at hl 2 rfl) ?_
          refine lv_if_eq (tgt := 267) hx hb dL_tries_201 (by decide) (fun c64 => absurd c64 (by decide)) (fun _ => ?_)
          refine lv_aload_n hx hb dL_tries_204 rfl (lv_at hl 8 rfl) ?_
          refine lv_iconst (v := nI 1) hx hb dL_tries_205 (by decide) ?_
          refine lv_iload hx hb dL_tries_206 (lv_at hl 0 rfl) ?_
          obtain ⟨v66, M65, hq, h⟩ := cz_b2_t h
          refine cz_runV (rest := []) (As := [.int (nI 1), .int v63]) (T := TX4) (N0 := 8) X hM hl.1 (c_X4_set (l := l) (g := g) (b := b) ka0 hq) mv_X4_set rfl (by decide) ka0 ml_L_42 ⟨Nat.le_trans (Nat.le_of_ble_eq_true rfl) hRf, Nat.le_trans (Nat.le_of_ble_eq_true rfl) hRl⟩ rfl rfl (Nat.le_of_ble_eq_true rfl) dL_tries_208 (fun H locs hM => ?_)
          refine lv_iload hx hb dL_tries_211 (lv_at hl 1 rfl) ?_
          refine lv_icmp_ne (tgt := 267) hx hb dL_tries_213 (by decide) (fun c67 => ?_) (fun c67 => ?_)
          · have h := cz_ite_f c67 h
            refine lv_iconst (v := nI 0) hx hb dL_tries_267 (by decide) ?_
            cases h
          · have h := cz_ite_t c67 h
            refine lv_aload_n hx hb dL_tries_216 rfl (lv_at hl 8 rfl) ?_
            obtain ⟨v69, M68, hq, h⟩ := cz_b2_t h
            refine cz_runS (rest := []) (As := [.ref a0]) X hM hl.1 (c_L_isCalm (l := l) (g := g) (b := b) ka0 hq) mv_L_isCalm ml_L_89 ⟨Nat.le_trans (Nat.le_of_ble_eq_true rfl) hRf, Nat.le_trans (Nat.le_of_ble_eq_true rfl) hRl⟩ rfl rfl (Nat.le_of_ble_eq_true rfl) dL_tries_217 (fun H locs hM => ?_)
            refine lv_if_eq (tgt := 267) hx hb dL_tries_220 (by decide) (fun c70 => ?_) (fun c70 => ?_)
            · have h := cz_ite_t c70 h
              refine lv_iconst (v := nI 0) hx hb dL_tries_267 (by decide) ?_
              cases h
            · have h := cz_ite_f c70 h
              refine lv_iload hx hb dL_tries_223 (lv_at hl 0 rfl) ?_
              refine lv_if_eq (tgt := 256) hx hb dL_tries_225 (by decide) (fun c71 => ?_) (fun c71 => ?_)
              · have h := cz_ite_t c71 h
                refine lv_aload_n hx hb dL_tries_256 rfl (lv_at hl 8 rfl) ?_
                obtain ⟨v73, M72, hq, h⟩ := cz_b2_t h
                refine cz_runV (rest := []) (As := []) (T := TX4) (N0 := 8) X hM hl.1 (c_X4_undo (l := l) (g := g) (b := b) ka0 hq) mv_X4_undo rfl (by decide) ka0 ml_L_83 ⟨Nat.le_trans (Nat.le_of_ble_eq_true rfl) hRf, Nat.le_trans (Nat.le_of_ble_eq_true rfl) hRl⟩ rfl rfl (Nat.le_of_ble_eq_true rfl) dL_tries_257 (fun H locs hM => ?_)
                refine lv_if_lt (tgt := 267) hx hb dL_tries_260 (by decide) (fun c74 => ?_) (fun c74 => ?_)
                · have h := cz_ite_t c74 h
                  refine lv_iconst (v := nI 0) hx hb dL_tries_267 (by decide) ?_
                  cases h
                · have h := cz_ite_f c74 h
                  refine lv_iconst (v := nI 1) hx hb dL_tries_263 (by decide) ?_
                  refine lv_goto (tgt := 268) hx hb dL_tries_264 (by decide) ?_
                  refine lv_istore (lv' := [(5, .int (nI 1)), (9, .int v63), (8, .int v61), (7, .int v8), (6, .int v6), (4, .int v2), (3, .int v4), (2, .int v2), (0, .ref a0), (1, .int x1)]) hx hb dL_tries_268 hl (by decide) rfl (fun ls hl => ?_)
                  refine lv_iload hx hb dL_tries_270 (lv_at hl 0 rfl) ?_
                  refine lv_if_eq (tgt := 299) hx hb dL_tries_272 (by decide) (fun c75 => absurd c75 (by decide)) (fun _ => ?_)
                  refine lv_aload_n hx hb dL_tries_275 rfl (lv_at hl 8 rfl) ?_
                  refine lv_iconst (v := nI 4) hx hb dL_tries_276 (by decide) ?_
                  refine lv_iconst (v := nI 0) hx hb dL_tries_277 (by decide) ?_
                  obtain ⟨v77, M76, hq, h⟩ := cz_b2_t h
                  refine cz_runV (rest := []) (As := [.int (nI 4), .int (nI 0)]) (T := TX4) (N0 := 8) X hM hl.1 (c_X4_ifPassed (l := l) (g := g) (b := b) ka0 hq) mv_X4_ifPassed rfl (by decide) ka0 ml_L_52 ⟨Nat.le_trans (Nat.le_of_ble_eq_true rfl) hRf, Nat.le_trans (Nat.le_of_ble_eq_true rfl) hRl⟩ rfl rfl (Nat.le_of_ble_eq_true rfl) dL_tries_278 (fun H locs hM => ?_)
                  refine lv_iload_n hx hb dL_tries_281 rfl (lv_at hl 7 rfl) ?_
                  refine lv_icmp_ne (tgt := 299) hx hb dL_tries_282 (by decide) (fun c78 => ?_) (fun c78 => ?_)
                  · have h := cz_ite_f c78 h
                    refine lv_iconst (v := nI 0) hx hb dL_tries_299 (by decide) ?_
                    cases h
                  · have h := cz_ite_t c78 h
                    refine lv_aload_n hx hb dL_tries_285 rfl (lv_at hl 8 rfl) ?_
                    refine lv_iconst (v := nI 1) hx hb dL_tries_286 (by decide) ?_
                    obtain ⟨v80, M79, hq, h⟩ := cz_b2_t h
                    refine cz_runV (rest := []) (As := [.int (nI 1)]) (T := TX4) (N0 := 8) X hM hl.1 (c_X4_count (l := l) (g := g) (b := b) ka0 hq) mv_X4_count rfl (by decide) ka0 ml_L_9 ⟨Nat.le_trans (Nat.le_of_ble_eq_true rfl) hRf, Nat.le_trans (Nat.le_of_ble_eq_true rfl) hRl⟩ rfl rfl (Nat.le_of_ble_eq_true rfl) dL_tries_287 (fun H locs hM => ?_)
                    refine lv_iload hx hb dL_tries_290 (lv_at hl 2 rfl) ?_
                    refine lv_icmp_ne (tgt := 299) hx hb dL_tries_292 (by decide) (fun c81 => ?_) (fun c81 => ?_)
                    · have h := cz_ite_f c81 h
                      refine lv_iconst (v := nI 0) hx hb dL_tries_299 (by decide) ?_
                      cases h
                    · have h := cz_ite_t c81 h
                      refine lv_iconst (v := nI 1) hx hb dL_tries_295 (by decide) ?_
                      refine lv_goto (tgt := 300) hx hb dL_tries_296 (by decide) ?_
                      exact cz_reti X hM h rfl dL_tries_300
              · have h := cz_ite_f c71 h
                refine lv_aload_n hx hb dL_tries_228 rfl (lv_at hl 8 rfl) ?_
                refine lv_iconst (v := nI 1) hx hb dL_tries_229 (by decide) ?_
                refine lv_iload hx hb dL_tries_230 (lv_at hl 0 rfl) ?_
                refine lv_iconst (v := nI 1) hx hb dL_tries_232 (by decide) ?_
                refine lv_isub hx hb dL_tries_233 ?_
                obtain ⟨v83, M82, hq, h⟩ := cz_b2_t h
                refine cz_runV (rest := []) (As := [.int (nI 1), .int (v63 - (nI 1))]) (T := TX4) (N0 := 8) X hM hl.1 (c_X4_set (l := l) (g := g) (b := b) ka0 hq) mv_X4_set rfl (by decide) ka0 ml_L_42 ⟨Nat.le_trans (Nat.le_of_ble_eq_true rfl) hRf, Nat.le_trans (Nat.le_of_ble_eq_true rfl) hRl⟩ rfl rfl (Nat.le_of_ble_eq_true rfl) dL_tries_234 (fun H locs hM => ?_)
                refine lv_iload hx hb dL_tries_237 (lv_at hl 0 rfl) ?_
                refine lv_icmp_ne (tgt := 267) hx hb dL_tries_239 (by decide) (fun c84 => ?_) (fun c84 => ?_)
                · have h := cz_ite_f c84 h
                  refine lv_iconst (v := nI 0) hx hb dL_tries_267 (by decide) ?_
                  cases h
                · have h := cz_ite_t c84 h
                  refine lv_aload_n hx hb dL_tries_242 rfl (lv_at hl 8 rfl) ?_
                  obtain ⟨v86, M85, hq, h⟩ := cz_b2_t h
                  refine cz_runS (rest := []) (As := [.ref a0]) X hM hl.1 (c_L_isCalm (l := l) (g := g) (b := b) ka0 hq) mv_L_isCalm ml_L_89 ⟨Nat.le_trans (Nat.le_of_ble_eq_true rfl) hRf, Nat.le_trans (Nat.le_of_ble_eq_true rfl) hRl⟩ rfl rfl (Nat.le_of_ble_eq_true rfl) dL_tries_243 (fun H locs hM => ?_)
                  refine lv_if_ne (tgt := 267) hx hb dL_tries_246 (by decide) (fun c87 => ?_) (fun c87 => ?_)
                  · have h := cz_ite_f c87 h
                    refine lv_iconst (v := nI 0) hx hb dL_tries_267 (by decide) ?_
                    cases h
                  · have h := cz_ite_t c87 h
                    refine lv_aload_n hx hb dL_tries_249 rfl (lv_at hl 8 rfl) ?_
                    obtain ⟨v89, M88, hq, h⟩ := cz_b2_t h
                    refine cz_runV (rest := []) (As := []) (T := TX4) (N0 := 8) X hM hl.1 (c_X4_undo (l := l) (g := g) (b := b) ka0 hq) mv_X4_undo rfl (by decide) ka0 ml_L_83 ⟨Nat.le_trans (Nat.le_of_ble_eq_true rfl) hRf, Nat.le_trans (Nat.le_of_ble_eq_true rfl) hRl⟩ rfl rfl (Nat.le_of_ble_eq_true rfl) dL_tries_250 (fun H locs hM => ?_)
                    refine lv_if_lt (tgt := 267) hx hb dL_tries_253 (by decide) (fun c90 => ?_) (fun c90 => ?_)
                    · have h := cz_ite_t c90 h
                      refine lv_iconst (v := nI 0) hx hb dL_tries_267 (by decide) ?_
                      cases h
                    · have h := cz_ite_f c90 h
                      refine lv_aload_n hx hb dL_tries_256 rfl (lv_at hl 8 rfl) ?_
                      obtain ⟨v92, M91, hq, h⟩ := cz_b2_t h
                      refine cz_runV (rest := []) (As := []) (T := TX4) (N0 := 8) X hM hl.1 (c_X4_undo (l := l) (g := g) (b := b) ka0 hq) mv_X4_undo rfl (by decide) ka0 ml_L_83 ⟨Nat.le_trans (Nat.le_of_ble_eq_true rfl) hRf, Nat.le_trans (Nat.le_of_ble_eq_true rfl) hRl⟩ rfl rfl (Nat.le_of_ble_eq_true rfl) dL_tries_257 (fun H locs hM => ?_)
                      refine lv_if_lt (tgt := 267) hx hb dL_tries_260 (by decide) (fun c93 => ?_) (fun c93 => ?_)
                      · have h := cz_ite_t c93 h
                        refine lv_iconst (v := nI 0) hx hb dL_tries_267 (by decide) ?_
                        cases h
                      · have h := cz_ite_f c93 h
                        refine lv_iconst (v := nI 1) hx hb dL_tries_263 (by decide) ?_
                        refine lv_goto (tgt := 268) hx hb dL_tries_264 (by decide) ?_
                        refine lv_istore (lv' := [(5, .int (nI 1)), (9, .int v63), (8, .int v61), (7, .int v8), (6, .int v6), (4, .int v2), (3, .int v4), (2, .int v2), (0, .ref a0), (1, .int x1)]) hx hb dL_tries_268 hl (by decide) rfl (fun ls hl => ?_)
                        refine lv_iload hx hb dL_tries_270 (lv_at hl 0 rfl) ?_
                        refine lv_if_eq (tgt := 299) hx hb dL_tries_272 (by decide) (fun c94 => absurd c94 (by decide)) (fun _ => ?_)
                        refine lv_aload_n hx hb dL_tries_275 rfl (lv_at hl 8 rfl) ?_
                        refine lv_iconst (v := nI 4) hx hb dL_tries_276 (by decide) ?_
                        refine lv_iconst (v := nI 0) hx hb dL_tries_277 (by decide) ?_
                        obtain ⟨v96, M95, hq, h⟩ := cz_b2_t h
                        refine cz_runV (rest := []) (As := [.int (nI 4), .int (nI 0)]) (T := TX4) (N0 := 8) X hM hl.1 (c_X4_ifPassed (l := l) (g := g) (b := b) ka0 hq) mv_X4_ifPassed rfl (by decide) ka0 ml_L_52 ⟨Nat.le_trans (Nat.le_of_ble_eq_true rfl) hRf, Nat.le_trans (Nat.le_of_ble_eq_true rfl) hRl⟩ rfl rfl (Nat.le_of_ble_eq_true rfl) dL_tries_278 (fun H locs hM => ?_)
                        refine lv_iload_n hx hb dL_tries_281 rfl (lv_at hl 7 rfl) ?_
                        refine lv_icmp_ne (tgt := 299) hx hb dL_tries_282 (by decide) (fun c97 => ?_) (fun c97 => ?_)
                        · have h := cz_ite_f c97 h
                          refine lv_iconst (v := nI 0) hx hb dL_tries_299 (by decide) ?_
                          cases h
                        · have h := cz_ite_t c97 h
                          refine lv_aload_n hx hb dL_tries_285 rfl (lv_at hl 8 rfl) ?_
                          refine lv_iconst (v := nI 1) hx hb dL_tries_286 (by decide) ?_
                          obtain ⟨v99, M98, hq, h⟩ := cz_b2_t h
                          refine cz_runV (rest := []) (As := [.int (nI 1)]) (T := TX4) (N0 := 8) X hM hl.1 (c_X4_count (l := l) (g := g) (b := b) ka0 hq) mv_X4_count rfl (by decide) ka0 ml_L_9 ⟨Nat.le_trans (Nat.le_of_ble_eq_true rfl) hRf, Nat.le_trans (Nat.le_of_ble_eq_true rfl) hRl⟩ rfl rfl (Nat.le_of_ble_eq_true rfl) dL_tries_287 (fun H locs hM => ?_)
                          refine lv_iload hx hb dL_tries_290 (lv_at hl 2 rfl) ?_
                          refine lv_icmp_ne (tgt := 299) hx hb dL_tries_292 (by decide) (fun c100 => ?_) (fun c100 => ?_)
                          · have h := cz_ite_f c100 h
                            refine lv_iconst (v := nI 0) hx hb dL_tries_299 (by decide) ?_
                            cases h
                          · have h := cz_ite_t c100 h
                            refine lv_iconst (v := nI 1) hx hb dL_tries_295 (by decide) ?_
                            refine lv_goto (tgt := 300) hx hb dL_tries_296 (by decide) ?_
                            exact cz_reti X hM h rfl dL_tries_300
      · have h := cz_ite_f c56 h
        refine lv_iload hx hb dL_tries_147 (lv_at hl 0 rfl) ?_
        refine lv_iload hx hb dL_tries_149 (lv_at hl 4 rfl) ?_
        refine lv_icmp_ne (tgt := 183) hx hb dL_tries_151 (by decide) (fun c101 => ?_) (fun c101 => ?_)
        · have h := cz_ite_f c101 h
          refine lv_iconst (v := nI 0) hx hb dL_tries_183 (by decide) ?_
          cases h
        · have h := cz_ite_t c101 h
          refine lv_iload_n hx hb dL_tries_154 rfl (lv_at hl 5 rfl) ?_
          refine lv_bipush (v := -6) hx hb dL_tries_155 (by decide) ?_
          refine lv_icmp_eq (tgt := 172) hx hb dL_tries_157 (by decide) (fun _ => ?_) (fun c102 => absurd c5 c102)
          refine lv_aload_n hx hb dL_tries_172 rfl (lv_at hl 7 rfl) ?_
          obtain ⟨v104, M103, hq, h⟩ := cz_b2_t h
          refine cz_runV (rest := []) (As := []) (T := TX4) (N0 := 8) X hM hl.1 (c_X4_undo (l := l) (g := g) (b := b) ka0 hq) mv_X4_undo rfl (by decide) ka0 ml_L_83 ⟨Nat.le_trans (Nat.le_of_ble_eq_true rfl) hRf, Nat.le_trans (Nat.le_of_ble_eq_true rfl) hRl⟩ rfl rfl (Nat.le_of_ble_eq_true rfl) dL_tries_173 (fun H locs hM => ?_)
          refine lv_if_lt (tgt := 183) hx hb dL_tries_176 (by decide) (fun c105 => ?_) (fun c105 => ?_)
          · have h := cz_ite_t c105 h
            refine lv_iconst (v := nI 0) hx hb dL_tries_183 (by decide) ?_
            cases h
          · have h := cz_ite_f c105 h
            refine lv_iconst (v := nI 1) hx hb dL_tries_179 (by decide) ?_
            refine lv_goto (tgt := 184) hx hb dL_tries_180 (by decide) ?_
            refine lv_istore (lv' := [(5, .int (nI 1)), (8, .int v55), (7, .int v8), (6, .int v6), (4, .int v2), (3, .int v4), (2, .int v2), (0, .ref a0), (1, .int x1)]) hx hb dL_tries_184 hl (by decide) rfl (fun ls hl => ?_)
            refine lv_aload_n hx hb dL_tries_186 rfl (lv_at hl 7 rfl) ?_
            refine lv_iconst (v := nI 1) hx hb dL_tries_187 (by decide) ?_
            obtain ⟨v107, M106, hq, h⟩ := cz_b2_t h
            refine cz_runV (rest := []) (As := [.int (nI 1)]) (T := TX4) (N0 := 8) X hM hl.1 (c_X4_count (l := l) (g := g) (b := b) ka0 hq) mv_X4_count rfl (by decide) ka0 ml_L_9 ⟨Nat.le_trans (Nat.le_of_ble_eq_true rfl) hRf, Nat.le_trans (Nat.le_of_ble_eq_true rfl) hRl⟩ rfl rfl (Nat.le_of_ble_eq_true rfl) dL_tries_188 (fun H locs hM => ?_)
            refine lv_istore (lv' := [(8, .int v107), (5, .int (nI 1)), (7, .int v8), (6, .int v6), (4, .int v2), (3, .int v4), (2, .int v2), (0, .ref a0), (1, .int x1)]) hx hb dL_tries_191 hl (by decide) rfl (fun ls hl => ?_)
            refine lv_aload_n hx hb dL_tries_193 rfl (lv_at hl 7 rfl) ?_
            obtain ⟨v109, M108, hq, h⟩ := cz_b2_t h
            refine cz_runV (rest := []) (As := []) (T := TX4) (N0 := 8) X hM hl.1 (c_X4_leastLimit (l := l) (g := g) (b := b) ka0 hq) mv_X4_leastLimit rfl (by decide) ka0 ml_L_86 ⟨Nat.le_trans (Nat.le_of_ble_eq_true rfl) hRf, Nat.le_trans (Nat.le_of_ble_eq_true rfl) hRl⟩ rfl rfl (Nat.le_of_ble_eq_true rfl) dL_tries_194 (fun H locs hM => ?_)
            refine lv_istore (lv' := [(9, .int v109), (8, .int v107), (5, .int (nI 1)), (7, .int v8), (6, .int v6), (4, .int v2), (3, .int v4), (2, .int v2), (0, .ref a0), (1, .int x1)]) hx hb dL_tries_197 hl (by decide) rfl (fun ls hl => ?_)
            refine lv_iload hx hb dL_tries_199 (lv_at hl 2 rfl) ?_
            refine lv_if_eq (tgt := 267) hx hb dL_tries_201 (by decide) (fun c110 => absurd c110 (by decide)) (fun _ => ?_)
            refine lv_aload_n hx hb dL_tries_204 rfl (lv_at hl 8 rfl) ?_
            refine lv_iconst (v := nI 1) hx hb dL_tries_205 (by decide) ?_
            refine lv_iload hx hb dL_tries_206 (lv_at hl 0 rfl) ?_
            obtain ⟨v112, M111, hq, h⟩ := cz_b2_t h
            refine cz_runV (rest := []) (As := [.int (nI 1), .int v109]) (T := TX4) (N0 := 8) X hM hl.1 (c_X4_set (l := l) (g := g) (b := b) ka0 hq) mv_X4_set rfl (by decide) ka0 ml_L_42 ⟨Nat.le_trans (Nat.le_of_ble_eq_true rfl) hRf, Nat.le_trans (Nat.le_of_ble_eq_true rfl) hRl⟩ rfl rfl (Nat.le_of_ble_eq_true rfl) dL_tries_208 (fun H locs hM => ?_)
            refine lv_iload hx hb dL_tries_211 (lv_at hl 1 rfl) ?_
            refine lv_icmp_ne (tgt := 267) hx hb dL_tries_213 (by decide) (fun c113 => ?_) (fun c113 => ?_)
            · have h := cz_ite_f c113 h
              refine lv_iconst (v := nI 0) hx hb dL_tries_267 (by decide) ?_
              cases h
            · have h := cz_ite_t c113 h
              refine lv_aload_n hx hb dL_tries_216 rfl (lv_at hl 8 rfl) ?_
              obtain ⟨v115, M114, hq, h⟩ := cz_b2_t h
              refine cz_runS (rest := []) (As := [.ref a0]) X hM hl.1 (c_L_isCalm (l := l) (g := g) (b := b) ka0 hq) mv_L_isCalm ml_L_89 ⟨Nat.le_trans (Nat.le_of_ble_eq_true rfl) hRf, Nat.le_trans (Nat.le_of_ble_eq_true rfl) hRl⟩ rfl rfl (Nat.le_of_ble_eq_true rfl) dL_tries_217 (fun H locs hM => ?_)
              refine lv_if_eq (tgt := 267) hx hb dL_tries_220 (by decide) (fun c116 => ?_) (fun c116 => ?_)
              · have h := cz_ite_t c116 h
                refine lv_iconst (v := nI 0) hx hb dL_tries_267 (by decide) ?_
                cases h
              · have h := cz_ite_f c116 h
                refine lv_iload hx hb dL_tries_223 (lv_at hl 0 rfl) ?_
                refine lv_if_eq (tgt := 256) hx hb dL_tries_225 (by decide) (fun c117 => ?_) (fun c117 => ?_)
                · have h := cz_ite_t c117 h
                  refine lv_aload_n hx hb dL_tries_256 rfl (lv_at hl 8 rfl) ?_
                  obtain ⟨v119, M118, hq, h⟩ := cz_b2_t h
                  refine cz_runV (rest := []) (As := []) (T := TX4) (N0 := 8) X hM hl.1 (c_X4_undo (l := l) (g := g) (b := b) ka0 hq) mv_X4_undo rfl (by decide) ka0 ml_L_83 ⟨Nat.le_trans (Nat.le_of_ble_eq_true rfl) hRf, Nat.le_trans (Nat.le_of_ble_eq_true rfl) hRl⟩ rfl rfl (Nat.le_of_ble_eq_true rfl) dL_tries_257 (fun H locs hM => ?_)
                  refine lv_if_lt (tgt := 267) hx hb dL_tries_260 (by decide) (fun c120 => ?_) (fun c120 => ?_)
                  · have h := cz_ite_t c120 h
                    refine lv_iconst (v := nI 0) hx hb dL_tries_267 (by decide) ?_
                    cases h
                  · have h := cz_ite_f c120 h
                    refine lv_iconst (v := nI 1) hx hb dL_tries_263 (by decide) ?_
                    refine lv_goto (tgt := 268) hx hb dL_tries_264 (by decide) ?_
                    refine lv_istore (lv' := [(5, .int (nI 1)), (9, .int v109), (8, .int v107), (7, .int v8), (6, .int v6), (4, .int v2), (3, .int v4), (2, .int v2), (0, .ref a0), (1, .int x1)]) hx hb dL_tries_268 hl (by decide) rfl (fun ls hl => ?_)
                    refine lv_iload hx hb dL_tries_270 (lv_at hl 0 rfl) ?_
                    refine lv_if_eq (tgt := 299) hx hb dL_tries_272 (by decide) (fun c121 => absurd c121 (by decide)) (fun _ => ?_)
                    refine lv_aload_n hx hb dL_tries_275 rfl (lv_at hl 8 rfl) ?_
                    refine lv_iconst (v := nI 4) hx hb dL_tries_276 (by decide) ?_
                    refine lv_iconst (v := nI 0) hx hb dL_tries_277 (by decide) ?_
                    obtain ⟨v123, M122, hq, h⟩ := cz_b2_t h
                    refine cz_runV (rest := []) (As := [.int (nI 4), .int (nI 0)]) (T := TX4) (N0 := 8) X hM hl.1 (c_X4_ifPassed (l := l) (g := g) (b := b) ka0 hq) mv_X4_ifPassed rfl (by decide) ka0 ml_L_52 ⟨Nat.le_trans (Nat.le_of_ble_eq_true rfl) hRf, Nat.le_trans (Nat.le_of_ble_eq_true rfl) hRl⟩ rfl rfl (Nat.le_of_ble_eq_true rfl) dL_tries_278 (fun H locs hM => ?_)
                    refine lv_iload_n hx hb dL_tries_281 rfl (lv_at hl 7 rfl) ?_
                    refine lv_icmp_ne (tgt := 299) hx hb dL_tries_282 (by decide) (fun c124 => ?_) (fun c124 => ?_)
                    · have h := cz_ite_f c124 h
                      refine lv_iconst (v := nI 0) hx hb dL_tries_299 (by decide) ?_
                      cases h
                    · have h := cz_ite_t c124 h
                      refine lv_aload_n hx hb dL_tries_285 rfl (lv_at hl 8 rfl) ?_
                      refine lv_iconst (v := nI 1) hx hb dL_tries_286 (by decide) ?_
                      obtain ⟨v126, M125, hq, h⟩ := cz_b2_t h
                      refine cz_runV (rest := []) (As := [.int (nI 1)]) (T := TX4) (N0 := 8) X hM hl.1 (c_X4_count (l := l) (g := g) (b := b) ka0 hq) mv_X4_count rfl (by decide) ka0 ml_L_9 ⟨Nat.le_trans (Nat.le_of_ble_eq_true rfl) hRf, Nat.le_trans (Nat.le_of_ble_eq_true rfl) hRl⟩ rfl rfl (Nat.le_of_ble_eq_true rfl) dL_tries_287 (fun H locs hM => ?_)
                      refine lv_iload hx hb dL_tries_290 (lv_at hl 2 rfl) ?_
                      refine lv_icmp_ne (tgt := 299) hx hb dL_tries_292 (by decide) (fun c127 => ?_) (fun c127 => ?_)
                      · have h := cz_ite_f c127 h
                        refine lv_iconst (v := nI 0) hx hb dL_tries_299 (by decide) ?_
                        cases h
                      · have h := cz_ite_t c127 h
                        refine lv_iconst (v := nI 1) hx hb dL_tries_295 (by decide) ?_
                        refine lv_goto (tgt := 300) hx hb dL_tries_296 (by decide) ?_
                        exact cz_reti X hM h rfl dL_tries_300
                · have h := cz_ite_f c117 h
                  refine lv_aload_n hx hb dL_tries_228 rfl (lv_at hl 8 rfl) ?_
                  refine lv_iconst (v := nI 1) hx hb dL_tries_229 (by decide) ?_
                  refine lv_iload hx hb dL_tries_230 (lv_at hl 0 rfl) ?_
                  refine lv_iconst (v := nI 1) hx hb dL_tries_232 (by decide) ?_
                  refine lv_isub hx hb dL_tries_233 ?_
                  obtain ⟨v129, M128, hq, h⟩ := cz_b2_t h
                  refine cz_runV (rest := []) (As := [.int (nI 1), .int (v109 - (nI 1))]) (T := TX4) (N0 := 8) X hM hl.1 (c_X4_set (l := l) (g := g) (b := b) ka0 hq) mv_X4_set rfl (by decide) ka0 ml_L_42 ⟨Nat.le_trans (Nat.le_of_ble_eq_true rfl) hRf, Nat.le_trans (Nat.le_of_ble_eq_true rfl) hRl⟩ rfl rfl (Nat.le_of_ble_eq_true rfl) dL_tries_234 (fun H locs hM => ?_)
                  refine lv_iload hx hb dL_tries_237 (lv_at hl 0 rfl) ?_
                  refine lv_icmp_ne (tgt := 267) hx hb dL_tries_239 (by decide) (fun c130 => ?_) (fun c130 => ?_)
                  · have h := cz_ite_f c130 h
                    refine lv_iconst (v := nI 0) hx hb dL_tries_267 (by decide) ?_
                    cases h
                  · have h := cz_ite_t c130 h
                    refine lv_aload_n hx hb dL_tries_242 rfl (lv_at hl 8 rfl) ?_
                    obtain ⟨v132, M131, hq, h⟩ := cz_b2_t h
                    refine cz_runS (rest := []) (As := [.ref a0]) X hM hl.1 (c_L_isCalm (l := l) (g := g) (b := b) ka0 hq) mv_L_isCalm ml_L_89 ⟨Nat.le_trans (Nat.le_of_ble_eq_true rfl) hRf, Nat.le_trans (Nat.le_of_ble_eq_true rfl) hRl⟩ rfl rfl (Nat.le_of_ble_eq_true rfl) dL_tries_243 (fun H locs hM => ?_)
                    refine lv_if_ne (tgt := 267) hx hb dL_tries_246 (by decide) (fun c133 => ?_) (fun c133 => ?_)
                    · have h := cz_ite_f c133 h
                      refine lv_iconst (v := nI 0) hx hb dL_tries_267 (by decide) ?_
                      cases h
                    · have h := cz_ite_t c133 h
                      refine lv_aload_n hx hb dL_tries_249 rfl (lv_at hl 8 rfl) ?_
                      obtain ⟨v135, M134, hq, h⟩ := cz_b2_t h
                      refine cz_runV (rest := []) (As := []) (T := TX4) (N0 := 8) X hM hl.1 (c_X4_undo (l := l) (g := g) (b := b) ka0 hq) mv_X4_undo rfl (by decide) ka0 ml_L_83 ⟨Nat.le_trans (Nat.le_of_ble_eq_true rfl) hRf, Nat.le_trans (Nat.le_of_ble_eq_true rfl) hRl⟩ rfl rfl (Nat.le_of_ble_eq_true rfl) dL_tries_250 (fun H locs hM => ?_)
                      refine lv_if_lt (tgt := 267) hx hb dL_tries_253 (by decide) (fun c136 => ?_) (fun c136 => ?_)
                      · have h := cz_ite_t c136 h
                        refine lv_iconst (v := nI 0) hx hb dL_tries_267 (by decide) ?_
                        cases h
                      · have h := cz_ite_f c136 h
                        refine lv_aload_n hx hb dL_tries_256 rfl (lv_at hl 8 rfl) ?_
                        obtain ⟨v138, M137, hq, h⟩ := cz_b2_t h
                        refine cz_runV (rest := []) (As := []) (T := TX4) (N0 := 8) X hM hl.1 (c_X4_undo (l := l) (g := g) (b := b) ka0 hq) mv_X4_undo rfl (by decide) ka0 ml_L_83 ⟨Nat.le_trans (Nat.le_of_ble_eq_true rfl) hRf, Nat.le_trans (Nat.le_of_ble_eq_true rfl) hRl⟩ rfl rfl (Nat.le_of_ble_eq_true rfl) dL_tries_257 (fun H locs hM => ?_)
                        refine lv_if_lt (tgt := 267) hx hb dL_tries_260 (by decide) (fun c139 => ?_) (fun c139 => ?_)
                        · have h := cz_ite_t c139 h
                          refine lv_iconst (v := nI 0) hx hb dL_tries_267 (by decide) ?_
                          cases h
                        · have h := cz_ite_f c139 h
                          refine lv_iconst (v := nI 1) hx hb dL_tries_263 (by decide) ?_
                          refine lv_goto (tgt := 268) hx hb dL_tries_264 (by decide) ?_
                          refine lv_istore (lv' := [(5, .int (nI 1)), (9, .int v109), (8, .int v107), (7, .int v8), (6, .int v6), (4, .int v2), (3, .int v4), (2, .int v2), (0, .ref a0), (1, .int x1)]) hx hb dL_tries_268 hl (by decide) rfl (fun ls hl => ?_)
                          refine lv_iload hx hb dL_tries_270 (lv_at hl 0 rfl) ?_
                          refine lv_if_eq (tgt := 299) hx hb dL_tries_272 (by decide) (fun c140 => absurd c140 (by decide)) (fun _ => ?_)
                          refine lv_aload_n hx hb dL_tries_275 rfl (lv_at hl 8 rfl) ?_
                          refine lv_iconst (v := nI 4) hx hb dL_tries_276 (by decide) ?_
                          refine lv_iconst (v := nI 0) hx hb dL_tries_277 (by decide) ?_
                          obtain ⟨v142, M141, hq, h⟩ := cz_b2_t h
                          refine cz_runV (rest := []) (As := [.int (nI 4), .int (nI 0)]) (T := TX4) (N0 := 8) X hM hl.1 (c_X4_ifPassed (l := l) (g := g) (b := b) ka0 hq) mv_X4_ifPassed rfl (by decide) ka0 ml_L_52 ⟨Nat.le_trans (Nat.le_of_ble_eq_true rfl) hRf, Nat.le_trans (Nat.le_of_ble_eq_true rfl) hRl⟩ rfl rfl (Nat.le_of_ble_eq_true rfl) dL_tries_278 (fun H locs hM => ?_)
                          refine lv_iload_n hx hb dL_tries_281 rfl (lv_at hl 7 rfl) ?_
                          refine lv_icmp_ne (tgt := 299) hx hb dL_tries_282 (by decide) (fun c143 => ?_) (fun c143 => ?_)
                          · have h := cz_ite_f c143 h
                            refine lv_iconst (v := nI 0) hx hb dL_tries_299 (by decide) ?_
                            cases h
                          · have h := cz_ite_t c143 h
                            refine lv_aload_n hx hb dL_tries_285 rfl (lv_at hl 8 rfl) ?_
                            refine lv_iconst (v := nI 1) hx hb dL_tries_286 (by decide) ?_
                            obtain ⟨v145, M144, hq, h⟩ := cz_b2_t h
                            refine cz_runV (rest := []) (As := [.int (nI 1)]) (T := TX4) (N0 := 8) X hM hl.1 (c_X4_count (l := l) (g := g) (b := b) ka0 hq) mv_X4_count rfl (by decide) ka0 ml_L_9 ⟨Nat.le_trans (Nat.le_of_ble_eq_true rfl) hRf, Nat.le_trans (Nat.le_of_ble_eq_true rfl) hRl⟩ rfl rfl (Nat.le_of_ble_eq_true rfl) dL_tries_287 (fun H locs hM => ?_)
                            refine lv_iload hx hb dL_tries_290 (lv_at hl 2 rfl) ?_
                            refine lv_icmp_ne (tgt := 299) hx hb dL_tries_292 (by decide) (fun c146 => ?_) (fun c146 => ?_)
                            · have h := cz_ite_f c146 h
                              refine lv_iconst (v := nI 0) hx hb dL_tries_299 (by decide) ?_
                              cases h
                            · have h := cz_ite_t c146 h
                              refine lv_iconst (v := nI 1) hx hb dL_tries_295 (by decide) ?_
                              refine lv_goto (tgt := 300) hx hb dL_tries_296 (by decide) ?_
                              exact cz_reti X hM h rfl dL_tries_300
  · have h := cz_ite_f c5 h
    refine lv_iload_n hx hb dL_tries_24 rfl (lv_at hl 2 rfl) ?_
    refine lv_bipush (v := nI 8) hx hb dL_tries_25 (by decide) ?_
    refine lv_idiv hx hb dL_tries_27 (by decide) ?_
    refine lv_iload_n hx hb dL_tries_28 rfl (lv_at hl 2 rfl) ?_
    refine lv_bipush (v := nI 8) hx hb dL_tries_29 (by decide) ?_
    refine lv_irem hx hb dL_tries_31 (by decide) ?_
    refine lv_icmp_ge (tgt := 54) hx hb dL_tries_32 (by decide) (fun c147 => ?_) (fun c147 => ?_)
    · have h := cz_ite_t c147 h
      refine lv_iconst (v := nI 0) hx hb dL_tries_54 (by decide) ?_
      cases h
    · have h := cz_ite_f c147 h
      refine lv_aload_n hx hb dL_tries_35 rfl (lv_at hl 4 rfl) ?_
      refine lv_iload_n hx hb dL_tries_36 rfl (lv_at hl 2 rfl) ?_
      refine lv_bipush (v := nI 8) hx hb dL_tries_37 (by decide) ?_
      refine lv_idiv hx hb dL_tries_39 (by decide) ?_
      refine lv_iload_n hx hb dL_tries_40 rfl (lv_at hl 2 rfl) ?_
      refine lv_bipush (v := nI 8) hx hb dL_tries_41 (by decide) ?_
      refine lv_irem hx hb dL_tries_43 (by decide) ?_
      obtain ⟨v149, M148, hq, h⟩ := cz_b2_t h
      refine cz_runV (rest := []) (As := [.int (v4 / (nI 8)), .int (v4 - v4 / (nI 8) * (nI 8))]) (T := TX4) (N0 := 8) X hM hl.1 (c_X4_trade (l := l) (g := g) (b := b) ka0 hq) mv_X4_trade rfl (by decide) ka0 ml_L_39 ⟨Nat.le_trans (Nat.le_of_ble_eq_true rfl) hRf, Nat.le_trans (Nat.le_of_ble_eq_true rfl) hRl⟩ rfl rfl (Nat.le_of_ble_eq_true rfl) dL_tries_44 (fun H locs hM => ?_)
      refine lv_if_lt (tgt := 54) hx hb dL_tries_47 (by decide) (fun c150 => ?_) (fun c150 => ?_)
      · have h := cz_ite_t c150 h
        refine lv_iconst (v := nI 0) hx hb dL_tries_54 (by decide) ?_
        cases h
      · have h := cz_ite_f c150 h
        refine lv_iconst (v := nI 1) hx hb dL_tries_50 (by decide) ?_
        refine lv_goto (tgt := 55) hx hb dL_tries_51 (by decide) ?_
        refine lv_istore (lv' := [(5, .int (nI 1)), (4, .int v2), (3, .int v4), (2, .int v2), (0, .ref a0), (1, .int x1)]) hx hb dL_tries_55 hl (by decide) rfl (fun ls hl => ?_)
        refine lv_aload_n hx hb dL_tries_57 rfl (lv_at hl 4 rfl) ?_
        refine lv_iconst (v := nI 4) hx hb dL_tries_58 (by decide) ?_
        refine lv_iconst (v := nI 0) hx hb dL_tries_59 (by decide) ?_
        obtain ⟨v152, M151, hq, h⟩ := cz_b2_t h
        refine cz_runV (rest := []) (As := [.int (nI 4), .int (nI 0)]) (T := TX4) (N0 := 8) X hM hl.1 (c_X4_ifPassed (l := l) (g := g) (b := b) ka0 hq) mv_X4_ifPassed rfl (by decide) ka0 ml_L_52 ⟨Nat.le_trans (Nat.le_of_ble_eq_true rfl) hRf, Nat.le_trans (Nat.le_of_ble_eq_true rfl) hRl⟩ rfl rfl (Nat.le_of_ble_eq_true rfl) dL_tries_60 (fun H locs hM => ?_)
        refine lv_istore (lv' := [(4, .int v152), (5, .int (nI 1)), (3, .int v4), (2, .int v2), (0, .ref a0), (1, .int x1)]) hx hb dL_tries_63 hl (by decide) rfl (fun ls hl => ?_)
        refine lv_iload hx hb dL_tries_65 (lv_at hl 1 rfl) ?_
        refine lv_if_eq (tgt := 87) hx hb dL_tries_67 (by decide) (fun c153 => absurd c153 (by decide)) (fun _ => ?_)
        refine lv_iload hx hb dL_tries_70 (lv_at hl 0 rfl) ?_
        refine lv_iload_n hx hb dL_tries_72 rfl (lv_at hl 3 rfl) ?_
        refine lv_icmp_le (tgt := 87) hx hb dL_tries_73 (by decide) (fun c154 => ?_) (fun c154 => ?_)
        · have h := cz_ite_t c154 h
          refine lv_iconst (v := nI 0) hx hb dL_tries_87 (by decide) ?_
          cases h
        · have h := cz_ite_f c154 h
          refine lv_aload_n hx hb dL_tries_76 rfl (lv_at hl 4 rfl) ?_
          obtain ⟨v156, M155, hq, h⟩ := cz_b2_t h
          refine cz_runV (rest := []) (As := []) (T := TX4) (N0 := 8) X hM hl.1 (c_X4_undo (l := l) (g := g) (b := b) ka0 hq) mv_X4_undo rfl (by decide) ka0 ml_L_83 ⟨Nat.le_trans (Nat.le_of_ble_eq_true rfl) hRf, Nat.le_trans (Nat.le_of_ble_eq_true rfl) hRl⟩ rfl rfl (Nat.le_of_ble_eq_true rfl) dL_tries_77 (fun H locs hM => ?_)
          refine lv_if_lt (tgt := 87) hx hb dL_tries_80 (by decide) (fun c157 => ?_) (fun c157 => ?_)
          · have h := cz_ite_t c157 h
            refine lv_iconst (v := nI 0) hx hb dL_tries_87 (by decide) ?_
            cases h
          · have h := cz_ite_f c157 h
            refine lv_iconst (v := nI 1) hx hb dL_tries_83 (by decide) ?_
            refine lv_goto (tgt := 88) hx hb dL_tries_84 (by decide) ?_
            refine lv_istore (lv' := [(5, .int (nI 1)), (4, .int v152), (3, .int v4), (2, .int v2), (0, .ref a0), (1, .int x1)]) hx hb dL_tries_88 hl (by decide) rfl (fun ls hl => ?_)
            refine lv_iload_n hx hb dL_tries_90 rfl (lv_at hl 5 rfl) ?_
            refine lv_bipush (v := nI 7) hx hb dL_tries_91 (by decide) ?_
            obtain ⟨v158, hq, h⟩ := cz_bd_t h
            refine cz_runS (rest := []) (As := [.int x1, .int (nI 7)]) X hM hl.1 (c_L_low (l := l) (g := g) (b := b)  hq) mv_L_low ml_L_15 ⟨Nat.le_trans (Nat.le_of_ble_eq_true rfl) hRf, Nat.le_trans (Nat.le_of_ble_eq_true rfl) hRl⟩ rfl rfl (Nat.le_of_ble_eq_true rfl) dL_tries_93 (fun H locs hM => ?_)
            refine lv_istore (lv' := [(6, .int v158), (5, .int (nI 1)), (4, .int v152), (3, .int v4), (2, .int v2), (0, .ref a0), (1, .int x1)]) hx hb dL_tries_96 hl (by decide) rfl (fun ls hl => ?_)
            refine lv_iload hx hb dL_tries_98 (lv_at hl 0 rfl) ?_
            refine lv_iconst (v := nI 1) hx hb dL_tries_100 (by decide) ?_
            refine lv_iadd hx hb dL_tries_101 ?_
            refine lv_iload_n hx hb dL_tries_102 rfl (lv_at hl 6 rfl) ?_
            refine lv_iconst (v := nI 3) hx hb dL_tries_103 (by decide) ?_
            refine lv_ishr hx hb dL_tries_104 ?_
            refine lv_bipush (v := nI 7) hx hb dL_tries_105 (by decide) ?_
            refine lv_iload hx hb dL_tries_107 (lv_at hl 0 rfl) ?_
            refine lv_isub hx hb dL_tries_109 ?_
            obtain ⟨v159, hq, h⟩ := cz_bd_t h
            refine cz_runS (rest := [.int (v158 + (nI 1))]) (As := [.int (x1 >>> ((nI 3) &&& nI 31)), .int ((nI 7) - v158)]) X hM hl.1 (c_L_low (l := l) (g := g) (b := b)  hq) mv_L_low ml_L_15 ⟨Nat.le_trans (Nat.le_of_ble_eq_true rfl) hRf, Nat.le_trans (Nat.le_of_ble_eq_true rfl) hRl⟩ rfl rfl (Nat.le_of_ble_eq_true rfl) dL_tries_110 (fun H locs hM => ?_)
            refine lv_iadd hx hb dL_tries_113 ?_
            refine cz_nmi h (fun v160 h => ?_)
            refine lv_istore (lv' := [(7, .int v160), (6, .int v158), (5, .int (nI 1)), (4, .int v152), (3, .int v4), (2, .int v2), (0, .ref a0), (1, .int x1)]) hx hb dL_tries_114 hl (by decide) rfl (fun ls hl => ?_)
            refine lv_iload hx hb dL_tries_116 (lv_at hl 2 rfl) ?_
            refine lv_if_eq (tgt := 186) hx hb dL_tries_118 (by decide) (fun c161 => absurd c161 (by decide)) (fun _ => ?_)
            refine lv_aload_n hx hb dL_tries_121 rfl (lv_at hl 6 rfl) ?_
            refine lv_iload hx hb dL_tries_122 (lv_at hl 1 rfl) ?_
            refine lv_iload hx hb dL_tries_124 (lv_at hl 0 rfl) ?_
            obtain ⟨v163, M162, hq, h⟩ := cz_b2_t h
            refine cz_runV (rest := []) (As := [.int v158, .int v160]) (T := TX4) (N0 := 8) X hM hl.1 (c_X4_trade (l := l) (g := g) (b := b) ka0 hq) mv_X4_trade rfl (by decide) ka0 ml_L_39 ⟨Nat.le_trans (Nat.le_of_ble_eq_true rfl) hRf, Nat.le_trans (Nat.le_of_ble_eq_true rfl) hRl⟩ rfl rfl (Nat.le_of_ble_eq_true rfl) dL_tries_126 (fun H locs hM => ?_)
            refine lv_if_lt (tgt := 186) hx hb dL_tries_129 (by decide) (fun c164 => ?_) (fun c164 => ?_)
            · have h := cz_ite_t c164 h
              refine lv_aload_n hx hb dL_tries_186 rfl (lv_at hl 6 rfl) ?_
              refine lv_iconst (v := nI 1) hx hb dL_tries_187 (by decide) ?_
              obtain ⟨v166, M165, hq, h⟩ := cz_b2_t h
              refine cz_runV (rest := []) (As := [.int (nI 1)]) (T := TX4) (N0 := 8) X hM hl.1 (c_X4_count (l := l) (g := g) (b := b) ka0 hq) mv_X4_count rfl (by decide) ka0 ml_L_9 ⟨Nat.le_trans (Nat.le_of_ble_eq_true rfl) hRf, Nat.le_trans (Nat.le_of_ble_eq_true rfl) hRl⟩ rfl rfl (Nat.le_of_ble_eq_true rfl) dL_tries_188 (fun H locs hM => ?_)
              refine lv_istore (lv' := [(8, .int v166), (7, .int v160), (6, .int v158), (5, .int (nI 1)), (4, .int v152), (3, .int v4), (2, .int v2), (0, .ref a0), (1, .int x1)]) hx hb dL_tries_191 hl (by decide) rfl (fun ls hl => ?_)
              refine lv_aload_n hx hb dL_tries_193 rfl (lv_at hl 7 rfl) ?_
              obtain ⟨v168, M167, hq, h⟩ := cz_b2_t h
              refine cz_runV (rest := []) (As := []) (T := TX4) (N0 := 8) X hM hl.1 (c_X4_leastLimit (l := l) (g := g) (b := b) ka0 hq) mv_X4_leastLimit rfl (by decide) ka0 ml_L_86 ⟨Nat.le_trans (Nat.le_of_ble_eq_true rfl) hRf, Nat.le_trans (Nat.le_of_ble_eq_true rfl) hRl⟩ rfl rfl (Nat.le_of_ble_eq_true rfl) dL_tries_194 (fun H locs hM => ?_)
              refine lv_istore (lv' := [(9, .int v168), (8, .int v166), (7, .int v160), (6, .int v158), (5, .int (nI 1)), (4, .int v152), (3, .int v4), (2, .int v2), (0, .ref a0), (1, .int x1)]) hx hb dL_tries_197 hl (by decide) rfl (fun ls hl => ?_)
              refine lv_iload hx hb dL_tries_199 (lv_at hl 4 rfl) ?_
              refine lv_if_eq (tgt := 267) hx hb dL_tries_201 (by decide) (fun c169 => absurd c169 (by decide)) (fun _ => ?_)
              refine lv_aload_n hx hb dL_tries_204 rfl (lv_at hl 8 rfl) ?_
              refine lv_iconst (v := nI 1) hx hb dL_tries_205 (by decide) ?_
              refine lv_iload hx hb dL_tries_206 (lv_at hl 0 rfl) ?_
              obtain ⟨v171, M170, hq, h⟩ := cz_b2_t h
              refine cz_runV (rest := []) (As := [.int (nI 1), .int v168]) (T := TX4) (N0 := 8) X hM hl.1 (c_X4_set (l := l) (g := g) (b := b) ka0 hq) mv_X4_set rfl (by decide) ka0 ml_L_42 ⟨Nat.le_trans (Nat.le_of_ble_eq_true rfl) hRf, Nat.le_trans (Nat.le_of_ble_eq_true rfl) hRl⟩ rfl rfl (Nat.le_of_ble_eq_true rfl) dL_tries_208 (fun H locs hM => ?_)
              refine lv_iload hx hb dL_tries_211 (lv_at hl 1 rfl) ?_
              refine lv_icmp_ne (tgt := 267) hx hb dL_tries_213 (by decide) (fun c172 => ?_) (fun c172 => ?_)
              · have h := cz_ite_f c172 h
                refine lv_iconst (v := nI 0) hx hb dL_tries_267 (by decide) ?_
                cases h
              · have h := cz_ite_t c172 h
                refine lv_aload_n hx hb dL_tries_216 rfl (lv_at hl 8 rfl) ?_
                obtain ⟨v174, M173, hq, h⟩ := cz_b2_t h
                refine cz_runS (rest := []) (As := [.ref a0]) X hM hl.1 (c_L_isCalm (l := l) (g := g) (b := b) ka0 hq) mv_L_isCalm ml_L_89 ⟨Nat.le_trans (Nat.le_of_ble_eq_true rfl) hRf, Nat.le_trans (Nat.le_of_ble_eq_true rfl) hRl⟩ rfl rfl (Nat.le_of_ble_eq_true rfl) dL_tries_217 (fun H locs hM => ?_)
                refine lv_if_eq (tgt := 267) hx hb dL_tries_220 (by decide) (fun c175 => ?_) (fun c175 => ?_)
                · have h := cz_ite_t c175 h
                  refine lv_iconst (v := nI 0) hx hb dL_tries_267 (by decide) ?_
                  cases h
                · have h := cz_ite_f c175 h
                  refine lv_iload hx hb dL_tries_223 (lv_at hl 0 rfl) ?_
                  refine lv_if_eq (tgt := 256) hx hb dL_tries_225 (by decide) (fun c176 => ?_) (fun c176 => ?_)
                  · have h := cz_ite_t c176 h
                    refine lv_aload_n hx hb dL_tries_256 rfl (lv_at hl 8 rfl) ?_
                    obtain ⟨v178, M177, hq, h⟩ := cz_b2_t h
                    refine cz_runV (rest := []) (As := []) (T := TX4) (N0 := 8) X hM hl.1 (c_X4_undo (l := l) (g := g) (b := b) ka0 hq) mv_X4_undo rfl (by decide) ka0 ml_L_83 ⟨Nat.le_trans (Nat.le_of_ble_eq_true rfl) hRf, Nat.le_trans (Nat.le_of_ble_eq_true rfl) hRl⟩ rfl rfl (Nat.le_of_ble_eq_true rfl) dL_tries_257 (fun H locs hM => ?_)
                    refine lv_if_lt (tgt := 267) hx hb dL_tries_260 (by decide) (fun c179 => ?_) (fun c179 => ?_)
                    · have h := cz_ite_t c179 h
                      refine lv_iconst (v := nI 0) hx hb dL_tries_267 (by decide) ?_
                      cases h
                    · have h := cz_ite_f c179 h
                      refine lv_iconst (v := nI 1) hx hb dL_tries_263 (by decide) ?_
                      refine lv_goto (tgt := 268) hx hb dL_tries_264 (by decide) ?_
                      refine lv_istore (lv' := [(5, .int (nI 1)), (9, .int v168), (8, .int v166), (7, .int v160), (6, .int v158), (4, .int v152), (3, .int v4), (2, .int v2), (0, .ref a0), (1, .int x1)]) hx hb dL_tries_268 hl (by decide) rfl (fun ls hl => ?_)
                      refine lv_iload hx hb dL_tries_270 (lv_at hl 0 rfl) ?_
                      refine lv_if_eq (tgt := 299) hx hb dL_tries_272 (by decide) (fun c180 => absurd c180 (by decide)) (fun _ => ?_)
                      refine lv_aload_n hx hb dL_tries_275 rfl (lv_at hl 8 rfl) ?_
                      refine lv_iconst (v := nI 4) hx hb dL_tries_276 (by decide) ?_
                      refine lv_iconst (v := nI 0) hx hb dL_tries_277 (by decide) ?_
                      obtain ⟨v182, M181, hq, h⟩ := cz_b2_t h
                      refine cz_runV (rest := []) (As := [.int (nI 4), .int (nI 0)]) (T := TX4) (N0 := 8) X hM hl.1 (c_X4_ifPassed (l := l) (g := g) (b := b) ka0 hq) mv_X4_ifPassed rfl (by decide) ka0 ml_L_52 ⟨Nat.le_trans (Nat.le_of_ble_eq_true rfl) hRf, Nat.le_trans (Nat.le_of_ble_eq_true rfl) hRl⟩ rfl rfl (Nat.le_of_ble_eq_true rfl) dL_tries_278 (fun H locs hM => ?_)
                      refine lv_iload_n hx hb dL_tries_281 rfl (lv_at hl 7 rfl) ?_
                      refine lv_icmp_ne (tgt := 299) hx hb dL_tries_282 (by decide) (fun c183 => ?_) (fun c183 => ?_)
                      · have h := cz_ite_f c183 h
                        refine lv_iconst (v := nI 0) hx hb dL_tries_299 (by decide) ?_
                        cases h
                      · have h := cz_ite_t c183 h
                        refine lv_aload_n hx hb dL_tries_285 rfl (lv_at hl 8 rfl) ?_
                        refine lv_iconst (v := nI 1) hx hb dL_tries_286 (by decide) ?_
                        obtain ⟨v185, M184, hq, h⟩ := cz_b2_t h
                        refine cz_runV (rest := []) (As := [.int (nI 1)]) (T := TX4) (N0 := 8) X hM hl.1 (c_X4_count (l := l) (g := g) (b := b) ka0 hq) mv_X4_count rfl (by decide) ka0 ml_L_9 ⟨Nat.le_trans (Nat.le_of_ble_eq_true rfl) hRf, Nat.le_trans (Nat.le_of_ble_eq_true rfl) hRl⟩ rfl rfl (Nat.le_of_ble_eq_true rfl) dL_tries_287 (fun H locs hM => ?_)
                        refine lv_iload hx hb dL_tries_290 (lv_at hl 2 rfl) ?_
                        refine lv_icmp_ne (tgt := 299) hx hb dL_tries_292 (by decide) (fun c186 => ?_) (fun c186 => ?_)
                        · have h := cz_ite_f c186 h
                          refine lv_iconst (v := nI 0) hx hb dL_tries_299 (by decide) ?_
                          cases h
                        · have h := cz_ite_t c186 h
                          refine lv_iconst (v := nI 1) hx hb dL_tries_295 (by decide) ?_
                          refine lv_goto (tgt := 300) hx hb dL_tries_296 (by decide) ?_
                          exact cz_reti X hM h rfl dL_tries_300
                  · have h := cz_ite_f c176 h
                    refine lv_aload_n hx hb dL_tries_228 rfl (lv_at hl 8 rfl) ?_
                    refine lv_iconst (v := nI 1) hx hb dL_tries_229 (by decide) ?_
                    refine lv_iload hx hb dL_tries_230 (lv_at hl 0 rfl) ?_
                    refine lv_iconst (v := nI 1) hx hb dL_tries_232 (by decide) ?_
                    refine lv_isub hx hb dL_tries_233 ?_
                    obtain ⟨v188, M187, hq, h⟩ := cz_b2_t h
                    refine cz_runV (rest := []) (As := [.int (nI 1), .int (v168 - (nI 1))]) (T := TX4) (N0 := 8) X hM hl.1 (c_X4_set (l := l) (g := g) (b := b) ka0 hq) mv_X4_set rfl (by decide) ka0 ml_L_42 ⟨Nat.le_trans (Nat.le_of_ble_eq_true rfl) hRf, Nat.le_trans (Nat.le_of_ble_eq_true rfl) hRl⟩ rfl rfl (Nat.le_of_ble_eq_true rfl) dL_tries_234 (fun H locs hM => ?_)
                    refine lv_iload hx hb dL_tries_237 (lv_at hl 0 rfl) ?_
                    refine lv_icmp_ne (tgt := 267) hx hb dL_tries_239 (by decide) (fun c189 => ?_) (fun c189 => ?_)
                    · have h := cz_ite_f c189 h
                      refine lv_iconst (v := nI 0) hx hb dL_tries_267 (by decide) ?_
                      cases h
                    · have h := cz_ite_t c189 h
                      refine lv_aload_n hx hb dL_tries_242 rfl (lv_at hl 8 rfl) ?_
                      obtain ⟨v191, M190, hq, h⟩ := cz_b2_t h
                      refine cz_runS (rest := []) (As := [.ref a0]) X hM hl.1 (c_L_isCalm (l := l) (g := g) (b := b) ka0 hq) mv_L_isCalm ml_L_89 ⟨Nat.le_trans (Nat.le_of_ble_eq_true rfl) hRf, Nat.le_trans (Nat.le_of_ble_eq_true rfl) hRl⟩ rfl rfl (Nat.le_of_ble_eq_true rfl) dL_tries_243 (fun H locs hM => ?_)
                      refine lv_if_ne (tgt := 267) hx hb dL_tries_246 (by decide) (fun c192 => ?_) (fun c192 => ?_)
                      · have h := cz_ite_f c192 h
                        refine lv_iconst (v := nI 0) hx hb dL_tries_267 (by decide) ?_
                        cases h
                      · have h := cz_ite_t c192 h
                        refine lv_aload_n hx hb dL_tries_249 rfl (lv_at hl 8 rfl) ?_
                        obtain ⟨v194, M193, hq, h⟩ := cz_b2_t h
                        refine cz_runV (rest := []) (As := []) (T := TX4) (N0 := 8) X hM hl.1 (c_X4_undo (l := l) (g := g) (b := b) ka0 hq) mv_X4_undo rfl (by decide) ka0 ml_L_83 ⟨Nat.le_trans (Nat.le_of_ble_eq_true rfl) hRf, Nat.le_trans (Nat.le_of_ble_eq_true rfl) hRl⟩ rfl rfl (Nat.le_of_ble_eq_true rfl) dL_tries_250 (fun H locs hM => ?_)
                        refine lv_if_lt (tgt := 267) hx hb dL_tries_253 (by decide) (fun c195 => ?_) (fun c195 => ?_)
                        · have h := cz_ite_t c195 h
                          refine lv_iconst (v := nI 0) hx hb dL_tries_267 (by decide) ?_
                          cases h
                        · have h := cz_ite_f c195 h
                          refine lv_aload_n hx hb dL_tries_256 rfl (lv_at hl 8 rfl) ?_
                          obtain ⟨v197, M196, hq, h⟩ := cz_b2_t h
                          refine cz_runV (rest := []) (As := []) (T := TX4) (N0 := 8) X hM hl.1 (c_X4_undo (l := l) (g := g) (b := b) ka0 hq) mv_X4_undo rfl (by decide) ka0 ml_L_83 ⟨Nat.le_trans (Nat.le_of_ble_eq_true rfl) hRf, Nat.le_trans (Nat.le_of_ble_eq_true rfl) hRl⟩ rfl rfl (Nat.le_of_ble_eq_true rfl) dL_tries_257 (fun H locs hM => ?_)
                          refine lv_if_lt (tgt := 267) hx hb dL_tries_260 (by decide) (fun c198 => ?_) (fun c198 => ?_)
                          · have h := cz_ite_t c198 h
                            refine lv_iconst (v := nI 0) hx hb dL_tries_267 (by decide) ?_
                            cases h
                          · have h := cz_ite_f c198 h
                            refine lv_iconst (v := nI 1) hx hb dL_tries_263 (by decide) ?_
                            refine lv_goto (tgt := 268) hx hb dL_tries_264 (by decide) ?_
                            refine lv_istore (lv' := [(5, .int (nI 1)), (9, .int v168), (8, .int v166), (7, .int v160), (6, .int v158), (4, .int v152), (3, .int v4), (2, .int v2), (0, .ref a0), (1, .int x1)]) hx hb dL_tries_268 hl (by decide) rfl (fun ls hl => ?_)
                            refine lv_iload hx hb dL_tries_270 (lv_at hl 0 rfl) ?_
                            refine lv_if_eq (tgt := 299) hx hb dL_tries_272 (by decide) (fun c199 => absurd c199 (by decide)) (fun _ => ?_)
                            refine lv_aload_n hx hb dL_tries_275 rfl (lv_at hl 8 rfl) ?_
                            refine lv_iconst (v := nI 4) hx hb dL_tries_276 (by decide) ?_
                            refine lv_iconst (v := nI 0) hx hb dL_tries_277 (by decide) ?_
                            obtain ⟨v201, M200, hq, h⟩ := cz_b2_t h
                            refine cz_runV (rest := []) (As := [.int (nI 4), .int (nI 0)]) (T := TX4) (N0 := 8) X hM hl.1 (c_X4_ifPassed (l := l) (g := g) (b := b) ka0 hq) mv_X4_ifPassed rfl (by decide) ka0 ml_L_52 ⟨Nat.le_trans (Nat.le_of_ble_eq_true rfl) hRf, Nat.le_trans (Nat.le_of_ble_eq_true rfl) hRl⟩ rfl rfl (Nat.le_of_ble_eq_true rfl) dL_tries_278 (fun H locs hM => ?_)
                            refine lv_iload_n hx hb dL_tries_281 rfl (lv_at hl 7 rfl) ?_
                            refine lv_icmp_ne (tgt := 299) hx hb dL_tries_282 (by decide) (fun c202 => ?_) (fun c202 => ?_)
                            · have h := cz_ite_f c202 h
                              refine lv_iconst (v := nI 0) hx hb dL_tries_299 (by decide) ?_
                              cases h
                            · have h := cz_ite_t c202 h
                              refine lv_aload_n hx hb dL_tries_285 rfl (lv_at hl 8 rfl) ?_
                              refine lv_iconst (v := nI 1) hx hb dL_tries_286 (by decide) ?_
                              obtain ⟨v204, M203, hq, h⟩ := cz_b2_t h
                              refine cz_runV (rest := []) (As := [.int (nI 1)]) (T := TX4) (N0 := 8) X hM hl.1 (c_X4_count (l := l) (g := g) (b := b) ka0 hq) mv_X4_count rfl (by decide) ka0 ml_L_9 ⟨Nat.le_trans (Nat.le_of_ble_eq_true rfl) hRf, Nat.le_trans (Nat.le_of_ble_eq_true rfl) hRl⟩ rfl rfl (Nat.le_of_ble_eq_true rfl) dL_tries_287 (fun H locs hM => ?_)
                              refine lv_iload hx hb dL_tries_290 (lv_at hl 2 rfl) ?_
                              refine lv_icmp_ne (tgt := 299) hx hb dL_tries_292 (by decide) (fun c205 => ?_) (fun c205 => ?_)
                              · have h := cz_ite_f c205 h
                                refine lv_iconst (v := nI 0) hx hb dL_tries_299 (by decide) ?_
                                cases h
                              · have h := cz_ite_t c205 h
                                refine lv_iconst (v := nI 1) hx hb dL_tries_295 (by decide) ?_
                                refine lv_goto (tgt := 300) hx hb dL_tries_296 (by decide) ?_
                                exact cz_reti X hM h rfl dL_tries_300
            · have h := cz_ite_f c164 h
              refine lv_aload_n hx hb dL_tries_132 rfl (lv_at hl 6 rfl) ?_
              refine lv_iconst (v := nI 4) hx hb dL_tries_133 (by decide) ?_
              refine lv_iconst (v := nI 0) hx hb dL_tries_134 (by decide) ?_
              obtain ⟨v207, M206, hq, h⟩ := cz_b2_t h
              refine cz_runV (rest := []) (As := [.int (nI 4), .int (nI 0)]) (T := TX4) (N0 := 8) X hM hl.1 (c_X4_ifPassed (l := l) (g := g) (b := b) ka0 hq) mv_X4_ifPassed rfl (by decide) ka0 ml_L_52 ⟨Nat.le_trans (Nat.le_of_ble_eq_true rfl) hRf, Nat.le_trans (Nat.le_of_ble_eq_true rfl) hRl⟩ rfl rfl (Nat.le_of_ble_eq_true rfl) dL_tries_135 (fun H locs hM => ?_)
              refine lv_istore (lv' := [(8, .int v207), (7, .int v160), (6, .int v158), (5, .int (nI 1)), (4, .int v152), (3, .int v4), (2, .int v2), (0, .ref a0), (1, .int x1)]) hx hb dL_tries_138 hl (by decide) rfl (fun ls hl => ?_)
              refine lv_iload hx hb dL_tries_140 (lv_at hl 0 rfl) ?_
              refine lv_iload hx hb dL_tries_142 (lv_at hl 4 rfl) ?_
              refine lv_icmp_lt (tgt := 172) hx hb dL_tries_144 (by decide) (fun c208 => ?_) (fun c208 => ?_)
              · have h := cz_ite_t c208 h
                refine lv_aload_n hx hb dL_tries_172 rfl (lv_at hl 7 rfl) ?_
                obtain ⟨v210, M209, hq, h⟩ := cz_b2_t h
                refine cz_runV (rest := []) (As := []) (T := TX4) (N0 := 8) X hM hl.1 (c_X4_undo (l := l) (g := g) (b := b) ka0 hq) mv_X4_undo rfl (by decide) ka0 ml_L_83 ⟨Nat.le_trans (Nat.le_of_ble_eq_true rfl) hRf, Nat.le_trans (Nat.le_of_ble_eq_true rfl) hRl⟩ rfl rfl (Nat.le_of_ble_eq_true rfl) dL_tries_173 (fun H locs hM => ?_)
                refine lv_if_lt (tgt := 183) hx hb dL_tries_176 (by decide) (fun c211 => ?_) (fun c211 => ?_)
                · have h := cz_ite_t c211 h
                  refine lv_iconst (v := nI 0) hx hb dL_tries_183 (by decide) ?_
                  cases h
                · have h := cz_ite_f c211 h
                  refine lv_iconst (v := nI 1) hx hb dL_tries_179 (by decide) ?_
                  refine lv_goto (tgt := 184) hx hb dL_tries_180 (by decide) ?_
                  refine lv_istore (lv' := [(5, .int (nI 1)), (8, .int v207), (7, .int v160), (6, .int v158), (4, .int v152), (3, .int v4), (2, .int v2), (0, .ref a0), (1, .int x1)]) hx hb dL_tries_184 hl (by decide) rfl (fun ls hl => ?_)
                  refine lv_aload_n hx hb dL_tries_186 rfl (lv_at hl 7 rfl) ?_
                  refine lv_iconst (v := nI 1) hx hb dL_tries_187 (by decide) ?_
                  obtain ⟨v213, M212, hq, h⟩ := cz_b2_t h
                  refine cz_runV (rest := []) (As := [.int (nI 1)]) (T := TX4) (N0 := 8) X hM hl.1 (c_X4_count (l := l) (g := g) (b := b) ka0 hq) mv_X4_count rfl (by decide) ka0 ml_L_9 ⟨Nat.le_trans (Nat.le_of_ble_eq_true rfl) hRf, Nat.le_trans (Nat.le_of_ble_eq_true rfl) hRl⟩ rfl rfl (Nat.le_of_ble_eq_true rfl) dL_tries_188 (fun H locs hM => ?_)
                  refine lv_istore (lv' := [(8, .int v213), (5, .int (nI 1)), (7, .int v160), (6, .int v158), (4, .int v152), (3, .int v4), (2, .int v2), (0, .ref a0), (1, .int x1)]) hx hb dL_tries_191 hl (by decide) rfl (fun ls hl => ?_)
                  refine lv_aload_n hx hb dL_tries_193 rfl (lv_at hl 7 rfl) ?_
                  obtain ⟨v215, M214, hq, h⟩ := cz_b2_t h
                  refine cz_runV (rest := []) (As := []) (T := TX4) (N0 := 8) X hM hl.1 (c_X4_leastLimit (l := l) (g := g) (b := b) ka0 hq) mv_X4_leastLimit rfl (by decide) ka0 ml_L_86 ⟨Nat.le_trans (Nat.le_of_ble_eq_true rfl) hRf, Nat.le_trans (Nat.le_of_ble_eq_true rfl) hRl⟩ rfl rfl (Nat.le_of_ble_eq_true rfl) dL_tries_194 (fun H locs hM => ?_)
                  refine lv_istore (lv' := [(9, .int v215), (8, .int v213), (5, .int (nI 1)), (7, .int v160), (6, .int v158), (4, .int v152), (3, .int v4), (2, .int v2), (0, .ref a0), (1, .int x1)]) hx hb dL_tries_197 hl (by decide) rfl (fun ls hl => ?_)
                  refine lv_iload hx hb dL_tries_199 (lv_at hl 2 rfl) ?_
                  refine lv_if_eq (tgt := 267) hx hb dL_tries_201 (by decide) (fun c216 => absurd c216 (by decide)) (fun _ => ?_)
                  refine lv_aload_n hx hb dL_tries_204 rfl (lv_at hl 8 rfl) ?_
                  refine lv_iconst (v := nI 1) hx hb dL_tries_205 (by decide) ?_
                  refine lv_iload hx hb dL_tries_206 (lv_at hl 0 rfl) ?_
                  obtain ⟨v218, M217, hq, h⟩ := cz_b2_t h
                  refine cz_runV (rest := []) (As := [.int (nI 1), .int v215]) (T := TX4) (N0 := 8) X hM hl.1 (c_X4_set (l := l) (g := g) (b := b) ka0 hq) mv_X4_set rfl (by decide) ka0 ml_L_42 ⟨Nat.le_trans (Nat.le_of_ble_eq_true rfl) hRf, Nat.le_trans (Nat.le_of_ble_eq_true rfl) hRl⟩ rfl rfl (Nat.le_of_ble_eq_true rfl) dL_tries_208 (fun H locs hM => ?_)
                  refine lv_iload hx hb dL_tries_211 (lv_at hl 1 rfl) ?_
                  refine lv_icmp_ne (tgt := 267) hx hb dL_tries_213 (by decide) (fun c219 => ?_) (fun c219 => ?_)
                  · have h := cz_ite_f c219 h
                    refine lv_iconst (v := nI 0) hx hb dL_tries_267 (by decide) ?_
                    cases h
                  · have h := cz_ite_t c219 h
                    refine lv_aload_n hx hb dL_tries_216 rfl (lv_at hl 8 rfl) ?_
                    obtain ⟨v221, M220, hq, h⟩ := cz_b2_t h
                    refine cz_runS (rest := []) (As := [.ref a0]) X hM hl.1 (c_L_isCalm (l := l) (g := g) (b := b) ka0 hq) mv_L_isCalm ml_L_89 ⟨Nat.le_trans (Nat.le_of_ble_eq_true rfl) hRf, Nat.le_trans (Nat.le_of_ble_eq_true rfl) hRl⟩ rfl rfl (Nat.le_of_ble_eq_true rfl) dL_tries_217 (fun H locs hM => ?_)
                    refine lv_if_eq (tgt := 267) hx hb dL_tries_220 (by decide) (fun c222 => ?_) (fun c222 => ?_)
                    · have h := cz_ite_t c222 h
                      refine lv_iconst (v := nI 0) hx hb dL_tries_267 (by decide) ?_
                      cases h
                    · have h := cz_ite_f c222 h
                      refine lv_iload hx hb dL_tries_223 (lv_at hl 0 rfl) ?_
                      refine lv_if_eq (tgt := 256) hx hb dL_tries_225 (by decide) (fun c223 => ?_) (fun c223 => ?_)
                      · have h := cz_ite_t c223 h
                        refine lv_aload_n hx hb dL_tries_256 rfl (lv_at hl 8 rfl) ?_
                        obtain ⟨v225, M224, hq, h⟩ := cz_b2_t h
                        refine cz_runV (rest := []) (As := []) (T := TX4) (N0 := 8) X hM hl.1 (c_X4_undo (l := l) (g := g) (b := b) ka0 hq) mv_X4_undo rfl (by decide) ka0 ml_L_83 ⟨Nat.le_trans (Nat.le_of_ble_eq_true rfl) hRf, Nat.le_trans (Nat.le_of_ble_eq_true rfl) hRl⟩ rfl rfl (Nat.le_of_ble_eq_true rfl) dL_tries_257 (fun H locs hM => ?_)
                        refine lv_if_lt (tgt := 267) hx hb dL_tries_260 (by decide) (fun c226 => ?_) (fun c226 => ?_)
                        · have h := cz_ite_t c226 h
                          refine lv_iconst (v := nI 0) hx hb dL_tries_267 (by decide) ?_
                          cases h
                        · have h := cz_ite_f c226 h
                          refine lv_iconst (v := nI 1) hx hb dL_tries_263 (by decide) ?_
                          refine lv_goto (tgt := 268) hx hb dL_tries_264 (by decide) ?_
                          refine lv_istore (lv' := [(5, .int (nI 1)), (9, .int v215), (8, .int v213), (7, .int v160), (6, .int v158), (4, .int v152), (3, .int v4), (2, .int v2), (0, .ref a0), (1, .int x1)]) hx hb dL_tries_268 hl (by decide) rfl (fun ls hl => ?_)
                          refine lv_iload hx hb dL_tries_270 (lv_at hl 0 rfl) ?_
                          refine lv_if_eq (tgt := 299) hx hb dL_tries_272 (by decide) (fun c227 => absurd c227 (by decide)) (fun _ => ?_)
                          refine lv_aload_n hx hb dL_tries_275 rfl (lv_at hl 8 rfl) ?_
                          refine lv_iconst (v := nI 4) hx hb dL_tries_276 (by decide) ?_
                          refine lv_iconst (v := nI 0) hx hb dL_tries_277 (by decide) ?_
                          obtain ⟨v229, M228, hq, h⟩ := cz_b2_t h
                          refine cz_runV (rest := []) (As := [.int (nI 4), .int (nI 0)]) (T := TX4) (N0 := 8) X hM hl.1 (c_X4_ifPassed (l := l) (g := g) (b := b) ka0 hq) mv_X4_ifPassed rfl (by decide) ka0 ml_L_52 ⟨Nat.le_trans (Nat.le_of_ble_eq_true rfl) hRf, Nat.le_trans (Nat.le_of_ble_eq_true rfl) hRl⟩ rfl rfl (Nat.le_of_ble_eq_true rfl) dL_tries_278 (fun H locs hM => ?_)
                          refine lv_iload_n hx hb dL_tries_281 rfl (lv_at hl 7 rfl) ?_
                          refine lv_icmp_ne (tgt := 299) hx hb dL_tries_282 (by decide) (fun c230 => ?_) (fun c230 => ?_)
                          · have h := cz_ite_f c230 h
                            refine lv_iconst (v := nI 0) hx hb dL_tries_299 (by decide) ?_
                            cases h
                          · have h := cz_ite_t c230 h
                            refine lv_aload_n hx hb dL_tries_285 rfl (lv_at hl 8 rfl) ?_
                            refine lv_iconst (v := nI 1) hx hb dL_tries_286 (by decide) ?_
                            obtain ⟨v232, M231, hq, h⟩ := cz_b2_t h
                            refine cz_runV (rest := []) (As := [.int (nI 1)]) (T := TX4) (N0 := 8) X hM hl.1 (c_X4_count (l := l) (g := g) (b := b) ka0 hq) mv_X4_count rfl (by decide) ka0 ml_L_9 ⟨Nat.le_trans (Nat.le_of_ble_eq_true rfl) hRf, Nat.le_trans (Nat.le_of_ble_eq_true rfl) hRl⟩ rfl rfl (Nat.le_of_ble_eq_true rfl) dL_tries_287 (fun H locs hM => ?_)
                            refine lv_iload hx hb dL_tries_290 (lv_at hl 2 rfl) ?_
                            refine lv_icmp_ne (tgt := 299) hx hb dL_tries_292 (by decide) (fun c233 => ?_) (fun c233 => ?_)
                            · have h := cz_ite_f c233 h
                              refine lv_iconst (v := nI 0) hx hb dL_tries_299 (by decide) ?_
                              cases h
                            · have h := cz_ite_t c233 h
                              refine lv_iconst (v := nI 1) hx hb dL_tries_295 (by decide) ?_
                              refine lv_goto (tgt := 300) hx hb dL_tries_296 (by decide) ?_
                              exact cz_reti X hM h rfl dL_tries_300
                      · have h := cz_ite_f c223 h
                        refine lv_aload_n hx hb dL_tries_228 rfl (lv_at hl 8 rfl) ?_
                        refine lv_iconst (v := nI 1) hx hb dL_tries_229 (by decide) ?_
                        refine lv_iload hx hb dL_tries_230 (lv_at hl 0 rfl) ?_
                        refine lv_iconst (v := nI 1) hx hb dL_tries_232 (by decide) ?_
                        refine lv_isub hx hb dL_tries_233 ?_
                        obtain ⟨v235, M234, hq, h⟩ := cz_b2_t h
                        refine cz_runV (rest := []) (As := [.int (nI 1), .int (v215 - (nI 1))]) (T := TX4) (N0 := 8) X hM hl.1 (c_X4_set (l := l) (g := g) (b := b) ka0 hq) mv_X4_set rfl (by decide) ka0 ml_L_42 ⟨Nat.le_trans (Nat.le_of_ble_eq_true rfl) hRf, Nat.le_trans (Nat.le_of_ble_eq_true rfl) hRl⟩ rfl rfl (Nat.le_of_ble_eq_true rfl) dL_tries_234 (fun H locs hM => ?_)
                        refine lv_iload hx hb dL_tries_237 (lv_at hl 0 rfl) ?_
                        refine lv_icmp_ne (tgt := 267) hx hb dL_tries_239 (by decide) (fun c236 => ?_) (fun c236 => ?_)
                        · have h := cz_ite_f c236 h
                          refine lv_iconst (v := nI 0) hx hb dL_tries_267 (by decide) ?_
                          cases h
                        · have h := cz_ite_t c236 h
                          refine lv_aload_n hx hb dL_tries_242 rfl (lv_at hl 8 rfl) ?_
                          obtain ⟨v238, M237, hq, h⟩ := cz_b2_t h
                          refine cz_runS (rest := []) (As := [.ref a0]) X hM hl.1 (c_L_isCalm (l := l) (g := g) (b := b) ka0 hq) mv_L_isCalm ml_L_89 ⟨Nat.le_trans (Nat.le_of_ble_eq_true rfl) hRf, Nat.le_trans (Nat.le_of_ble_eq_true rfl) hRl⟩ rfl rfl (Nat.le_of_ble_eq_true rfl) dL_tries_243 (fun H locs hM => ?_)
                          refine lv_if_ne (tgt := 267) hx hb dL_tries_246 (by decide) (fun c239 => ?_) (fun c239 => ?_)
                          · have h := cz_ite_f c239 h
                            refine lv_iconst (v := nI 0) hx hb dL_tries_267 (by decide) ?_
                            cases h
                          · have h := cz_ite_t c239 h
                            refine lv_aload_n hx hb dL_tries_249 rfl (lv_at hl 8 rfl) ?_
                            obtain ⟨v241, M240, hq, h⟩ := cz_b2_t h
                            refine cz_runV (rest := []) (As := []) (T := TX4) (N0 := 8) X hM hl.1 (c_X4_undo (l := l) (g := g) (b := b) ka0 hq) mv_X4_undo rfl (by decide) ka0 ml_L_83 ⟨Nat.le_trans (Nat.le_of_ble_eq_true rfl) hRf, Nat.le_trans (Nat.le_of_ble_eq_true rfl) hRl⟩ rfl rfl (Nat.le_of_ble_eq_true rfl) dL_tries_250 (fun H locs hM => ?_)
                            refine lv_if_lt (tgt := 267) hx hb dL_tries_253 (by decide) (fun c242 => ?_) (fun c242 => ?_)
                            · have h := cz_ite_t c242 h
                              refine lv_iconst (v := nI 0) hx hb dL_tries_267 (by decide) ?_
                              cases h
                            · have h := cz_ite_f c242 h
                              refine lv_aload_n hx hb dL_tries_256 rfl (lv_at hl 8 rfl) ?_
                              obtain ⟨v244, M243, hq, h⟩ := cz_b2_t h
                              refine cz_runV (rest := []) (As := []) (T := TX4) (N0 := 8) X hM hl.1 (c_X4_undo (l := l) (g := g) (b := b) ka0 hq) mv_X4_undo rfl (by decide) ka0 ml_L_83 ⟨Nat.le_trans (Nat.le_of_ble_eq_true rfl) hRf, Nat.le_trans (Nat.le_of_ble_eq_true rfl) hRl⟩ rfl rfl (Nat.le_of_ble_eq_true rfl) dL_tries_257 (fun H locs hM => ?_)
                              refine lv_if_lt (tgt := 267) hx hb dL_tries_260 (by decide) (fun c245 => ?_) (fun c245 => ?_)
                              · have h := cz_ite_t c245 h
                                refine lv_iconst (v := nI 0) hx hb dL_tries_267 (by decide) ?_
                                cases h
                              · have h := cz_ite_f c245 h
                                refine lv_iconst (v := nI 1) hx hb dL_tries_263 (by decide) ?_
                                refine lv_goto (tgt := 268) hx hb dL_tries_264 (by decide) ?_
                                refine lv_istore (lv' := [(5, .int (nI 1)), (9, .int v215), (8, .int v213), (7, .int v160), (6, .int v158), (4, .int v152), (3, .int v4), (2, .int v2), (0, .ref a0), (1, .int x1)]) hx hb dL_tries_268 hl (by decide) rfl (fun ls hl => ?_)
                                refine lv_iload hx hb dL_tries_270 (lv_at hl 0 rfl) ?_
                                refine lv_if_eq (tgt := 299) hx hb dL_tries_272 (by decide) (fun c246 => absurd c246 (by decide)) (fun _ => ?_)
                                refine lv_aload_n hx hb dL_tries_275 rfl (lv_at hl 8 rfl) ?_
                                refine lv_iconst (v := nI 4) hx hb dL_tries_276 (by decide) ?_
                                refine lv_iconst (v := nI 0) hx hb dL_tries_277 (by decide) ?_
                                obtain ⟨v248, M247, hq, h⟩ := cz_b2_t h
                                refine cz_runV (rest := []) (As := [.int (nI 4), .int (nI 0)]) (T := TX4) (N0 := 8) X hM hl.1 (c_X4_ifPassed (l := l) (g := g) (b := b) ka0 hq) mv_X4_ifPassed rfl (by decide) ka0 ml_L_52 ⟨Nat.le_trans (Nat.le_of_ble_eq_true rfl) hRf, Nat.le_trans (Nat.le_of_ble_eq_true rfl) hRl⟩ rfl rfl (Nat.le_of_ble_eq_true rfl) dL_tries_278 (fun H locs hM => ?_)
                                refine lv_iload_n hx hb dL_tries_281 rfl (lv_at hl 7 rfl) ?_
                                refine lv_icmp_ne (tgt := 299) hx hb dL_tries_282 (by decide) (fun c249 => ?_) (fun c249 => ?_)
                                · have h := cz_ite_f c249 h
                                  refine lv_iconst (v := nI 0) hx hb dL_tries_299 (by decide) ?_
                                  cases h
                                · have h := cz_ite_t c249 h
                                  refine lv_aload_n hx hb dL_tries_285 rfl (lv_at hl 8 rfl) ?_
                                  refine lv_iconst (v := nI 1) hx hb dL_tries_286 (by decide) ?_
                                  obtain ⟨v251, M250, hq, h⟩ := cz_b2_t h
                                  refine cz_runV (rest := []) (As := [.int (nI 1)]) (T := TX4) (N0 := 8) X hM hl.1 (c_X4_count (l := l) (g := g) (b := b) ka0 hq) mv_X4_count rfl (by decide) ka0 ml_L_9 ⟨Nat.le_trans (Nat.le_of_ble_eq_true rfl) hRf, Nat.le_trans (Nat.le_of_ble_eq_true rfl) hRl⟩ rfl rfl (Nat.le_of_ble_eq_true rfl) dL_tries_287 (fun H locs hM => ?_)
                                  refine lv_iload hx hb dL_tries_290 (lv_at hl 2 rfl) ?_
                                  refine lv_icmp_ne (tgt := 299) hx hb dL_tries_292 (by decide) (fun c252 => ?_) (fun c252 => ?_)
                                  · have h := cz_ite_f c252 h
                                    refine lv_iconst (v := nI 0) hx hb dL_tries_299 (by decide) ?_
                                    cases h
                                  · have h := cz_ite_t c252 h
                                    refine lv_iconst (v := nI 1) hx hb dL_tries_295 (by decide) ?_
                                    refine lv_goto (tgt := 300) hx hb dL_tries_296 (by decide) ?_
                                    exact cz_reti X hM h rfl dL_tries_300
              · have h := cz_ite_f c208 h
                refine lv_iload hx hb dL_tries_147 (lv_at hl 0 rfl) ?_
                refine lv_iload hx hb dL_tries_149 (lv_at hl 4 rfl) ?_
                refine lv_icmp_ne (tgt := 183) hx hb dL_tries_151 (by decide) (fun c253 => ?_) (fun c253 => ?_)
                · have h := cz_ite_f c253 h
                  refine lv_iconst (v := nI 0) hx hb dL_tries_183 (by decide) ?_
                  cases h
                · have h := cz_ite_t c253 h
                  refine lv_iload_n hx hb dL_tries_154 rfl (lv_at hl 5 rfl) ?_
                  refine lv_bipush (v := -6) hx hb dL_tries_155 (by decide) ?_
                  refine lv_icmp_eq (tgt := 172) hx hb dL_tries_157 (by decide) (fun c254 => absurd c254 c5) (fun _ => ?_)
                  refine lv_bipush (v := nI 8) hx hb dL_tries_160 (by decide) ?_
                  refine lv_iload hx hb dL_tries_162 (lv_at hl 2 rfl) ?_
                  refine lv_imul hx hb dL_tries_164 ?_
                  refine lv_iload hx hb dL_tries_165 (lv_at hl 1 rfl) ?_
                  refine lv_iadd hx hb dL_tries_167 ?_
                  refine lv_iload_n hx hb dL_tries_168 rfl (lv_at hl 5 rfl) ?_
                  refine lv_icmp_lt (tgt := 183) hx hb dL_tries_169 (by decide) (fun c255 => ?_) (fun c255 => ?_)
                  · have h := cz_ite_t c255 h
                    refine lv_iconst (v := nI 0) hx hb dL_tries_183 (by decide) ?_
                    cases h
                  · have h := cz_ite_f c255 h
                    refine lv_aload_n hx hb dL_tries_172 rfl (lv_at hl 7 rfl) ?_
                    obtain ⟨v257, M256, hq, h⟩ := cz_b2_t h
                    refine cz_runV (rest := []) (As := []) (T := TX4) (N0 := 8) X hM hl.1 (c_X4_undo (l := l) (g := g) (b := b) ka0 hq) mv_X4_undo rfl (by decide) ka0 ml_L_83 ⟨Nat.le_trans (Nat.le_of_ble_eq_true rfl) hRf, Nat.le_trans (Nat.le_of_ble_eq_true rfl) hRl⟩ rfl rfl (Nat.le_of_ble_eq_true rfl) dL_tries_173 (fun H locs hM => ?_)
                    refine lv_if_lt (tgt := 183) hx hb dL_tries_176 (by decide) (fun c258 => ?_) (fun c258 => ?_)
                    · have h := cz_ite_t c258 h
                      refine lv_iconst (v := nI 0) hx hb dL_tries_183 (by decide) ?_
                      cases h
                    · have h := cz_ite_f c258 h
                      refine lv_iconst (v := nI 1) hx hb dL_tries_179 (by decide) ?_
                      refine lv_goto (tgt := 184) hx hb dL_tries_180 (by decide) ?_
                      refine lv_istore (lv' := [(5, .int (nI 1)), (8, .int v207), (7, .int v160), (6, .int v158), (4, .int v152), (3, .int v4), (2, .int v2), (0, .ref a0), (1, .int x1)]) hx hb dL_tries_184 hl (by decide) rfl (fun ls hl => ?_)
                      refine lv_aload_n hx hb dL_tries_186 rfl (lv_at hl 7 rfl) ?_
                      refine lv_iconst (v := nI 1) hx hb dL_tries_187 (by decide) ?_
                      obtain ⟨v260, M259, hq, h⟩ := cz_b2_t h
                      refine cz_runV (rest := []) (As := [.int (nI 1)]) (T := TX4) (N0 := 8) X hM hl.1 (c_X4_count (l := l) (g := g) (b := b) ka0 hq) mv_X4_count rfl (by decide) ka0 ml_L_9 ⟨Nat.le_trans (Nat.le_of_ble_eq_true rfl) hRf, Nat.le_trans (Nat.le_of_ble_eq_true rfl) hRl⟩ rfl rfl (Nat.le_of_ble_eq_true rfl) dL_tries_188 (fun H locs hM => ?_)
                      refine lv_istore (lv' := [(8, .int v260), (5, .int (nI 1)), (7, .int v160), (6, .int v158), (4, .int v152), (3, .int v4), (2, .int v2), (0, .ref a0), (1, .int x1)]) hx hb dL_tries_191 hl (by decide) rfl (fun ls hl => ?_)
                      refine lv_aload_n hx hb dL_tries_193 rfl (lv_at hl 7 rfl) ?_
                      obtain ⟨v262, M261, hq, h⟩ := cz_b2_t h
                      refine cz_runV (rest := []) (As := []) (T := TX4) (N0 := 8) X hM hl.1 (c_X4_leastLimit (l := l) (g := g) (b := b) ka0 hq) mv_X4_leastLimit rfl (by decide) ka0 ml_L_86 ⟨Nat.le_trans (Nat.le_of_ble_eq_true rfl) hRf, Nat.le_trans (Nat.le_of_ble_eq_true rfl) hRl⟩ rfl rfl (Nat.le_of_ble_eq_true rfl) dL_tries_194 (fun H locs hM => ?_)
                      refine lv_istore (lv' := [(9, .int v262), (8, .int v260), (5, .int (nI 1)), (7, .int v160), (6, .int v158), (4, .int v152), (3, .int v4), (2, .int v2), (0, .ref a0), (1, .int x1)]) hx hb dL_tries_197 hl (by decide) rfl (fun ls hl => ?_)
                      refine lv_iload hx hb dL_tries_199 (lv_at hl 2 rfl) ?_
                      refine lv_if_eq (tgt := 267) hx hb dL_tries_201 (by decide) (fun c263 => absurd c263 (by decide)) (fun _ => ?_)
                      refine lv_aload_n hx hb dL_tries_204 rfl (lv_at hl 8 rfl) ?_
                      refine lv_iconst (v := nI 1) hx hb dL_tries_205 (by decide) ?_
                      refine lv_iload hx hb dL_tries_206 (lv_at hl 0 rfl) ?_
                      obtain ⟨v265, M264, hq, h⟩ := cz_b2_t h
                      refine cz_runV (rest := []) (As := [.int (nI 1), .int v262]) (T := TX4) (N0 := 8) X hM hl.1 (c_X4_set (l := l) (g := g) (b := b) ka0 hq) mv_X4_set rfl (by decide) ka0 ml_L_42 ⟨Nat.le_trans (Nat.le_of_ble_eq_true rfl) hRf, Nat.le_trans (Nat.le_of_ble_eq_true rfl) hRl⟩ rfl rfl (Nat.le_of_ble_eq_true rfl) dL_tries_208 (fun H locs hM => ?_)
                      refine lv_iload hx hb dL_tries_211 (lv_at hl 1 rfl) ?_
                      refine lv_icmp_ne (tgt := 267) hx hb dL_tries_213 (by decide) (fun c266 => ?_) (fun c266 => ?_)
                      · have h := cz_ite_f c266 h
                        refine lv_iconst (v := nI 0) hx hb dL_tries_267 (by decide) ?_
                        cases h
                      · have h := cz_ite_t c266 h
                        refine lv_aload_n hx hb dL_tries_216 rfl (lv_at hl 8 rfl) ?_
                        obtain ⟨v268, M267, hq, h⟩ := cz_b2_t h
                        refine cz_runS (rest := []) (As := [.ref a0]) X hM hl.1 (c_L_isCalm (l := l) (g := g) (b := b) ka0 hq) mv_L_isCalm ml_L_89 ⟨Nat.le_trans (Nat.le_of_ble_eq_true rfl) hRf, Nat.le_trans (Nat.le_of_ble_eq_true rfl) hRl⟩ rfl rfl (Nat.le_of_ble_eq_true rfl) dL_tries_217 (fun H locs hM => ?_)
                        refine lv_if_eq (tgt := 267) hx hb dL_tries_220 (by decide) (fun c269 => ?_) (fun c269 => ?_)
                        · have h := cz_ite_t c269 h
                          refine lv_iconst (v := nI 0) hx hb dL_tries_267 (by decide) ?_
                          cases h
                        · have h := cz_ite_f c269 h
                          refine lv_iload hx hb dL_tries_223 (lv_at hl 0 rfl) ?_
                          refine lv_if_eq (tgt := 256) hx hb dL_tries_225 (by decide) (fun c270 => ?_) (fun c270 => ?_)
                          · have h := cz_ite_t c270 h
                            refine lv_aload_n hx hb dL_tries_256 rfl (lv_at hl 8 rfl) ?_
                            obtain ⟨v272, M271, hq, h⟩ := cz_b2_t h
                            refine cz_runV (rest := []) (As := []) (T := TX4) (N0 := 8) X hM hl.1 (c_X4_undo (l := l) (g := g) (b := b) ka0 hq) mv_X4_undo rfl (by decide) ka0 ml_L_83 ⟨Nat.le_trans (Nat.le_of_ble_eq_true rfl) hRf, Nat.le_trans (Nat.le_of_ble_eq_true rfl) hRl⟩ rfl rfl (Nat.le_of_ble_eq_true rfl) dL_tries_257 (fun H locs hM => ?_)
                            refine lv_if_lt (tgt := 267) hx hb dL_tries_260 (by decide) (fun c273 => ?_) (fun c273 => ?_)
                            · have h := cz_ite_t c273 h
                              refine lv_iconst (v := nI 0) hx hb dL_tries_267 (by decide) ?_
                              cases h
                            · have h := cz_ite_f c273 h
                              refine lv_iconst (v := nI 1) hx hb dL_tries_263 (by decide) ?_
                              refine lv_goto (tgt := 268) hx hb dL_tries_264 (by decide) ?_
                              refine lv_istore (lv' := [(5, .int (nI 1)), (9, .int v262), (8, .int v260), (7, .int v160), (6, .int v158), (4, .int v152), (3, .int v4), (2, .int v2), (0, .ref a0), (1, .int x1)]) hx hb dL_tries_268 hl (by decide) rfl (fun ls hl => ?_)
                              refine lv_iload hx hb dL_tries_270 (lv_at hl 0 rfl) ?_
                              refine lv_if_eq (tgt := 299) hx hb dL_tries_272 (by decide) (fun c274 => absurd c274 (by decide)) (fun _ => ?_)
                              refine lv_aload_n hx hb dL_tries_275 rfl (lv_at hl 8 rfl) ?_
                              refine lv_iconst (v := nI 4) hx hb dL_tries_276 (by decide) ?_
                              refine lv_iconst (v := nI 0) hx hb dL_tries_277 (by decide) ?_
                              obtain ⟨v276, M275, hq, h⟩ := cz_b2_t h
                              refine cz_runV (rest := []) (As := [.int (nI 4), .int (nI 0)]) (T := TX4) (N0 := 8) X hM hl.1 (c_X4_ifPassed (l := l) (g := g) (b := b) ka0 hq) mv_X4_ifPassed rfl (by decide) ka0 ml_L_52 ⟨Nat.le_trans (Nat.le_of_ble_eq_true rfl) hRf, Nat.le_trans (Nat.le_of_ble_eq_true rfl) hRl⟩ rfl rfl (Nat.le_of_ble_eq_true rfl) dL_tries_278 (fun H locs hM => ?_)
                              refine lv_iload_n hx hb dL_tries_281 rfl (lv_at hl 7 rfl) ?_
                              refine lv_icmp_ne (tgt := 299) hx hb dL_tries_282 (by decide) (fun c277 => ?_) (fun c277 => ?_)
                              · have h := cz_ite_f c277 h
                                refine lv_iconst (v := nI 0) hx hb dL_tries_299 (by decide) ?_
                                cases h
                              · have h := cz_ite_t c277 h
                                refine lv_aload_n hx hb dL_tries_285 rfl (lv_at hl 8 rfl) ?_
                                refine lv_iconst (v := nI 1) hx hb dL_tries_286 (by decide) ?_
                                obtain ⟨v279, M278, hq, h⟩ := cz_b2_t h
                                refine cz_runV (rest := []) (As := [.int (nI 1)]) (T := TX4) (N0 := 8) X hM hl.1 (c_X4_count (l := l) (g := g) (b := b) ka0 hq) mv_X4_count rfl (by decide) ka0 ml_L_9 ⟨Nat.le_trans (Nat.le_of_ble_eq_true rfl) hRf, Nat.le_trans (Nat.le_of_ble_eq_true rfl) hRl⟩ rfl rfl (Nat.le_of_ble_eq_true rfl) dL_tries_287 (fun H locs hM => ?_)
                                refine lv_iload hx hb dL_tries_290 (lv_at hl 2 rfl) ?_
                                refine lv_icmp_ne (tgt := 299) hx hb dL_tries_292 (by decide) (fun c280 => ?_) (fun c280 => ?_)
                                · have h := cz_ite_f c280 h
                                  refine lv_iconst (v := nI 0) hx hb dL_tries_299 (by decide) ?_
                                  cases h
                                · have h := cz_ite_t c280 h
                                  refine lv_iconst (v := nI 1) hx hb dL_tries_295 (by decide) ?_
                                  refine lv_goto (tgt := 300) hx hb dL_tries_296 (by decide) ?_
                                  exact cz_reti X hM h rfl dL_tries_300
                          · have h := cz_ite_f c270 h
                            refine lv_aload_n hx hb dL_tries_228 rfl (lv_at hl 8 rfl) ?_
                            refine lv_iconst (v := nI 1) hx hb dL_tries_229 (by decide) ?_
                            refine lv_iload hx hb dL_tries_230 (lv_at hl 0 rfl) ?_
                            refine lv_iconst (v := nI 1) hx hb dL_tries_232 (by decide) ?_
                            refine lv_isub hx hb dL_tries_233 ?_
                            obtain ⟨v282, M281, hq, h⟩ := cz_b2_t h
                            refine cz_runV (rest := []) (As := [.int (nI 1), .int (v262 - (nI 1))]) (T := TX4) (N0 := 8) X hM hl.1 (c_X4_set (l := l) (g := g) (b := b) ka0 hq) mv_X4_set rfl (by decide) ka0 ml_L_42 ⟨Nat.le_trans (Nat.le_of_ble_eq_true rfl) hRf, Nat.le_trans (Nat.le_of_ble_eq_true rfl) hRl⟩ rfl rfl (Nat.le_of_ble_eq_true rfl) dL_tries_234 (fun H locs hM => ?_)
                            refine lv_iload hx hb dL_tries_237 (lv_at hl 0 rfl) ?_
                            refine lv_icmp_ne (tgt := 267) hx hb dL_tries_239 (by decide) (fun c283 => ?_) (fun c283 => ?_)
                            · have h := cz_ite_f c283 h
                              refine lv_iconst (v := nI 0) hx hb dL_tries_267 (by decide) ?_
                              cases h
                            · have h := cz_ite_t c283 h
                              refine lv_aload_n hx hb dL_tries_242 rfl (lv_at hl 8 rfl) ?_
                              obtain ⟨v285, M284, hq, h⟩ := cz_b2_t h
                              refine cz_runS (rest := []) (As := [.ref a0]) X hM hl.1 (c_L_isCalm (l := l) (g := g) (b := b) ka0 hq) mv_L_isCalm ml_L_89 ⟨Nat.le_trans (Nat.le_of_ble_eq_true rfl) hRf, Nat.le_trans (Nat.le_of_ble_eq_true rfl) hRl⟩ rfl rfl (Nat.le_of_ble_eq_true rfl) dL_tries_243 (fun H locs hM => ?_)
                              refine lv_if_ne (tgt := 267) hx hb dL_tries_246 (by decide) (fun c286 => ?_) (fun c286 => ?_)
                              · have h := cz_ite_f c286 h
                                refine lv_iconst (v := nI 0) hx hb dL_tries_267 (by decide) ?_
                                cases h
                              · have h := cz_ite_t c286 h
                                refine lv_aload_n hx hb dL_tries_249 rfl (lv_at hl 8 rfl) ?_
                                obtain ⟨v288, M287, hq, h⟩ := cz_b2_t h
                                refine cz_runV (rest := []) (As := []) (T := TX4) (N0 := 8) X hM hl.1 (c_X4_undo (l := l) (g := g) (b := b) ka0 hq) mv_X4_undo rfl (by decide) ka0 ml_L_83 ⟨Nat.le_trans (Nat.le_of_ble_eq_true rfl) hRf, Nat.le_trans (Nat.le_of_ble_eq_true rfl) hRl⟩ rfl rfl (Nat.le_of_ble_eq_true rfl) dL_tries_250 (fun H locs hM => ?_)
                                refine lv_if_lt (tgt := 267) hx hb dL_tries_253 (by decide) (fun c289 => ?_) (fun c289 => ?_)
                                · have h := cz_ite_t c289 h
                                  refine lv_iconst (v := nI 0) hx hb dL_tries_267 (by decide) ?_
                                  cases h
                                · have h := cz_ite_f c289 h
                                  refine lv_aload_n hx hb dL_tries_256 rfl (lv_at hl 8 rfl) ?_
                                  obtain ⟨v291, M290, hq, h⟩ := cz_b2_t h
                                  refine cz_runV (rest := []) (As := []) (T := TX4) (N0 := 8) X hM hl.1 (c_X4_undo (l := l) (g := g) (b := b) ka0 hq) mv_X4_undo rfl (by decide) ka0 ml_L_83 ⟨Nat.le_trans (Nat.le_of_ble_eq_true rfl) hRf, Nat.le_trans (Nat.le_of_ble_eq_true rfl) hRl⟩ rfl rfl (Nat.le_of_ble_eq_true rfl) dL_tries_257 (fun H locs hM => ?_)
                                  refine lv_if_lt (tgt := 267) hx hb dL_tries_260 (by decide) (fun c292 => ?_) (fun c292 => ?_)
                                  · have h := cz_ite_t c292 h
                                    refine lv_iconst (v := nI 0) hx hb dL_tries_267 (by decide) ?_
                                    cases h
                                  · have h := cz_ite_f c292 h
                                    refine lv_iconst (v := nI 1) hx hb dL_tries_263 (by decide) ?_
                                    refine lv_goto (tgt := 268) hx hb dL_tries_264 (by decide) ?_
                                    refine lv_istore (lv' := [(5, .int (nI 1)), (9, .int v262), (8, .int v260), (7, .int v160), (6, .int v158), (4, .int v152), (3, .int v4), (2, .int v2), (0, .ref a0), (1, .int x1)]) hx hb dL_tries_268 hl (by decide) rfl (fun ls hl => ?_)
                                    refine lv_iload hx hb dL_tries_270 (lv_at hl 0 rfl) ?_
                                    refine lv_if_eq (tgt := 299) hx hb dL_tries_272 (by decide) (fun c293 => absurd c293 (by decide)) (fun _ => ?_)
                                    refine lv_aload_n hx hb dL_tries_275 rfl (lv_at hl 8 rfl) ?_
                                    refine lv_iconst (v := nI 4) hx hb dL_tries_276 (by decide) ?_
                                    refine lv_iconst (v := nI 0) hx hb dL_tries_277 (by decide) ?_
                                    obtain ⟨v295, M294, hq, h⟩ := cz_b2_t h
                                    refine cz_runV (rest := []) (As := [.int (nI 4), .int (nI 0)]) (T := TX4) (N0 := 8) X hM hl.1 (c_X4_ifPassed (l := l) (g := g) (b := b) ka0 hq) mv_X4_ifPassed rfl (by decide) ka0 ml_L_52 ⟨Nat.le_trans (Nat.le_of_ble_eq_true rfl) hRf, Nat.le_trans (Nat.le_of_ble_eq_true rfl) hRl⟩ rfl rfl (Nat.le_of_ble_eq_true rfl) dL_tries_278 (fun H locs hM => ?_)
                                    refine lv_iload_n hx hb dL_tries_281 rfl (lv_at hl 7 rfl) ?_
                                    refine lv_icmp_ne (tgt := 299) hx hb dL_tries_282 (by decide) (fun c296 => ?_) (fun c296 => ?_)
                                    · have h := cz_ite_f c296 h
                                      refine lv_iconst (v := nI 0) hx hb dL_tries_299 (by decide) ?_
                                      cases h
                                    · have h := cz_ite_t c296 h
                                      refine lv_aload_n hx hb dL_tries_285 rfl (lv_at hl 8 rfl) ?_
                                      refine lv_iconst (v := nI 1) hx hb dL_tries_286 (by decide) ?_
                                      obtain ⟨v298, M297, hq, h⟩ := cz_b2_t h
                                      refine cz_runV (rest := []) (As := [.int (nI 1)]) (T := TX4) (N0 := 8) X hM hl.1 (c_X4_count (l := l) (g := g) (b := b) ka0 hq) mv_X4_count rfl (by decide) ka0 ml_L_9 ⟨Nat.le_trans (Nat.le_of_ble_eq_true rfl) hRf, Nat.le_trans (Nat.le_of_ble_eq_true rfl) hRl⟩ rfl rfl (Nat.le_of_ble_eq_true rfl) dL_tries_287 (fun H locs hM => ?_)
                                      refine lv_iload hx hb dL_tries_290 (lv_at hl 2 rfl) ?_
                                      refine lv_icmp_ne (tgt := 299) hx hb dL_tries_292 (by decide) (fun c299 => ?_) (fun c299 => ?_)
                                      · have h := cz_ite_f c299 h
                                        refine lv_iconst (v := nI 0) hx hb dL_tries_299 (by decide) ?_
                                        cases h
                                      · have h := cz_ite_t c299 h
                                        refine lv_iconst (v := nI 1) hx hb dL_tries_295 (by decide) ?_
                                        refine lv_goto (tgt := 300) hx hb dL_tries_296 (by decide) ?_
                                        exact cz_reti X hM h rfl dL_tries_300
