set_option maxHeartbeats 8000000 in
set_option maxRecDepth 100000 in
theorem w_L_law_L71 {p : Program} {l : Launch} {e : Env} {s : State} {m : MethodId} {below : List Frame} {meth : Method} {c : Code} {g : cz_G} {bs L : Nat} {xs : Nat → Int32} (X : cz_X p s m #[Value.ref bs] meth c code 7 RL g s.heap.size ret) (hXs : va_X bs L xs s s.heap) (hbs : bs < s.heap.size) {a1 : Nat} (ka1 : cz_K s.heap.size a1 4) {x3 : Int32} :
    ∀ (n cells slots : Nat), cells + 5 * n ≤ 600000 → slots + 50 * n ≤ 7302250 → ∀ (x4 : Int32) (M : cz_M) (H : Heap) (locs : List Loc) (ls : Array Slot), cz_it2 (f_L_law_L71 L xs a1 x3) n x4 M = some () → cz_WT g s.heap.size M [] s H locs → lv_has ls 7 [(0, .ref bs), (1, .ref a1), (2, .int (nI 1)), (3, .int x3), (4, .int x4)] → W p l e room_1 s m #[Value.ref bs] below meth c H locs cells slots (lw_Z below #[Value.ref bs] s) (F0 m 71 ls []) := by
  obtain ⟨hx, hb, -, ho, ht, -⟩ := id X
  intro n
  induction n with
  | zero => intro cells slots hcc hss x4 M H locs ls h; cases (show none = some _ from h)
  | succ n ih =>
    intro cells slots hcc hss x4 M H locs ls h hM hl
    have h : f_L_law_L71 L xs a1 x3 (cz_it2 (f_L_law_L71 L xs a1 x3) n) x4 M = some () := h
    rw [f_L_law_L71] at h
    refine lv_iload hx hb dL_law_71 (lv_at hl 4 rfl) ?_
    refine lv_iload_n hx hb dL_law_73 rfl (lv_at hl 3 rfl) ?_
    refine lv_icmp_ge (tgt := 219) hx hb dL_law_74 (by decide) (fun c13 => ?_) (fun c13 => ?_)
    · have h := cz_ite_t c13 h
      refine lv_iload_n hx hb dL_law_219 rfl (lv_at hl 2 rfl) ?_
      exact cz_Tlret X hM (by show _ ≤ 600000; omega) (by show _ ≤ 7302250; omega) dL_law_220
    · have h := cz_ite_f c13 h
      refine lv_iload_n hx hb dL_law_77 rfl (lv_at hl 2 rfl) ?_
      refine lv_if_eq (tgt := 219) hx hb dL_law_78 (by decide) (fun c14 => absurd c14 (by decide)) (fun _ => ?_)
      refine lv_aload_n hx hb dL_law_81 rfl (lv_at hl 1 rfl) ?_
      refine lv_bipush (v := nI 15) hx hb dL_law_82 (by decide) ?_
      obtain ⟨v16, M15, hq, h⟩ := cz_b2_t h
      refine cz_TrunV (rest := []) (As := [.int (nI 15)]) (T := TX4) (N0 := 8) (by show _ ≤ 600000; omega) (by show _ ≤ 7302250; omega) X hM hl.1 (c_X4_count (l := l) (g := g) (b := s.heap.size) ka1 hq) mv_X4_count rfl (by decide) ka1 ml_L_9 ⟨Nat.le_of_ble_eq_true rfl, Nat.le_of_ble_eq_true rfl⟩ rfl rfl (Nat.le_of_ble_eq_true rfl) dL_law_84 (fun H locs hM => ?_)
      refine lv_istore (lv' := [(5, .int v16), (0, .ref bs), (1, .ref a1), (2, .int (nI 1)), (3, .int x3), (4, .int x4)]) hx hb dL_law_87 hl (by decide) rfl (fun ls hl => ?_)
      refine lv_aload_n hx hb dL_law_89 rfl (lv_at hl 2 rfl) ?_
      refine lv_aload_n hx hb dL_law_90 rfl (lv_at hl 1 rfl) ?_
      refine lv_iconst (v := nI 3) hx hb dL_law_91 (by decide) ?_
      refine lv_iload hx hb dL_law_92 (lv_at hl 5 rfl) ?_
      refine lv_imul hx hb dL_law_94 ?_
      obtain ⟨v17, hq, h⟩ := cz_bd_t h
      refine cz_TrunE (rest := [.ref a1]) (As := [.ref bs, .int ((nI 3) * x4)]) (by show _ ≤ 600000; omega) (by show _ ≤ 7302250; omega) X hXs hbs hM hl.1 (c_L_cell (l := l) (g := g) hq) mv_L_cell ml_L_100 ⟨Nat.le_of_ble_eq_true rfl, Nat.le_of_ble_eq_true rfl⟩ rfl rfl (Nat.le_of_ble_eq_true rfl) dL_law_95 (fun H locs hM => ?_)
      refine lv_bipush (v := nI 13) hx hb dL_law_98 (by decide) ?_
      obtain ⟨v18, hq, h⟩ := cz_bd_t h
      refine cz_TrunS (rest := [.ref a1]) (As := [.int v17, .int (nI 13)]) (by show _ ≤ 600000; omega) (by show _ ≤ 7302250; omega) X hM hl.1 (c_L_low (l := l) (g := g) (b := s.heap.size)  hq) mv_L_low ml_L_15 ⟨Nat.le_of_ble_eq_true rfl, Nat.le_of_ble_eq_true rfl⟩ rfl rfl (Nat.le_of_ble_eq_true rfl) dL_law_100 (fun H locs hM => ?_)
      refine lv_aload_n hx hb dL_law_103 rfl (lv_at hl 1 rfl) ?_
      refine lv_iconst (v := nI 3) hx hb dL_law_104 (by decide) ?_
      refine lv_iload hx hb dL_law_105 (lv_at hl 5 rfl) ?_
      refine lv_imul hx hb dL_law_107 ?_
      refine lv_iconst (v := nI 1) hx hb dL_law_108 (by decide) ?_
      refine lv_iadd hx hb dL_law_109 ?_
      obtain ⟨v19, hq, h⟩ := cz_bd_t h
      refine cz_TrunE (rest := [.int v18, .ref a1]) (As := [.ref bs, .int (((nI 3) * x4) + (nI 1))]) (by show _ ≤ 600000; omega) (by show _ ≤ 7302250; omega) X hXs hbs hM hl.1 (c_L_cell (l := l) (g := g) hq) mv_L_cell ml_L_100 ⟨Nat.le_of_ble_eq_true rfl, Nat.le_of_ble_eq_true rfl⟩ rfl rfl (Nat.le_of_ble_eq_true rfl) dL_law_110 (fun H locs hM => ?_)
      refine lv_aload_n hx hb dL_law_113 rfl (lv_at hl 1 rfl) ?_
      refine lv_iconst (v := nI 3) hx hb dL_law_114 (by decide) ?_
      refine lv_iload hx hb dL_law_115 (lv_at hl 5 rfl) ?_
      refine lv_imul hx hb dL_law_117 ?_
      refine lv_iconst (v := nI 2) hx hb dL_law_118 (by decide) ?_
      refine lv_iadd hx hb dL_law_119 ?_
      obtain ⟨v20, hq, h⟩ := cz_bd_t h
      refine cz_TrunE (rest := [.int v19, .int v18, .ref a1]) (As := [.ref bs, .int (((nI 3) * x4) + (nI 2))]) (by show _ ≤ 600000; omega) (by show _ ≤ 7302250; omega) X hXs hbs hM hl.1 (c_L_cell (l := l) (g := g) hq) mv_L_cell ml_L_100 ⟨Nat.le_of_ble_eq_true rfl, Nat.le_of_ble_eq_true rfl⟩ rfl rfl (Nat.le_of_ble_eq_true rfl) dL_law_120 (fun H locs hM => ?_)
      obtain ⟨v22, M21, hq, h⟩ := cz_b2_t h
      refine cz_TrunD (mc := 1) (ms := 40) (rest := []) (As := [.ref a1, .int v18, .int v19, .int v20]) (by show _ ≤ 600000; omega) (by show _ ≤ 7302250; omega) X hM hl.1 (c_L_change (l := l) (g := g) (b := s.heap.size) ka1 hq) mv_L_change ml_L_104 ⟨Nat.le_of_ble_eq_true rfl, Nat.le_of_ble_eq_true rfl⟩ rfl rfl (Nat.le_of_ble_eq_true rfl) dL_law_123 (fun H locs hM => ?_)
      refine lv_istore (lv' := [(6, .int v22), (5, .int v16), (0, .ref bs), (1, .ref a1), (2, .int (nI 1)), (3, .int x3), (4, .int x4)]) hx hb dL_law_126 hl (by decide) rfl (fun ls hl => ?_)
      refine lv_iload hx hb dL_law_128 (lv_at hl 0 rfl) ?_
      refine lv_bipush (v := -100) hx hb dL_law_130 (by decide) ?_
      refine lv_icmp_eq (tgt := 211) hx hb dL_law_132 (by decide) (fun c23 => ?_) (fun c23 => ?_)
      · have h := cz_ite_t c23 h
        refine lv_iconst (v := nI 0) hx hb dL_law_211 (by decide) ?_
        cases h
      · have h := cz_ite_f c23 h
        refine lv_aload_n hx hb dL_law_135 rfl (lv_at hl 3 rfl) ?_
        refine lv_bipush (v := nI 15) hx hb dL_law_136 (by decide) ?_
        obtain ⟨v25, M24, hq, h⟩ := cz_b2_t h
        refine cz_TrunV (rest := []) (As := [.int (nI 15)]) (T := TX4) (N0 := 8) (by show _ ≤ 600000; omega) (by show _ ≤ 7302250; omega) X hM hl.1 (c_X4_count (l := l) (g := g) (b := s.heap.size) ka1 hq) mv_X4_count rfl (by decide) ka1 ml_L_9 ⟨Nat.le_of_ble_eq_true rfl, Nat.le_of_ble_eq_true rfl⟩ rfl rfl (Nat.le_of_ble_eq_true rfl) dL_law_138 (fun H locs hM => ?_)
        refine lv_iload hx hb dL_law_141 (lv_at hl 0 rfl) ?_
        refine lv_if_ge (tgt := 151) hx hb dL_law_143 (by decide) (fun c26 => ?_) (fun c26 => ?_)
        · have h := cz_ite_t c26 h
          refine lv_iload hx hb dL_law_151 (lv_at hl 1 rfl) ?_
          refine lv_iconst (v := nI 4) hx hb dL_law_153 (by decide) ?_
          refine lv_icmp_ne (tgt := 161) hx hb dL_law_154 (by decide) (fun c27 => ?_) (fun c27 => ?_)
          · have h := cz_ite_f c27 h
            refine lv_iload hx hb dL_law_161 (lv_at hl 1 rfl) ?_
            refine lv_iconst (v := nI 1) hx hb dL_law_163 (by decide) ?_
            refine lv_iadd hx hb dL_law_164 ?_
            refine lv_icmp_ne (tgt := 211) hx hb dL_law_165 (by decide) (fun c28 => ?_) (fun c28 => ?_)
            · have h := cz_ite_f c28 h
              refine lv_iconst (v := nI 0) hx hb dL_law_211 (by decide) ?_
              cases h
            · have h := cz_ite_t c28 h
              refine lv_aload_n hx hb dL_law_168 rfl (lv_at hl 3 rfl) ?_
              obtain ⟨v30, M29, hq, h⟩ := cz_b2_t h
              refine cz_TrunD (mc := 2) (ms := 5) (rest := []) (As := [.ref a1]) (by show _ ≤ 600000; omega) (by show _ ≤ 7302250; omega) X hM hl.1 (c_L_holds (l := l) (g := g) (b := s.heap.size) ka1 hq) mv_L_holds ml_L_94 ⟨Nat.le_of_ble_eq_true rfl, Nat.le_of_ble_eq_true rfl⟩ rfl rfl (Nat.le_of_ble_eq_true rfl) dL_law_169 (fun H locs hM => ?_)
              refine lv_if_eq (tgt := 211) hx hb dL_law_172 (by decide) (fun c31 => ?_) (fun c31 => ?_)
              · have h := cz_ite_t c31 h
                refine lv_iconst (v := nI 0) hx hb dL_law_211 (by decide) ?_
                cases h
              · have h := cz_ite_f c31 h
                refine lv_iload hx hb dL_law_175 (lv_at hl 6 rfl) ?_
                refine lv_iconst (v := nI 5) hx hb dL_law_177 (by decide) ?_
                refine lv_irem hx hb dL_law_178 (by decide) ?_
                refine lv_iconst (v := nI 4) hx hb dL_law_179 (by decide) ?_
                refine lv_icmp_ne (tgt := 207) hx hb dL_law_180 (by decide) (fun c32 => ?_) (fun c32 => ?_)
                · have h := cz_ite_f c32 h
                  refine lv_iconst (v := nI 1) hx hb dL_law_207 (by decide) ?_
                  refine lv_goto (tgt := 212) hx hb dL_law_208 (by decide) ?_
                  refine lv_istore_n (lv' := [(2, .int (nI 1)), (6, .int v22), (5, .int v16), (0, .ref bs), (1, .ref a1), (3, .int x3), (4, .int x4)]) hx hb dL_law_212 rfl hl (by decide) rfl (fun ls hl => ?_)
                  refine cz_nmL (v := x4 + nI 1) h (fun v33 e34 h => ?_)
                  refine lv_iinc (v := v33) (lv' := [(4, .int v33), (2, .int (nI 1)), (6, .int v22), (5, .int v16), (0, .ref bs), (1, .ref a1), (3, .int x3)]) hx hb dL_law_213 hl (k := 6) rfl (by rw [e34]; rfl) (by decide) rfl (fun ls hl => ?_)
                  refine lv_goto (tgt := 71) hx hb dL_law_216 (by decide) ?_
                  exact ih _ _ (by omega) (by omega) _ _ _ _ _ h hM (lv_sub hl [4, 5, 1, 6, 0] rfl)
                · have h := cz_ite_t c32 h
                  refine lv_aload_n hx hb dL_law_183 rfl (lv_at hl 3 rfl) ?_
                  refine lv_aload_n hx hb dL_law_184 rfl (lv_at hl 2 rfl) ?_
                  refine lv_iconst (v := nI 3) hx hb dL_law_185 (by decide) ?_
                  refine lv_iload hx hb dL_law_186 (lv_at hl 6 rfl) ?_
                  refine lv_imul hx hb dL_law_188 ?_
                  refine lv_iconst (v := nI 2) hx hb dL_law_189 (by decide) ?_
                  refine lv_iadd hx hb dL_law_190 ?_
                  obtain ⟨v35, hq, h⟩ := cz_bd_t h
                  refine cz_TrunE (rest := [.ref a1]) (As := [.ref bs, .int (((nI 3) * x4) + (nI 2))]) (by show _ ≤ 600000; omega) (by show _ ≤ 7302250; omega) X hXs hbs hM hl.1 (c_L_cell (l := l) (g := g) hq) mv_L_cell ml_L_100 ⟨Nat.le_of_ble_eq_true rfl, Nat.le_of_ble_eq_true rfl⟩ rfl rfl (Nat.le_of_ble_eq_true rfl) dL_law_191 (fun H locs hM => ?_)
                  obtain ⟨v37, M36, hq, h⟩ := cz_b2_t h
                  refine cz_TrunS (rest := []) (As := [.ref a1, .int v35]) (by show _ ≤ 600000; omega) (by show _ ≤ 7302250; omega) X hM hl.1 (c_L_tries (l := l) (g := g) (b := s.heap.size) ka1 hq) mv_L_tries ml_L_108 ⟨Nat.le_of_ble_eq_true rfl, Nat.le_of_ble_eq_true rfl⟩ rfl rfl (Nat.le_of_ble_eq_true rfl) dL_law_194 (fun H locs hM => ?_)
                  refine lv_if_eq (tgt := 211) hx hb dL_law_197 (by decide) (fun c38 => ?_) (fun c38 => ?_)
                  · have h := cz_ite_t c38 h
                    refine lv_iconst (v := nI 0) hx hb dL_law_211 (by decide) ?_
                    cases h
                  · have h := cz_ite_f c38 h
                    refine lv_aload_n hx hb dL_law_200 rfl (lv_at hl 3 rfl) ?_
                    obtain ⟨v40, M39, hq, h⟩ := cz_b2_t h
                    refine cz_TrunD (mc := 2) (ms := 5) (rest := []) (As := [.ref a1]) (by show _ ≤ 600000; omega) (by show _ ≤ 7302250; omega) X hM hl.1 (c_L_holds (l := l) (g := g) (b := s.heap.size) ka1 hq) mv_L_holds ml_L_94 ⟨Nat.le_of_ble_eq_true rfl, Nat.le_of_ble_eq_true rfl⟩ rfl rfl (Nat.le_of_ble_eq_true rfl) dL_law_201 (fun H locs hM => ?_)
                    refine lv_if_eq (tgt := 211) hx hb dL_law_204 (by decide) (fun c41 => ?_) (fun c41 => ?_)
                    · have h := cz_ite_t c41 h
                      refine lv_iconst (v := nI 0) hx hb dL_law_211 (by decide) ?_
                      cases h
                    · have h := cz_ite_f c41 h
                      refine lv_iconst (v := nI 1) hx hb dL_law_207 (by decide) ?_
                      refine lv_goto (tgt := 212) hx hb dL_law_208 (by decide) ?_
                      refine lv_istore_n (lv' := [(2, .int (nI 1)), (6, .int v22), (5, .int v16), (0, .ref bs), (1, .ref a1), (3, .int x3), (4, .int x4)]) hx hb dL_law_212 rfl hl (by decide) rfl (fun ls hl => ?_)
                      refine cz_nmL (v := x4 + nI 1) h (fun v42 e43 h => ?_)
                      refine lv_iinc (v := v42) (lv' := [(4, .int v42), (2, .int (nI 1)), (6, .int v22), (5, .int v16), (0, .ref bs), (1, .ref a1), (3, .int x3)]) hx hb dL_law_213 hl (k := 6) rfl (by rw [e43]; rfl) (by decide) rfl (fun ls hl => ?_)
                      refine lv_goto (tgt := 71) hx hb dL_law_216 (by decide) ?_
                      exact ih _ _ (by omega) (by omega) _ _ _ _ _ h hM (lv_sub hl [4, 5, 1, 6, 0] rfl)
          · have h := cz_ite_t c27 h
            refine lv_iconst (v := nI 4) hx hb dL_law_157 (by decide) ?_
            refine lv_goto (tgt := 165) hx hb dL_law_158 (by decide) ?_
            refine lv_icmp_ne (tgt := 211) hx hb dL_law_165 (by decide) (fun c44 => ?_) (fun c44 => ?_)
            · have h := cz_ite_f c44 h
              refine lv_iconst (v := nI 0) hx hb dL_law_211 (by decide) ?_
              cases h
            · have h := cz_ite_t c44 h
              refine lv_aload_n hx hb dL_law_168 rfl (lv_at hl 3 rfl) ?_
              obtain ⟨v46, M45, hq, h⟩ := cz_b2_t h
              refine cz_TrunD (mc := 2) (ms := 5) (rest := []) (As := [.ref a1]) (by show _ ≤ 600000; omega) (by show _ ≤ 7302250; omega) X hM hl.1 (c_L_holds (l := l) (g := g) (b := s.heap.size) ka1 hq) mv_L_holds ml_L_94 ⟨Nat.le_of_ble_eq_true rfl, Nat.le_of_ble_eq_true rfl⟩ rfl rfl (Nat.le_of_ble_eq_true rfl) dL_law_169 (fun H locs hM => ?_)
              refine lv_if_eq (tgt := 211) hx hb dL_law_172 (by decide) (fun c47 => ?_) (fun c47 => ?_)
              · have h := cz_ite_t c47 h
                refine lv_iconst (v := nI 0) hx hb dL_law_211 (by decide) ?_
                cases h
              · have h := cz_ite_f c47 h
                refine lv_iload hx hb dL_law_175 (lv_at hl 6 rfl) ?_
                refine lv_iconst (v := nI 5) hx hb dL_law_177 (by decide) ?_
                refine lv_irem hx hb dL_law_178 (by decide) ?_
                refine lv_iconst (v := nI 4) hx hb dL_law_179 (by decide) ?_
                refine lv_icmp_ne (tgt := 207) hx hb dL_law_180 (by decide) (fun c48 => ?_) (fun c48 => ?_)
                · have h := cz_ite_f c48 h
                  refine lv_iconst (v := nI 1) hx hb dL_law_207 (by decide) ?_
                  refine lv_goto (tgt := 212) hx hb dL_law_208 (by decide) ?_
                  refine lv_istore_n (lv' := [(2, .int (nI 1)), (6, .int v22), (5, .int v16), (0, .ref bs), (1, .ref a1), (3, .int x3), (4, .int x4)]) hx hb dL_law_212 rfl hl (by decide) rfl (fun ls hl => ?_)
                  refine cz_nmL (v := x4 + nI 1) h (fun v49 e50 h => ?_)
                  refine lv_iinc (v := v49) (lv' := [(4, .int v49), (2, .int (nI 1)), (6, .int v22), (5, .int v16), (0, .ref bs), (1, .ref a1), (3, .int x3)]) hx hb dL_law_213 hl (k := 6) rfl (by rw [e50]; rfl) (by decide) rfl (fun ls hl => ?_)
                  refine lv_goto (tgt := 71) hx hb dL_law_216 (by decide) ?_
                  exact ih _ _ (by omega) (by omega) _ _ _ _ _ h hM (lv_sub hl [4, 5, 1, 6, 0] rfl)
                · have h := cz_ite_t c48 h
                  refine lv_aload_n hx hb dL_law_183 rfl (lv_at hl 3 rfl) ?_
                  refine lv_aload_n hx hb dL_law_184 rfl (lv_at hl 2 rfl) ?_
                  refine lv_iconst (v := nI 3) hx hb dL_law_185 (by decide) ?_
                  refine lv_iload hx hb dL_law_186 (lv_at hl 6 rfl) ?_
                  refine lv_imul hx hb dL_law_188 ?_
                  refine lv_iconst (v := nI 2) hx hb dL_law_189 (by decide) ?_
                  refine lv_iadd hx hb dL_law_190 ?_
                  obtain ⟨v51, hq, h⟩ := cz_bd_t h
                  refine cz_TrunE (rest := [.ref a1]) (As := [.ref bs, .int (((nI 3) * x4) + (nI 2))]) (by show _ ≤ 600000; omega) (by show _ ≤ 7302250; omega) X hXs hbs hM hl.1 (c_L_cell (l := l) (g := g) hq) mv_L_cell ml_L_100 ⟨Nat.le_of_ble_eq_true rfl, Nat.le_of_ble_eq_true rfl⟩ rfl rfl (Nat.le_of_ble_eq_true rfl) dL_law_191 (fun H locs hM => ?_)
                  obtain ⟨v53, M52, hq, h⟩ := cz_b2_t h
                  refine cz_TrunS (rest := []) (As := [.ref a1, .int v51]) (by show _ ≤ 600000; omega) (by show _ ≤ 7302250; omega) X hM hl.1 (c_L_tries (l := l) (g := g) (b := s.heap.size) ka1 hq) mv_L_tries ml_L_108 ⟨Nat.le_of_ble_eq_true rfl, Nat.le_of_ble_eq_true rfl⟩ rfl rfl (Nat.le_of_ble_eq_true rfl) dL_law_194 (fun H locs hM => ?_)
                  refine lv_if_eq (tgt := 211) hx hb dL_law_197 (by decide) (fun c54 => ?_) (fun c54 => ?_)
                  · have h := cz_ite_t c54 h
                    refine lv_iconst (v := nI 0) hx hb dL_law_211 (by decide) ?_
                    cases h
                  · have h := cz_ite_f c54 h
                    refine lv_aload_n hx hb dL_law_200 rfl (lv_at hl 3 rfl) ?_
                    obtain ⟨v56, M55, hq, h⟩ := cz_b2_t h
                    refine cz_TrunD (mc := 2) (ms := 5) (rest := []) (As := [.ref a1]) (by show _ ≤ 600000; omega) (by show _ ≤ 7302250; omega) X hM hl.1 (c_L_holds (l := l) (g := g) (b := s.heap.size) ka1 hq) mv_L_holds ml_L_94 ⟨Nat.le_of_ble_eq_true rfl, Nat.le_of_ble_eq_true rfl⟩ rfl rfl (Nat.le_of_ble_eq_true rfl) dL_law_201 (fun H locs hM => ?_)
                    refine lv_if_eq (tgt := 211) hx hb dL_law_204 (by decide) (fun c57 => ?_) (fun c57 => ?_)
                    · have h := cz_ite_t c57 h
                      refine lv_iconst (v := nI 0) hx hb dL_law_211 (by decide) ?_
                      cases h
                    · have h := cz_ite_f c57 h
                      refine lv_iconst (v := nI 1) hx hb dL_law_207 (by decide) ?_
                      refine lv_goto (tgt := 212) hx hb dL_law_208 (by decide) ?_
                      refine lv_istore_n (lv' := [(2, .int (nI 1)), (6, .int v22), (5, .int v16), (0, .ref bs), (1, .ref a1), (3, .int x3), (4, .int x4)]) hx hb dL_law_212 rfl hl (by decide) rfl (fun ls hl => ?_)
                      refine cz_nmL (v := x4 + nI 1) h (fun v58 e59 h => ?_)
                      refine lv_iinc (v := v58) (lv' := [(4, .int v58), (2, .int (nI 1)), (6, .int v22), (5, .int v16), (0, .ref bs), (1, .ref a1), (3, .int x3)]) hx hb dL_law_213 hl (k := 6) rfl (by rw [e59]; rfl) (by decide) rfl (fun ls hl => ?_)
                      refine lv_goto (tgt := 71) hx hb dL_law_216 (by decide) ?_
                      exact ih _ _ (by omega) (by omega) _ _ _ _ _ h hM (lv_sub hl [4, 5, 1, 6, 0] rfl)
        · have h := cz_ite_f c26 h
          refine lv_iload hx hb dL_law_146 (lv_at hl 1 rfl) ?_
          refine lv_goto (tgt := 165) hx hb dL_law_148 (by decide) ?_
          refine lv_icmp_ne (tgt := 211) hx hb dL_law_165 (by decide) (fun c60 => ?_) (fun c60 => ?_)
          · have h := cz_ite_f c60 h
            refine lv_iconst (v := nI 0) hx hb dL_law_211 (by decide) ?_
            cases h
          · have h := cz_ite_t c60 h
            refine lv_aload_n hx hb dL_law_168 rfl (lv_at hl 3 rfl) ?_
            obtain ⟨v62, M61, hq, h⟩ := cz_b2_t h
            refine cz_TrunD (mc := 2) (ms := 5) (rest := []) (As := [.ref a1]) (by show _ ≤ 600000; omega) (by show _ ≤ 7302250; omega) X hM hl.1 (c_L_holds (l := l) (g := g) (b := s.heap.size) ka1 hq) mv_L_holds ml_L_94 ⟨Nat.le_of_ble_eq_true rfl, Nat.le_of_ble_eq_true rfl⟩ rfl rfl (Nat.le_of_ble_eq_true rfl) dL_law_169 (fun H locs hM => ?_)
            refine lv_if_eq (tgt := 211) hx hb dL_law_172 (by decide) (fun c63 => ?_) (fun c63 => ?_)
            · have h := cz_ite_t c63 h
              refine lv_iconst (v := nI 0) hx hb dL_law_211 (by decide) ?_
              cases h
            · have h := cz_ite_f c63 h
              refine lv_iload hx hb dL_law_175 (lv_at hl 6 rfl) ?_
              refine lv_iconst (v := nI 5) hx hb dL_law_177 (by decide) ?_
              refine lv_irem hx hb dL_law_178 (by decide) ?_
              refine lv_iconst (v := nI 4) hx hb dL_law_179 (by decide) ?_
              refine lv_icmp_ne (tgt := 207) hx hb dL_law_180 (by decide) (fun c64 => ?_) (fun c64 => ?_)
              · have h := cz_ite_f c64 h
                refine lv_iconst (v := nI 1) hx hb dL_law_207 (by decide) ?_
                refine lv_goto (tgt := 212) hx hb dL_law_208 (by decide) ?_
                refine lv_istore_n (lv' := [(2, .int (nI 1)), (6, .int v22), (5, .int v16), (0, .ref bs), (1, .ref a1), (3, .int x3), (4, .int x4)]) hx hb dL_law_212 rfl hl (by decide) rfl (fun ls hl => ?_)
                refine cz_nmL (v := x4 + nI 1) h (fun v65 e66 h => ?_)
                refine lv_iinc (v := v65) (lv' := [(4, .int v65), (2, .int (nI 1)), (6, .int v22), (5, .int v16), (0, .ref bs), (1, .ref a1), (3, .int x3)]) hx hb dL_law_213 hl (k := 6) rfl (by rw [e66]; rfl) (by decide) rfl (fun ls hl => ?_)
                refine lv_goto (tgt := 71) hx hb dL_law_216 (by decide) ?_
                exact ih _ _ (by omega) (by omega) _ _ _ _ _ h hM (lv_sub hl [4, 5, 1, 6, 0] rfl)
              · have h := cz_ite_t c64 h
                refine lv_aload_n hx hb dL_law_183 rfl (lv_at hl 3 rfl) ?_
                refine lv_aload_n hx hb dL_law_184 rfl (lv_at hl 2 rfl) ?_
                refine lv_iconst (v := nI 3) hx hb dL_law_185 (by decide) ?_
                refine lv_iload hx hb dL_law_186 (lv_at hl 6 rfl) ?_
                refine lv_imul hx hb dL_law_188 ?_
                refine lv_iconst (v := nI 2) hx hb dL_law_189 (by decide) ?_
                refine lv_iadd hx hb dL_law_190 ?_
                obtain ⟨v67, hq, h⟩ := cz_bd_t h
                refine cz_TrunE (rest := [.ref a1]) (As := [.ref bs, .int (((nI 3) * x4) + (nI 2))]) (by show _ ≤ 600000; omega) (by show _ ≤ 7302250; omega) X hXs hbs hM hl.1 (c_L_cell (l := l) (g := g) hq) mv_L_cell ml_L_100 ⟨Nat.le_of_ble_eq_true rfl, Nat.le_of_ble_eq_true rfl⟩ rfl rfl (Nat.le_of_ble_eq_true rfl) dL_law_191 (fun H locs hM => ?_)
                obtain ⟨v69, M68, hq, h⟩ := cz_b2_t h
                refine cz_TrunS (rest := []) (As := [.ref a1, .int v67]) (by show _ ≤ 600000; omega) (by show _ ≤ 7302250; omega) X hM hl.1 (c_L_tries (l := l) (g := g) (b := s.heap.size) ka1 hq) mv_L_tries ml_L_108 ⟨Nat.le_of_ble_eq_true rfl, Nat.le_of_ble_eq_true rfl⟩ rfl rfl (Nat.le_of_ble_eq_true rfl) dL_law_194 (fun H locs hM => ?_)
                refine lv_if_eq (tgt := 211) hx hb dL_law_197 (by decide) (fun c70 => ?_) (fun c70 => ?_)
                · have h := cz_ite_t c70 h
                  refine lv_iconst (v := nI 0) hx hb dL_law_211 (by decide) ?_
                  cases h
                · have h := cz_ite_f c70 h
                  refine lv_aload_n hx hb dL_law_200 rfl (lv_at hl 3 rfl) ?_
                  obtain ⟨v72, M71, hq, h⟩ := cz_b2_t h
                  refine cz_TrunD (mc := 2) (ms := 5) (rest := []) (As := [.ref a1]) (by show _ ≤ 600000; omega) (by show _ ≤ 7302250; omega) X hM hl.1 (c_L_holds (l := l) (g := g) (b := s.heap.size) ka1 hq) mv_L_holds ml_L_94 ⟨Nat.le_of_ble_eq_true rfl, Nat.le_of_ble_eq_true rfl⟩ rfl rfl (Nat.le_of_ble_eq_true rfl) dL_law_201 (fun H locs hM => ?_)
                  refine lv_if_eq (tgt := 211) hx hb dL_law_204 (by decide) (fun c73 => ?_) (fun c73 => ?_)
                  · have h := cz_ite_t c73 h
                    refine lv_iconst (v := nI 0) hx hb dL_law_211 (by decide) ?_
                    cases h
                  · have h := cz_ite_f c73 h
                    refine lv_iconst (v := nI 1) hx hb dL_law_207 (by decide) ?_
                    refine lv_goto (tgt := 212) hx hb dL_law_208 (by decide) ?_
                    refine lv_istore_n (lv' := [(2, .int (nI 1)), (6, .int v22), (5, .int v16), (0, .ref bs), (1, .ref a1), (3, .int x3), (4, .int x4)]) hx hb dL_law_212 rfl hl (by decide) rfl (fun ls hl => ?_)
                    refine cz_nmL (v := x4 + nI 1) h (fun v74 e75 h => ?_)
                    refine lv_iinc (v := v74) (lv' := [(4, .int v74), (2, .int (nI 1)), (6, .int v22), (5, .int v16), (0, .ref bs), (1, .ref a1), (3, .int x3)]) hx hb dL_law_213 hl (k := 6) rfl (by rw [e75]; rfl) (by decide) rfl (fun ls hl => ?_)
                    refine lv_goto (tgt := 71) hx hb dL_law_216 (by decide) ?_
                    exact ih _ _ (by omega) (by omega) _ _ _ _ _ h hM (lv_sub hl [4, 5, 1, 6, 0] rfl)
set_option maxHeartbeats 8000000 in
set_option maxRecDepth 100000 in
theorem w_L_law_L8 {p : Program} {l : Launch} {e : Env} {s : State} {m : MethodId} {below : List Frame} {meth : Method} {c : Code} {g : cz_G} {bs L : Nat} {xs : Nat → Int32} (X : cz_X p s m #[Value.ref bs] meth c code 7 RL g s.heap.size ret) (hXs : va_X bs L xs s s.heap) (hbs : bs < s.heap.size) {a1 : Nat} (ka1 : cz_K s.heap.size a1 4) : ∀ (M : cz_M) (H : Heap) (locs : List Loc) (ls : Array Slot), f_L_law_L8 L xs a1 M = some () → cz_WT g s.heap.size M [] s H locs → lv_has ls 7 [(1, .ref a1), (0, .ref bs)] → W p l e room_1 s m #[Value.ref bs] below meth c H locs 461 7008 (lw_Z below #[Value.ref bs] s) (F0 m 8 ls []) := by
  obtain ⟨hx, hb, -, ho, ht, -⟩ := id X
  intro M H locs ls h hM hl
  rw [f_L_law_L8] at h
  refine lv_aload_n hx hb dL_law_8 rfl (lv_at hl 0 rfl) ?_
  obtain ⟨v2, M1, hq, h⟩ := cz_b2_t h
  refine cz_TrunD (mc := 2) (ms := 5) (rest := []) (As := [.ref a1]) (Nat.le_of_ble_eq_true rfl) (Nat.le_of_ble_eq_true rfl) X hM hl.1 (c_L_holds (l := l) (g := g) (b := s.heap.size) ka1 hq) mv_L_holds ml_L_94 ⟨Nat.le_of_ble_eq_true rfl, Nat.le_of_ble_eq_true rfl⟩ rfl rfl (Nat.le_of_ble_eq_true rfl) dL_law_9 (fun H locs hM => ?_)
  refine lv_if_eq (tgt := 47) hx hb dL_law_12 (by decide) (fun c3 => ?_) (fun c3 => ?_)
  · have h := cz_ite_t c3 h
    refine lv_iconst (v := nI 0) hx hb dL_law_47 (by decide) ?_
    cases h
  · have h := cz_ite_f c3 h
    refine lv_aload_n hx hb dL_law_15 rfl (lv_at hl 0 rfl) ?_
    obtain ⟨v5, M4, hq, h⟩ := cz_b2_t h
    refine cz_TrunV (rest := []) (As := []) (T := TX4) (N0 := 8) (Nat.le_of_ble_eq_true rfl) (Nat.le_of_ble_eq_true rfl) X hM hl.1 (c_X4_undo (l := l) (g := g) (b := s.heap.size) ka1 hq) mv_X4_undo rfl (by decide) ka1 ml_L_83 ⟨Nat.le_of_ble_eq_true rfl, Nat.le_of_ble_eq_true rfl⟩ rfl rfl (Nat.le_of_ble_eq_true rfl) dL_law_16 (fun H locs hM => ?_)
    refine lv_bipush (v := -5) hx hb dL_law_19 (by decide) ?_
    refine lv_icmp_ne (tgt := 47) hx hb dL_law_21 (by decide) (fun c6 => ?_) (fun c6 => ?_)
    · have h := cz_ite_f c6 h
      refine lv_iconst (v := nI 0) hx hb dL_law_47 (by decide) ?_
      cases h
    · have h := cz_ite_t c6 h
      refine lv_aload_n hx hb dL_law_24 rfl (lv_at hl 0 rfl) ?_
      refine lv_iconst (v := nI 3) hx hb dL_law_25 (by decide) ?_
      refine lv_iconst (v := nI 0) hx hb dL_law_26 (by decide) ?_
      obtain ⟨v7, hq, h⟩ := cz_bd_t h
      refine cz_TrunV (rest := []) (As := [.int (nI 3), .int (nI 0)]) (T := TX4) (N0 := 8) (Nat.le_of_ble_eq_true rfl) (Nat.le_of_ble_eq_true rfl) X hM hl.1 (c_X4_onShift (l := l) (g := g) (b := s.heap.size) ka1 hq) mv_X4_onShift rfl (by decide) ka1 ml_L_97 ⟨Nat.le_of_ble_eq_true rfl, Nat.le_of_ble_eq_true rfl⟩ rfl rfl (Nat.le_of_ble_eq_true rfl) dL_law_27 (fun H locs hM => ?_)
      refine lv_iconst (v := nI 3) hx hb dL_law_30 (by decide) ?_
      refine lv_icmp_ne (tgt := 47) hx hb dL_law_31 (by decide) (fun c8 => ?_) (fun c8 => ?_)
      · have h := cz_ite_f c8 h
        refine lv_iconst (v := nI 0) hx hb dL_law_47 (by decide) ?_
        cases h
      · have h := cz_ite_t c8 h
        refine lv_aload_n hx hb dL_law_34 rfl (lv_at hl 0 rfl) ?_
        refine lv_iconst (v := nI 3) hx hb dL_law_35 (by decide) ?_
        refine lv_iconst (v := nI 1) hx hb dL_law_36 (by decide) ?_
        obtain ⟨v9, hq, h⟩ := cz_bd_t h
        refine cz_TrunV (rest := []) (As := [.int (nI 3), .int (nI 1)]) (T := TX4) (N0 := 8) (Nat.le_of_ble_eq_true rfl) (Nat.le_of_ble_eq_true rfl) X hM hl.1 (c_X4_onShift (l := l) (g := g) (b := s.heap.size) ka1 hq) mv_X4_onShift rfl (by decide) ka1 ml_L_97 ⟨Nat.le_of_ble_eq_true rfl, Nat.le_of_ble_eq_true rfl⟩ rfl rfl (Nat.le_of_ble_eq_true rfl) dL_law_37 (fun H locs hM => ?_)
        refine lv_if_ne (tgt := 47) hx hb dL_law_40 (by decide) (fun c10 => ?_) (fun c10 => ?_)
        · have h := cz_ite_f c10 h
          refine lv_iconst (v := nI 0) hx hb dL_law_47 (by decide) ?_
          cases h
        · have h := cz_ite_t c10 h
          refine lv_iconst (v := nI 1) hx hb dL_law_43 (by decide) ?_
          refine lv_goto (tgt := 48) hx hb dL_law_44 (by decide) ?_
          refine lv_istore_n (lv' := [(2, .int (nI 1)), (1, .ref a1), (0, .ref bs)]) hx hb dL_law_48 rfl hl (by decide) rfl (fun ls hl => ?_)
          refine lv_aload_n hx hb dL_law_49 rfl (lv_at hl 2 rfl) ?_
          refine va_slen hx hb hXs hbs (Nat.not_le.mpr hbs) hM.2.2.1 dL_law_50 ?_
          refine lv_iconst (v := nI 3) hx hb dL_law_51 (by decide) ?_
          refine lv_idiv hx hb dL_law_52 (by decide) ?_
          refine lv_bipush (v := nI 34) hx hb dL_law_53 (by decide) ?_
          refine lv_icmp_le (tgt := 63) hx hb dL_law_55 (by decide) (fun c11 => ?_) (fun c11 => ?_)
          · have h := cz_ite_t c11 h
            refine lv_aload_n hx hb dL_law_63 rfl (lv_at hl 2 rfl) ?_
            refine va_slen hx hb hXs hbs (Nat.not_le.mpr hbs) hM.2.2.1 dL_law_64 ?_
            refine lv_iconst (v := nI 3) hx hb dL_law_65 (by decide) ?_
            refine lv_idiv hx hb dL_law_66 (by decide) ?_
            refine cz_nmil h (fun v12 h => ?_)
            refine lv_istore_n (lv' := [(3, .int v12), (2, .int (nI 1)), (1, .ref a1), (0, .ref bs)]) hx hb dL_law_67 rfl hl (by decide) rfl (fun ls hl => ?_)
            refine lv_iconst (v := nI 0) hx hb dL_law_68 (by decide) ?_
            refine lv_istore (lv' := [(4, .int (nI 0)), (3, .int v12), (2, .int (nI 1)), (1, .ref a1), (0, .ref bs)]) hx hb dL_law_69 hl (by decide) rfl (fun ls hl => ?_)
            refine w_L_law_L71 X hXs hbs ka1 4096 _ _ (by omega) (by omega) _ _ _ _ _ h hM (lv_sub hl [4, 3, 2, 1, 0] rfl)
          · have h := cz_ite_f c11 h
            refine lv_bipush (v := nI 34) hx hb dL_law_58 (by decide) ?_
            refine lv_goto (tgt := 67) hx hb dL_law_60 (by decide) ?_
            refine lv_istore_n (lv' := [(3, .int (nI 34)), (2, .int (nI 1)), (1, .ref a1), (0, .ref bs)]) hx hb dL_law_67 rfl hl (by decide) rfl (fun ls hl => ?_)
            refine lv_iconst (v := nI 0) hx hb dL_law_68 (by decide) ?_
            refine lv_istore (lv' := [(4, .int (nI 0)), (3, .int (nI 34)), (2, .int (nI 1)), (1, .ref a1), (0, .ref bs)]) hx hb dL_law_69 hl (by decide) rfl (fun ls hl => ?_)
            refine w_L_law_L71 X hXs hbs ka1 4096 _ _ (by omega) (by omega) _ _ _ _ _ h hM (lv_sub hl [4, 3, 2, 1, 0] rfl)
