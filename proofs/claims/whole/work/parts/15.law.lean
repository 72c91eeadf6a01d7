section LW
variable {p : Program} {l : Launch} {e : Env} {R : Room} {s : State} {m : MethodId} {args : Array Value} {below : List Frame} {meth : Method} {c : Code} {H : Heap} {locs : List Loc} {cells slots : Nat} {Q : State → Prop}
variable {cc : ByteArray} {pc nL : Nat} {ls : Array Slot} {rest : List Value} {g : cz_G} {b a : Nat} {own : String} {rt : Option FieldType} {M : cz_M} {α : Type} {res : α}
theorem cz_nmil {v : Int32} {K : Int32 → Option α} (h : cz_lt v K = some res) (kk : ∀ v : Int32, K v = some res → W p l e R s m args below meth c H locs cells slots Q (F0 m pc ls (.int v :: rest))) : W p l e R s m args below meth c H locs cells slots Q (F0 m pc ls (.int v :: rest)) := kk v h
theorem cz_sld {bs L : Nat} {xs : Nat → Int32} {i : Int32} {K : Option α} (hx : p.tables.exec = Jvm.exec) (hb : c.code = cc) (hX : va_X bs L xs s s.heap) (hbs : bs < s.heap.size) (hM : cz_WS g s.heap.size M s H locs) (h : cz_gd (cz_ib i L) K = some res) (hd : decode cc pc = .ok (.iaload, 1))
    (kk : K = some res → W p l e R s m args below meth c H locs cells slots Q (F0 m (pc + 1) ls (.int (xs i.toNatClampNeg) :: rest))) : W p l e R s m args below meth c H locs cells slots Q (F0 m pc ls (.int i :: .ref bs :: rest)) := by
  obtain ⟨hi, hK⟩ := cz_gd_t h
  exact va_sld hx hb hX hbs (Nat.not_le.mpr hbs) hM.2.2 (cz_ib_in hi) hd (kk hK)
theorem cz_backl {v : Option Value} {M1 : cz_M} {st0 : List Value} {a0 : Array Value} (hr : va_Run p l e R s m args below meth c H locs cells slots 0 0 (F0 m pc ls st0) rest (cz_Q g b v M1 a0) (fun q => b ≤ q)) (hM : cz_WS g b M s H locs)
    (kk : ∀ (H1 : Heap) (locs1 : List Loc), cz_WS g b M1 s H1 locs1 → W p l e R s m args below meth c H1 locs1 cells slots Q (F0 m (pc + 3) ls (v.toList ++ rest))) : W p l e R s m args below meth c H locs cells slots Q (F0 m pc ls st0) := by
  intro T hT X
  obtain ⟨v', st₀, t, T', L, h0, X', hL, e1, e2, ⟨⟨hv, hK1, hP1, hp1, -⟩, hz, hk⟩, st⟩ := hr T hT X
  cases hv
  rw [h0] at hz hk
  obtain ⟨hS1, hS2, hS3⟩ := hM.2.2
  obtain ⟨t2, a1, b1⟩ := kk T'.heap (locs ++ L) ⟨by rw [e1]; exact hP1, hp1, Nat.le_trans hS1 (by rw [e1]; exact hz), fun q h1 h2 => by rw [e1, hk q (Nat.lt_of_lt_of_le h1 hS1) h2]; exact hS2 q h1 h2, fun q hq => by
      rcases List.mem_append.mp hq with h | h
      · exact hS3 q h
      · exact hL q h⟩ T' rfl X'
  exact ⟨t2, st t2 a1, b1⟩
theorem cz_runVl (hcc : cells ≤ R.cells) (hss : slots ≤ R.slots) {y : MethodName} {cc' : ByteArray} {maxL n idx F N ci : Nat} {ret : Option FieldType} {C : String} {T : u_T} {N0 : Nat} {v : Option Value} {M1 : cz_M} {As st0 : List Value} (X : cz_X p s m args meth c cc nL own g b rt) (hM : cz_WS g b M s H locs) (hls : ls.size = nL) (hC : cz_C l y cc' maxL ret F N g b (.ref a :: As) M v M1) (hy : cz_MV y cc' maxL ret C n) (hci : vwCl[ci]? = some (C, T, N0)) (hc6 : ci < 6) (hk : cz_K b a ci) (hl : Cond.methodLink own idx y ∈ lw_gd)
    (hR : F + 1 ≤ R.frames ∧ 8 + (maxL + 11) + N ≤ R.locals) (hn : As.length = n) (hst : st0 = As.reverse ++ .ref a :: rest) (hro : (rest.map fun v => v.category).sum ≤ 8) (hd : decode cc pc = .ok (.invokevirtual idx, 3))
    (kk : ∀ (H1 : Heap) (locs1 : List Loc), cz_WS g b M1 s H1 locs1 → W p l e R s m args below meth c H1 locs1 cells slots Q (F0 m (pc + 3) ls (v.toList ++ rest))) : W p l e R s m args below meth c H locs cells slots Q (F0 m pc ls st0) := by
  have X0 := X
  obtain ⟨hx, hb, hml, ho, ht, hKK, -⟩ := X
  exact cz_backl (va_runV (As := As) (rest := rest) ⟨hx, hb, hml, ho, ht⟩ hC (cwV n ht (cz_inV hy hl) rfl rfl rfl hy.2.2.2.2 hR) ⟨cz_blind, va_recv hKK hM.1 hci (q0 := a - b) (by rw [cz_wl_get hk, cz_cel_obj hc6]), fun U hU hW => ⟨rfl, cz_pre X0 hM U hU hW⟩⟩ rfl hn hls hst (lv_room hro) hd ⟨hcc, hss⟩) hM kk
theorem cz_lret {bs : Nat} (X : cz_X p s m #[Value.ref bs] meth c code 4 own g s.heap.size ret) (hM : cz_WS g s.heap.size M s H locs) (hcc : cells ≤ room_1.cells) (hss : slots ≤ room_1.slots) (hd : decode code pc = .ok (.ireturn, 1)) : W p l e room_1 s m #[Value.ref bs] below meth c H locs cells slots (lw_Z below #[Value.ref bs] s) (F0 m pc ls [.int 1]) := by
  obtain ⟨hx, hb, hml, ho, ht, hKK, -, hr, hlk⟩ := X
  refine va_forget (fun q hq => hM.2.2.2.2 q hq) ?_
  refine W.widen (k := 600000) (n := 7302250) hcc hss ?_
  exact lw_ret hx hb hr hlk hd
end LW

def f_law_B (L : Nat) (xs : Nat → Int32) (a1 a2 : Nat) (rec : Int32 → cz_M → Option Unit) (x3 : Int32) (M : cz_M) : Option Unit :=
  if ((nI L) - (nI 3)) < x3 then (some ()) else (cz_gd (cz_ib x3 L) (cz_lt ((xs (Int32.toNatClampNeg x3)) &&& (nI 31)) fun v2 => if v2 = (nI 0) then (cz_gd (cz_ib (x3 + (nI 1)) L) (cz_gd (cz_ib (x3 + (nI 2)) L) (cz_b2 (f_X4_set M a1 (xs (Int32.toNatClampNeg (x3 + (nI 1)))) (xs (Int32.toNatClampNeg (x3 + (nI 2))))) fun v5 M4 => cz_gd (cz_ib (x3 + (nI 1)) L) (cz_gd (cz_ib (x3 + (nI 2)) L) (cz_b2 (f_X5_set M4 a2 (xs (Int32.toNatClampNeg (x3 + (nI 1)))) (xs (Int32.toNatClampNeg (x3 + (nI 2))))) fun v7 M6 => if v5 = v7 then (cz_lt (x3 + nI 3) fun v9 => rec v9 M6) else (none)))))) else (if v2 = (nI 1) then (cz_gd (cz_ib (x3 + (nI 1)) L) (cz_gd (cz_ib (x3 + (nI 2)) L) (cz_b2 (f_X4_strike M a1 (xs (Int32.toNatClampNeg (x3 + (nI 1)))) (xs (Int32.toNatClampNeg (x3 + (nI 2))))) fun v13 M12 => cz_gd (cz_ib (x3 + (nI 1)) L) (cz_gd (cz_ib (x3 + (nI 2)) L) (cz_b2 (f_X5_strike M12 a2 (xs (Int32.toNatClampNeg (x3 + (nI 1)))) (xs (Int32.toNatClampNeg (x3 + (nI 2))))) fun v15 M14 => if v13 = v15 then (cz_lt (x3 + nI 3) fun v17 => rec v17 M14) else (none)))))) else (if v2 = (nI 2) then (cz_gd (cz_ib (x3 + (nI 1)) L) (cz_gd (cz_ib (x3 + (nI 2)) L) (cz_b2 (f_X4_trade M a1 (xs (Int32.toNatClampNeg (x3 + (nI 1)))) (xs (Int32.toNatClampNeg (x3 + (nI 2))))) fun v21 M20 => cz_gd (cz_ib (x3 + (nI 1)) L) (cz_gd (cz_ib (x3 + (nI 2)) L) (cz_b2 (f_X5_trade M20 a2 (xs (Int32.toNatClampNeg (x3 + (nI 1)))) (xs (Int32.toNatClampNeg (x3 + (nI 2))))) fun v23 M22 => if v21 = v23 then (cz_lt (x3 + nI 3) fun v25 => rec v25 M22) else (none)))))) else (if v2 = (nI 3) then (cz_b2 (f_X4_read M a1) fun v29 M28 => cz_b2 (f_X5_read M28 a2) fun v31 M30 => if v29 = v31 then (cz_lt (x3 + nI 3) fun v33 => rec v33 M30) else (none)) else (if v2 = (nI 4) then (cz_gd (cz_ib (x3 + (nI 1)) L) (cz_b2 (f_X4_burn M a1 (xs (Int32.toNatClampNeg (x3 + (nI 1))))) fun v37 M36 => cz_gd (cz_ib (x3 + (nI 1)) L) (cz_b2 (f_X5_burn M36 a2 (xs (Int32.toNatClampNeg (x3 + (nI 1))))) fun v39 M38 => if v37 = v39 then (cz_lt (x3 + nI 3) fun v41 => rec v41 M38) else (none)))) else (if v2 = (nI 5) then (cz_gd (cz_ib (x3 + (nI 1)) L) (cz_b2 (f_X4_pass M a1 (xs (Int32.toNatClampNeg (x3 + (nI 1))))) fun v45 M44 => cz_gd (cz_ib (x3 + (nI 1)) L) (cz_b2 (f_X5_pass M44 a2 (xs (Int32.toNatClampNeg (x3 + (nI 1))))) fun v47 M46 => if v45 = v47 then (cz_lt (x3 + nI 3) fun v49 => rec v49 M46) else (none)))) else (if v2 = (nI 6) then (cz_gd (cz_ib (x3 + (nI 1)) L) (cz_gd (cz_ib (x3 + (nI 2)) L) ((f_X4_letter M a1 (xs (Int32.toNatClampNeg (x3 + (nI 1)))) (xs (Int32.toNatClampNeg (x3 + (nI 2))))).bind fun v52 => cz_gd (cz_ib (x3 + (nI 1)) L) (cz_gd (cz_ib (x3 + (nI 2)) L) ((f_X5_letter M a2 (xs (Int32.toNatClampNeg (x3 + (nI 1)))) (xs (Int32.toNatClampNeg (x3 + (nI 2))))).bind fun v53 => if v52 = v53 then (cz_lt (x3 + nI 3) fun v55 => rec v55 M) else (none)))))) else (if v2 = (nI 7) then (cz_gd (cz_ib (x3 + (nI 1)) L) (cz_gd (cz_ib (x3 + (nI 2)) L) ((f_X4_word M a1 (xs (Int32.toNatClampNeg (x3 + (nI 1)))) (xs (Int32.toNatClampNeg (x3 + (nI 2))))).bind fun v58 => cz_gd (cz_ib (x3 + (nI 1)) L) (cz_gd (cz_ib (x3 + (nI 2)) L) ((f_X5_word M a2 (xs (Int32.toNatClampNeg (x3 + (nI 1)))) (xs (Int32.toNatClampNeg (x3 + (nI 2))))).bind fun v59 => if v58 = v59 then (cz_lt (x3 + nI 3) fun v61 => rec v61 M) else (none)))))) else (if v2 = (nI 8) then (cz_gd (cz_ib (x3 + (nI 1)) L) (cz_b2 (f_X4_why M a1 (xs (Int32.toNatClampNeg (x3 + (nI 1))))) fun v65 M64 => cz_gd (cz_ib (x3 + (nI 1)) L) (cz_b2 (f_X5_why M64 a2 (xs (Int32.toNatClampNeg (x3 + (nI 1))))) fun v67 M66 => if v65 = v67 then (cz_lt (x3 + nI 3) fun v69 => rec v69 M66) else (none)))) else (if v2 = (nI 9) then (cz_gd (cz_ib (x3 + (nI 1)) L) (cz_gd (cz_ib (x3 + (nI 2)) L) ((f_X4_censor M a1 (xs (Int32.toNatClampNeg (x3 + (nI 1)))) (xs (Int32.toNatClampNeg (x3 + (nI 2))))).bind fun v72 => cz_gd (cz_ib (x3 + (nI 1)) L) (cz_gd (cz_ib (x3 + (nI 2)) L) ((f_X5_censor M a2 (xs (Int32.toNatClampNeg (x3 + (nI 1)))) (xs (Int32.toNatClampNeg (x3 + (nI 2))))).bind fun v73 => if v72 = v73 then (cz_lt (x3 + nI 3) fun v75 => rec v75 M) else (none)))))) else (if v2 = (nI 10) then (cz_gd (cz_ib (x3 + (nI 1)) L) (cz_gd (cz_ib (x3 + (nI 2)) L) ((f_X4_onShift M a1 (xs (Int32.toNatClampNeg (x3 + (nI 1)))) (xs (Int32.toNatClampNeg (x3 + (nI 2))))).bind fun v78 => cz_gd (cz_ib (x3 + (nI 1)) L) (cz_gd (cz_ib (x3 + (nI 2)) L) ((f_X5_onShift M a2 (xs (Int32.toNatClampNeg (x3 + (nI 1)))) (xs (Int32.toNatClampNeg (x3 + (nI 2))))).bind fun v79 => if v78 = v79 then (cz_lt (x3 + nI 3) fun v81 => rec v81 M) else (none)))))) else (if v2 = (nI 11) then (cz_gd (cz_ib (x3 + (nI 1)) L) (cz_b2 (f_X4_count M a1 (xs (Int32.toNatClampNeg (x3 + (nI 1))))) fun v85 M84 => cz_gd (cz_ib (x3 + (nI 1)) L) ((f_X5_count M84 a2 (xs (Int32.toNatClampNeg (x3 + (nI 1))))).bind fun v86 => if v85 = v86 then (cz_lt (x3 + nI 3) fun v88 => rec v88 M84) else (none)))) else (if v2 = (nI 12) then (cz_gd (cz_ib (x3 + (nI 1)) L) (cz_b2 (f_X4_untilCome M a1 (xs (Int32.toNatClampNeg (x3 + (nI 1))))) fun v92 M91 => cz_gd (cz_ib (x3 + (nI 1)) L) (cz_b2 (f_X5_untilCome M91 a2 (xs (Int32.toNatClampNeg (x3 + (nI 1))))) fun v94 M93 => if v92 = v94 then (cz_lt (x3 + nI 3) fun v96 => rec v96 M93) else (none)))) else (if v2 = (nI 13) then (cz_gd (cz_ib (x3 + (nI 1)) L) (cz_gd (cz_ib (x3 + (nI 2)) L) (cz_b2 (f_X4_ifPassed M a1 (xs (Int32.toNatClampNeg (x3 + (nI 1)))) (xs (Int32.toNatClampNeg (x3 + (nI 2))))) fun v100 M99 => cz_gd (cz_ib (x3 + (nI 1)) L) (cz_gd (cz_ib (x3 + (nI 2)) L) (cz_b2 (f_X5_ifPassed M99 a2 (xs (Int32.toNatClampNeg (x3 + (nI 1)))) (xs (Int32.toNatClampNeg (x3 + (nI 2))))) fun v102 M101 => if v100 = v102 then (cz_lt (x3 + nI 3) fun v104 => rec v104 M101) else (none)))))) else (if v2 = (nI 14) then (cz_b2 (f_X4_bestTrade M a1) fun v108 M107 => cz_b2 (f_X5_bestTrade M107 a2) fun v110 M109 => if v108 = v110 then (cz_lt (x3 + nI 3) fun v112 => rec v112 M109) else (none)) else (if v2 = (nI 15) then (cz_b2 (f_X4_leastLimit M a1) fun v116 M115 => cz_b2 (f_X5_leastLimit M115 a2) fun v118 M117 => if v116 = v118 then (cz_lt (x3 + nI 3) fun v120 => rec v120 M117) else (none)) else (if v2 = (nI 16) then (cz_gd (cz_ib (x3 + (nI 1)) L) (cz_gd (cz_ib (x3 + (nI 2)) L) (cz_b2 (f_X4_put M a1 ((cz_sl (Int32.toInt64 (xs (Int32.toNatClampNeg (x3 + (nI 1))))) (nI 32)) ||| ((Int32.toInt64 (xs (Int32.toNatClampNeg (x3 + (nI 2))))) &&& (4294967295 : Int64)))) fun v124 M123 => cz_gd (cz_ib (x3 + (nI 1)) L) (cz_gd (cz_ib (x3 + (nI 2)) L) (cz_b2 (f_X5_put M123 a2 ((cz_sl (Int32.toInt64 (xs (Int32.toNatClampNeg (x3 + (nI 1))))) (nI 32)) ||| ((Int32.toInt64 (xs (Int32.toNatClampNeg (x3 + (nI 2))))) &&& (4294967295 : Int64)))) fun v126 M125 => if v124 = v126 then (cz_lt (x3 + nI 3) fun v128 => rec v128 M125) else (none)))))) else (if v2 = (nI 17) then (cz_b2 (f_X4_wipe M a1) fun v132 M131 => cz_b2 (f_X5_wipe M131 a2) fun v134 M133 => if v132 = v134 then (cz_lt (x3 + nI 3) fun v136 => rec v136 M133) else (none)) else (if v2 = (nI 18) then ((f_X4_fault M a1).bind fun v139 => cz_b2 (f_X5_fault M a2) fun v141 M140 => if v139 = v141 then (cz_lt (x3 + nI 3) fun v143 => rec v143 M140) else (none)) else (if v2 = (nI 19) then (cz_b2 (f_X4_undo M a1) fun v147 M146 => cz_b2 (f_X5_undo M146 a2) fun v149 M148 => if v147 = v149 then (cz_lt (x3 + nI 3) fun v151 => rec v151 M148) else (none)) else (if v2 = (nI 20) then (cz_gd (cz_ib (x3 + (nI 1)) L) (cz_b2 (f_X4_save M a1 (xs (Int32.toNatClampNeg (x3 + (nI 1))))) fun v155 M154 => cz_gd (cz_ib (x3 + (nI 1)) L) (cz_b2 (f_X5_save M154 a2 (xs (Int32.toNatClampNeg (x3 + (nI 1))))) fun v157 M156 => if v155 = v157 then (cz_lt (x3 + nI 3) fun v159 => rec v159 M156) else (none)))) else (if v2 = (nI 21) then (cz_gd (cz_ib (x3 + (nI 1)) L) (cz_b2 (f_X4_restore M a1 (xs (Int32.toNatClampNeg (x3 + (nI 1))))) fun v163 M162 => cz_gd (cz_ib (x3 + (nI 1)) L) (cz_b2 (f_X5_restore M162 a2 (xs (Int32.toNatClampNeg (x3 + (nI 1))))) fun v165 M164 => if v163 = v165 then (cz_lt (x3 + nI 3) fun v167 => rec v167 M164) else (none)))) else (cz_lt (x3 + nI 3) fun v169 => rec v169 M))))))))))))))))))))))))
set_option maxHeartbeats 8000000 in
set_option maxRecDepth 100000 in
theorem w_law {p : Program} {l : Launch} {e : Env} {s : State} {m : MethodId} {below : List Frame} {meth : Method} {c : Code} {g : cz_G} {bs L cells slots : Nat} {xs : Nat → Int32} (X : cz_X p s m #[Value.ref bs] meth c code 4 RL g s.heap.size ret) (hXs : va_X bs L xs s s.heap) (hbs : bs < s.heap.size) (hcc : cells ≤ room_1.cells) (hss : slots ≤ room_1.slots) {a1 a2 : Nat} (ka1 : cz_K s.heap.size a1 4) (ka2 : cz_K s.heap.size a2 5) :
    ∀ (n : Nat) (x3 : Int32) (M : cz_M) (H : Heap) (locs : List Loc) (ls : Array Slot), cz_it2 (f_law_B L xs a1 a2) n x3 M = some () → cz_WS g s.heap.size M s H locs → lv_has ls 4 [(0, .ref bs), (1, .ref a1), (2, .ref a2), (3, .int x3)] → W p l e room_1 s m #[Value.ref bs] below meth c H locs cells slots (lw_Z below #[Value.ref bs] s) (F0 m 18 ls []) := by
  obtain ⟨hx, hb, -, ho, ht, -⟩ := id X
  intro n
  induction n with
  | zero => intro x3 M H locs ls h; cases (show none = some _ from h)
  | succ n ih =>
    intro x3 M H locs ls h hM hl
    have h : f_law_B L xs a1 a2 (cz_it2 (f_law_B L xs a1 a2) n) x3 M = some () := h
    rw [f_law_B] at h
    refine lv_iload_n hx hb dL_law_18 rfl (lv_at hl 3 rfl) ?_
    refine lv_aload_n hx hb dL_law_19 rfl (lv_at hl 0 rfl) ?_
    refine va_slen hx hb hXs hbs (Nat.not_le.mpr hbs) hM.2.2 dL_law_20 ?_
    refine lv_iconst (v := nI 3) hx hb dL_law_21 (by decide) ?_
    refine lv_isub hx hb dL_law_22 ?_
    refine lv_icmp_gt (tgt := 698) hx hb dL_law_23 (by decide) (fun c1 => ?_) (fun c1 => ?_)
    · have h := cz_ite_t c1 h
      refine lv_iconst (v := nI 1) hx hb dL_law_698 (by decide) ?_
      exact cz_lret X hM hcc hss dL_law_699
    · have h := cz_ite_f c1 h
      refine lv_aload_n hx hb dL_law_26 rfl (lv_at hl 0 rfl) ?_
      refine lv_iload_n hx hb dL_law_27 rfl (lv_at hl 3 rfl) ?_
      refine cz_sld hx hb hXs hbs hM h dL_law_28 (fun h => ?_)
      refine lv_bipush (v := nI 31) hx hb dL_law_29 (by decide) ?_
      refine lv_iand hx hb dL_law_31 ?_
      refine cz_nmil h (fun v2 h => ?_)
      by_cases c3 : v2 = (nI 0)
      · have h := cz_ite_t c3 h
        refine lv_tableIn (off := 104) (tgt := 136) hx hb dL_law_32 (by rw [c3]; decide) (by rw [c3]; decide) (by rw [c3]; rfl) (by decide) ?_
        refine lv_aload_n hx hb dL_law_136 rfl (lv_at hl 1 rfl) ?_
        refine lv_aload_n hx hb dL_law_137 rfl (lv_at hl 0 rfl) ?_
        refine lv_iload_n hx hb dL_law_138 rfl (lv_at hl 3 rfl) ?_
        refine lv_iconst (v := nI 1) hx hb dL_law_139 (by decide) ?_
        refine lv_iadd hx hb dL_law_140 ?_
        refine cz_sld hx hb hXs hbs hM h dL_law_141 (fun h => ?_)
        refine lv_aload_n hx hb dL_law_142 rfl (lv_at hl 0 rfl) ?_
        refine lv_iload_n hx hb dL_law_143 rfl (lv_at hl 3 rfl) ?_
        refine lv_iconst (v := nI 2) hx hb dL_law_144 (by decide) ?_
        refine lv_iadd hx hb dL_law_145 ?_
        refine cz_sld hx hb hXs hbs hM h dL_law_146 (fun h => ?_)
        obtain ⟨v5, M4, hq, h⟩ := cz_b2_t h
        refine cz_runVl hcc hss (rest := []) (As := [.int (xs (Int32.toNatClampNeg (x3 + (nI 1)))), .int (xs (Int32.toNatClampNeg (x3 + (nI 2))))]) (T := TX4) (N0 := 8) X hM hl.1 (c_X4_set (l := l) (g := g) (b := s.heap.size) ka1 hq) mv_X4_set rfl (by decide) ka1 ml_L_13 ⟨Nat.le_of_ble_eq_true rfl, Nat.le_of_ble_eq_true rfl⟩ rfl rfl (Nat.le_of_ble_eq_true rfl) dL_law_147 (fun H locs hM => ?_)
        refine lv_aload_n hx hb dL_law_150 rfl (lv_at hl 2 rfl) ?_
        refine lv_aload_n hx hb dL_law_151 rfl (lv_at hl 0 rfl) ?_
        refine lv_iload_n hx hb dL_law_152 rfl (lv_at hl 3 rfl) ?_
        refine lv_iconst (v := nI 1) hx hb dL_law_153 (by decide) ?_
        refine lv_iadd hx hb dL_law_154 ?_
        refine cz_sld hx hb hXs hbs hM h dL_law_155 (fun h => ?_)
        refine lv_aload_n hx hb dL_law_156 rfl (lv_at hl 0 rfl) ?_
        refine lv_iload_n hx hb dL_law_157 rfl (lv_at hl 3 rfl) ?_
        refine lv_iconst (v := nI 2) hx hb dL_law_158 (by decide) ?_
        refine lv_iadd hx hb dL_law_159 ?_
        refine cz_sld hx hb hXs hbs hM h dL_law_160 (fun h => ?_)
        obtain ⟨v7, M6, hq, h⟩ := cz_b2_t h
        refine cz_runVl hcc hss (rest := [.int v5]) (As := [.int (xs (Int32.toNatClampNeg (x3 + (nI 1)))), .int (xs (Int32.toNatClampNeg (x3 + (nI 2))))]) (T := TX5) (N0 := 12) X hM hl.1 (c_X5_set (l := l) (g := g) (b := s.heap.size) ka2 hq) mv_X5_set rfl (by decide) ka2 ml_L_17 ⟨Nat.le_of_ble_eq_true rfl, Nat.le_of_ble_eq_true rfl⟩ rfl rfl (Nat.le_of_ble_eq_true rfl) dL_law_161 (fun H locs hM => ?_)
        refine lv_icmp_eq (tgt := 692) hx hb dL_law_164 (by decide) (fun c8 => ?_) (fun c8 => ?_)
        · have h := cz_ite_t c8 h
          refine cz_nmL (v := x3 + nI 3) h (fun v9 e10 h => ?_)
          refine lv_iinc (v := v9) (lv' := [(3, .int v9), (0, .ref bs), (1, .ref a1), (2, .ref a2)]) hx hb dL_law_692 hl (k := 3) rfl (by rw [e10]; rfl) (by decide) rfl (fun ls hl => ?_)
          refine lv_goto (tgt := 18) hx hb dL_law_695 (by decide) ?_
          exact ih _ _ _ _ _ h hM (lv_sub hl [1, 2, 3, 0] rfl)
        · have h := cz_ite_f c8 h
          refine lv_iconst (v := nI 0) hx hb dL_law_167 (by decide) ?_
          cases h
      have h := cz_ite_f c3 h
      by_cases c11 : v2 = (nI 1)
      · have h := cz_ite_t c11 h
        refine lv_tableIn (off := 137) (tgt := 169) hx hb dL_law_32 (by rw [c11]; decide) (by rw [c11]; decide) (by rw [c11]; rfl) (by decide) ?_
        refine lv_aload_n hx hb dL_law_169 rfl (lv_at hl 1 rfl) ?_
        refine lv_aload_n hx hb dL_law_170 rfl (lv_at hl 0 rfl) ?_
        refine lv_iload_n hx hb dL_law_171 rfl (lv_at hl 3 rfl) ?_
        refine lv_iconst (v := nI 1) hx hb dL_law_172 (by decide) ?_
        refine lv_iadd hx hb dL_law_173 ?_
        refine cz_sld hx hb hXs hbs hM h dL_law_174 (fun h => ?_)
        refine lv_aload_n hx hb dL_law_175 rfl (lv_at hl 0 rfl) ?_
        refine lv_iload_n hx hb dL_law_176 rfl (lv_at hl 3 rfl) ?_
        refine lv_iconst (v := nI 2) hx hb dL_law_177 (by decide) ?_
        refine lv_iadd hx hb dL_law_178 ?_
        refine cz_sld hx hb hXs hbs hM h dL_law_179 (fun h => ?_)
        obtain ⟨v13, M12, hq, h⟩ := cz_b2_t h
        refine cz_runVl hcc hss (rest := []) (As := [.int (xs (Int32.toNatClampNeg (x3 + (nI 1)))), .int (xs (Int32.toNatClampNeg (x3 + (nI 2))))]) (T := TX4) (N0 := 8) X hM hl.1 (c_X4_strike (l := l) (g := g) (b := s.heap.size) ka1 hq) mv_X4_strike rfl (by decide) ka1 ml_L_18 ⟨Nat.le_of_ble_eq_true rfl, Nat.le_of_ble_eq_true rfl⟩ rfl rfl (Nat.le_of_ble_eq_true rfl) dL_law_180 (fun H locs hM => ?_)
        refine lv_aload_n hx hb dL_law_183 rfl (lv_at hl 2 rfl) ?_
        refine lv_aload_n hx hb dL_law_184 rfl (lv_at hl 0 rfl) ?_
        refine lv_iload_n hx hb dL_law_185 rfl (lv_at hl 3 rfl) ?_
        refine lv_iconst (v := nI 1) hx hb dL_law_186 (by decide) ?_
        refine lv_iadd hx hb dL_law_187 ?_
        refine cz_sld hx hb hXs hbs hM h dL_law_188 (fun h => ?_)
        refine lv_aload_n hx hb dL_law_189 rfl (lv_at hl 0 rfl) ?_
        refine lv_iload_n hx hb dL_law_190 rfl (lv_at hl 3 rfl) ?_
        refine lv_iconst (v := nI 2) hx hb dL_law_191 (by decide) ?_
        refine lv_iadd hx hb dL_law_192 ?_
        refine cz_sld hx hb hXs hbs hM h dL_law_193 (fun h => ?_)
        obtain ⟨v15, M14, hq, h⟩ := cz_b2_t h
        refine cz_runVl hcc hss (rest := [.int v13]) (As := [.int (xs (Int32.toNatClampNeg (x3 + (nI 1)))), .int (xs (Int32.toNatClampNeg (x3 + (nI 2))))]) (T := TX5) (N0 := 12) X hM hl.1 (c_X5_strike (l := l) (g := g) (b := s.heap.size) ka2 hq) mv_X5_strike rfl (by decide) ka2 ml_L_21 ⟨Nat.le_of_ble_eq_true rfl, Nat.le_of_ble_eq_true rfl⟩ rfl rfl (Nat.le_of_ble_eq_true rfl) dL_law_194 (fun H locs hM => ?_)
        refine lv_icmp_eq (tgt := 692) hx hb dL_law_197 (by decide) (fun c16 => ?_) (fun c16 => ?_)
        · have h := cz_ite_t c16 h
          refine cz_nmL (v := x3 + nI 3) h (fun v17 e18 h => ?_)
          refine lv_iinc (v := v17) (lv' := [(3, .int v17), (0, .ref bs), (1, .ref a1), (2, .ref a2)]) hx hb dL_law_692 hl (k := 3) rfl (by rw [e18]; rfl) (by decide) rfl (fun ls hl => ?_)
          refine lv_goto (tgt := 18) hx hb dL_law_695 (by decide) ?_
          exact ih _ _ _ _ _ h hM (lv_sub hl [1, 2, 3, 0] rfl)
        · have h := cz_ite_f c16 h
          refine lv_iconst (v := nI 0) hx hb dL_law_200 (by decide) ?_
          cases h
      have h := cz_ite_f c11 h
      by_cases c19 : v2 = (nI 2)
      · have h := cz_ite_t c19 h
        refine lv_tableIn (off := 170) (tgt := 202) hx hb dL_law_32 (by rw [c19]; decide) (by rw [c19]; decide) (by rw [c19]; rfl) (by decide) ?_
        refine lv_aload_n hx hb dL_law_202 rfl (lv_at hl 1 rfl) ?_
        refine lv_aload_n hx hb dL_law_203 rfl (lv_at hl 0 rfl) ?_
        refine lv_iload_n hx hb dL_law_204 rfl (lv_at hl 3 rfl) ?_
        refine lv_iconst (v := nI 1) hx hb dL_law_205 (by decide) ?_
        refine lv_iadd hx hb dL_law_206 ?_
        refine cz_sld hx hb hXs hbs hM h dL_law_207 (fun h => ?_)
        refine lv_aload_n hx hb dL_law_208 rfl (lv_at hl 0 rfl) ?_
        refine lv_iload_n hx hb dL_law_209 rfl (lv_at hl 3 rfl) ?_
        refine lv_iconst (v := nI 2) hx hb dL_law_210 (by decide) ?_
        refine lv_iadd hx hb dL_law_211 ?_
        refine cz_sld hx hb hXs hbs hM h dL_law_212 (fun h => ?_)
        obtain ⟨v21, M20, hq, h⟩ := cz_b2_t h
        refine cz_runVl hcc hss (rest := []) (As := [.int (xs (Int32.toNatClampNeg (x3 + (nI 1)))), .int (xs (Int32.toNatClampNeg (x3 + (nI 2))))]) (T := TX4) (N0 := 8) X hM hl.1 (c_X4_trade (l := l) (g := g) (b := s.heap.size) ka1 hq) mv_X4_trade rfl (by decide) ka1 ml_L_22 ⟨Nat.le_of_ble_eq_true rfl, Nat.le_of_ble_eq_true rfl⟩ rfl rfl (Nat.le_of_ble_eq_true rfl) dL_law_213 (fun H locs hM => ?_)
        refine lv_aload_n hx hb dL_law_216 rfl (lv_at hl 2 rfl) ?_
        refine lv_aload_n hx hb dL_law_217 rfl (lv_at hl 0 rfl) ?_
        refine lv_iload_n hx hb dL_law_218 rfl (lv_at hl 3 rfl) ?_
        refine lv_iconst (v := nI 1) hx hb dL_law_219 (by decide) ?_
        refine lv_iadd hx hb dL_law_220 ?_
        refine cz_sld hx hb hXs hbs hM h dL_law_221 (fun h => ?_)
        refine lv_aload_n hx hb dL_law_222 rfl (lv_at hl 0 rfl) ?_
        refine lv_iload_n hx hb dL_law_223 rfl (lv_at hl 3 rfl) ?_
        refine lv_iconst (v := nI 2) hx hb dL_law_224 (by decide) ?_
        refine lv_iadd hx hb dL_law_225 ?_
        refine cz_sld hx hb hXs hbs hM h dL_law_226 (fun h => ?_)
        obtain ⟨v23, M22, hq, h⟩ := cz_b2_t h
        refine cz_runVl hcc hss (rest := [.int v21]) (As := [.int (xs (Int32.toNatClampNeg (x3 + (nI 1)))), .int (xs (Int32.toNatClampNeg (x3 + (nI 2))))]) (T := TX5) (N0 := 12) X hM hl.1 (c_X5_trade (l := l) (g := g) (b := s.heap.size) ka2 hq) mv_X5_trade rfl (by decide) ka2 ml_L_25 ⟨Nat.le_of_ble_eq_true rfl, Nat.le_of_ble_eq_true rfl⟩ rfl rfl (Nat.le_of_ble_eq_true rfl) dL_law_227 (fun H locs hM => ?_)
        refine lv_icmp_eq (tgt := 692) hx hb dL_law_230 (by decide) (fun c24 => ?_) (fun c24 => ?_)
        · have h := cz_ite_t c24 h
          refine cz_nmL (v := x3 + nI 3) h (fun v25 e26 h => ?_)
          refine lv_iinc (v := v25) (lv' := [(3, .int v25), (0, .ref bs), (1, .ref a1), (2, .ref a2)]) hx hb dL_law_692 hl (k := 3) rfl (by rw [e26]; rfl) (by decide) rfl (fun ls hl => ?_)
          refine lv_goto (tgt := 18) hx hb dL_law_695 (by decide) ?_
          exact ih _ _ _ _ _ h hM (lv_sub hl [1, 2, 3, 0] rfl)
        · have h := cz_ite_f c24 h
          refine lv_iconst (v := nI 0) hx hb dL_law_233 (by decide) ?_
          cases h
      have h := cz_ite_f c19 h
      by_cases c27 : v2 = (nI 3)
      · have h := cz_ite_t c27 h
        refine lv_tableIn (off := 203) (tgt := 235) hx hb dL_law_32 (by rw [c27]; decide) (by rw [c27]; decide) (by rw [c27]; rfl) (by decide) ?_
        refine lv_aload_n hx hb dL_law_235 rfl (lv_at hl 1 rfl) ?_
        obtain ⟨v29, M28, hq, h⟩ := cz_b2_t h
        refine cz_runVl hcc hss (rest := []) (As := []) (T := TX4) (N0 := 8) X hM hl.1 (c_X4_read (l := l) (g := g) (b := s.heap.size) ka1 hq) mv_X4_read rfl (by decide) ka1 ml_L_26 ⟨Nat.le_of_ble_eq_true rfl, Nat.le_of_ble_eq_true rfl⟩ rfl rfl (Nat.le_of_ble_eq_true rfl) dL_law_236 (fun H locs hM => ?_)
        refine lv_aload_n hx hb dL_law_239 rfl (lv_at hl 2 rfl) ?_
        obtain ⟨v31, M30, hq, h⟩ := cz_b2_t h
        refine cz_runVl hcc hss (rest := [.int v29]) (As := []) (T := TX5) (N0 := 12) X hM hl.1 (c_X5_read (l := l) (g := g) (b := s.heap.size) ka2 hq) mv_X5_read rfl (by decide) ka2 ml_L_30 ⟨Nat.le_of_ble_eq_true rfl, Nat.le_of_ble_eq_true rfl⟩ rfl rfl (Nat.le_of_ble_eq_true rfl) dL_law_240 (fun H locs hM => ?_)
        refine lv_icmp_eq (tgt := 692) hx hb dL_law_243 (by decide) (fun c32 => ?_) (fun c32 => ?_)
        · have h := cz_ite_t c32 h
          refine cz_nmL (v := x3 + nI 3) h (fun v33 e34 h => ?_)
          refine lv_iinc (v := v33) (lv' := [(3, .int v33), (0, .ref bs), (1, .ref a1), (2, .ref a2)]) hx hb dL_law_692 hl (k := 3) rfl (by rw [e34]; rfl) (by decide) rfl (fun ls hl => ?_)
          refine lv_goto (tgt := 18) hx hb dL_law_695 (by decide) ?_
          exact ih _ _ _ _ _ h hM (lv_sub hl [1, 2, 3, 0] rfl)
        · have h := cz_ite_f c32 h
          refine lv_iconst (v := nI 0) hx hb dL_law_246 (by decide) ?_
          cases h
      have h := cz_ite_f c27 h
      by_cases c35 : v2 = (nI 4)
      · have h := cz_ite_t c35 h
        refine lv_tableIn (off := 216) (tgt := 248) hx hb dL_law_32 (by rw [c35]; decide) (by rw [c35]; decide) (by rw [c35]; rfl) (by decide) ?_
        refine lv_aload_n hx hb dL_law_248 rfl (lv_at hl 1 rfl) ?_
        refine lv_aload_n hx hb dL_law_249 rfl (lv_at hl 0 rfl) ?_
        refine lv_iload_n hx hb dL_law_250 rfl (lv_at hl 3 rfl) ?_
        refine lv_iconst (v := nI 1) hx hb dL_law_251 (by decide) ?_
        refine lv_iadd hx hb dL_law_252 ?_
        refine cz_sld hx hb hXs hbs hM h dL_law_253 (fun h => ?_)
        obtain ⟨v37, M36, hq, h⟩ := cz_b2_t h
        refine cz_runVl hcc hss (rest := []) (As := [.int (xs (Int32.toNatClampNeg (x3 + (nI 1))))]) (T := TX4) (N0 := 8) X hM hl.1 (c_X4_burn (l := l) (g := g) (b := s.heap.size) ka1 hq) mv_X4_burn rfl (by decide) ka1 ml_L_31 ⟨Nat.le_of_ble_eq_true rfl, Nat.le_of_ble_eq_true rfl⟩ rfl rfl (Nat.le_of_ble_eq_true rfl) dL_law_254 (fun H locs hM => ?_)
        refine lv_aload_n hx hb dL_law_257 rfl (lv_at hl 2 rfl) ?_
        refine lv_aload_n hx hb dL_law_258 rfl (lv_at hl 0 rfl) ?_
        refine lv_iload_n hx hb dL_law_259 rfl (lv_at hl 3 rfl) ?_
        refine lv_iconst (v := nI 1) hx hb dL_law_260 (by decide) ?_
        refine lv_iadd hx hb dL_law_261 ?_
        refine cz_sld hx hb hXs hbs hM h dL_law_262 (fun h => ?_)
        obtain ⟨v39, M38, hq, h⟩ := cz_b2_t h
        refine cz_runVl hcc hss (rest := [.int v37]) (As := [.int (xs (Int32.toNatClampNeg (x3 + (nI 1))))]) (T := TX5) (N0 := 12) X hM hl.1 (c_X5_burn (l := l) (g := g) (b := s.heap.size) ka2 hq) mv_X5_burn rfl (by decide) ka2 ml_L_35 ⟨Nat.le_of_ble_eq_true rfl, Nat.le_of_ble_eq_true rfl⟩ rfl rfl (Nat.le_of_ble_eq_true rfl) dL_law_263 (fun H locs hM => ?_)
        refine lv_icmp_eq (tgt := 692) hx hb dL_law_266 (by decide) (fun c40 => ?_) (fun c40 => ?_)
        · have h := cz_ite_t c40 h
          refine cz_nmL (v := x3 + nI 3) h (fun v41 e42 h => ?_)
          refine lv_iinc (v := v41) (lv' := [(3, .int v41), (0, .ref bs), (1, .ref a1), (2, .ref a2)]) hx hb dL_law_692 hl (k := 3) rfl (by rw [e42]; rfl) (by decide) rfl (fun ls hl => ?_)
          refine lv_goto (tgt := 18) hx hb dL_law_695 (by decide) ?_
          exact ih _ _ _ _ _ h hM (lv_sub hl [1, 2, 3, 0] rfl)
        · have h := cz_ite_f c40 h
          refine lv_iconst (v := nI 0) hx hb dL_law_269 (by decide) ?_
          cases h
      have h := cz_ite_f c35 h
      by_cases c43 : v2 = (nI 5)
      · have h := cz_ite_t c43 h
        refine lv_tableIn (off := 239) (tgt := 271) hx hb dL_law_32 (by rw [c43]; decide) (by rw [c43]; decide) (by rw [c43]; rfl) (by decide) ?_
        refine lv_aload_n hx hb dL_law_271 rfl (lv_at hl 1 rfl) ?_
        refine lv_aload_n hx hb dL_law_272 rfl (lv_at hl 0 rfl) ?_
        refine lv_iload_n hx hb dL_law_273 rfl (lv_at hl 3 rfl) ?_
        refine lv_iconst (v := nI 1) hx hb dL_law_274 (by decide) ?_
        refine lv_iadd hx hb dL_law_275 ?_
        refine cz_sld hx hb hXs hbs hM h dL_law_276 (fun h => ?_)
        obtain ⟨v45, M44, hq, h⟩ := cz_b2_t h
        refine cz_runVl hcc hss (rest := []) (As := [.int (xs (Int32.toNatClampNeg (x3 + (nI 1))))]) (T := TX4) (N0 := 8) X hM hl.1 (c_X4_pass (l := l) (g := g) (b := s.heap.size) ka1 hq) mv_X4_pass rfl (by decide) ka1 ml_L_36 ⟨Nat.le_of_ble_eq_true rfl, Nat.le_of_ble_eq_true rfl⟩ rfl rfl (Nat.le_of_ble_eq_true rfl) dL_law_277 (fun H locs hM => ?_)
        refine lv_aload_n hx hb dL_law_280 rfl (lv_at hl 2 rfl) ?_
        refine lv_aload_n hx hb dL_law_281 rfl (lv_at hl 0 rfl) ?_
        refine lv_iload_n hx hb dL_law_282 rfl (lv_at hl 3 rfl) ?_
        refine lv_iconst (v := nI 1) hx hb dL_law_283 (by decide) ?_
        refine lv_iadd hx hb dL_law_284 ?_
        refine cz_sld hx hb hXs hbs hM h dL_law_285 (fun h => ?_)
        obtain ⟨v47, M46, hq, h⟩ := cz_b2_t h
        refine cz_runVl hcc hss (rest := [.int v45]) (As := [.int (xs (Int32.toNatClampNeg (x3 + (nI 1))))]) (T := TX5) (N0 := 12) X hM hl.1 (c_X5_pass (l := l) (g := g) (b := s.heap.size) ka2 hq) mv_X5_pass rfl (by decide) ka2 ml_L_39 ⟨Nat.le_of_ble_eq_true rfl, Nat.le_of_ble_eq_true rfl⟩ rfl rfl (Nat.le_of_ble_eq_true rfl) dL_law_286 (fun H locs hM => ?_)
        refine lv_icmp_eq (tgt := 692) hx hb dL_law_289 (by decide) (fun c48 => ?_) (fun c48 => ?_)
        · have h := cz_ite_t c48 h
          refine cz_nmL (v := x3 + nI 3) h (fun v49 e50 h => ?_)
          refine lv_iinc (v := v49) (lv' := [(3, .int v49), (0, .ref bs), (1, .ref a1), (2, .ref a2)]) hx hb dL_law_692 hl (k := 3) rfl (by rw [e50]; rfl) (by decide) rfl (fun ls hl => ?_)
          refine lv_goto (tgt := 18) hx hb dL_law_695 (by decide) ?_
          exact ih _ _ _ _ _ h hM (lv_sub hl [1, 2, 3, 0] rfl)
        · have h := cz_ite_f c48 h
          refine lv_iconst (v := nI 0) hx hb dL_law_292 (by decide) ?_
          cases h
      have h := cz_ite_f c43 h
      by_cases c51 : v2 = (nI 6)
      · have h := cz_ite_t c51 h
        refine lv_tableIn (off := 262) (tgt := 294) hx hb dL_law_32 (by rw [c51]; decide) (by rw [c51]; decide) (by rw [c51]; rfl) (by decide) ?_
        refine lv_aload_n hx hb dL_law_294 rfl (lv_at hl 1 rfl) ?_
        refine lv_aload_n hx hb dL_law_295 rfl (lv_at hl 0 rfl) ?_
        refine lv_iload_n hx hb dL_law_296 rfl (lv_at hl 3 rfl) ?_
        refine lv_iconst (v := nI 1) hx hb dL_law_297 (by decide) ?_
        refine lv_iadd hx hb dL_law_298 ?_
        refine cz_sld hx hb hXs hbs hM h dL_law_299 (fun h => ?_)
        refine lv_aload_n hx hb dL_law_300 rfl (lv_at hl 0 rfl) ?_
        refine lv_iload_n hx hb dL_law_301 rfl (lv_at hl 3 rfl) ?_
        refine lv_iconst (v := nI 2) hx hb dL_law_302 (by decide) ?_
        refine lv_iadd hx hb dL_law_303 ?_
        refine cz_sld hx hb hXs hbs hM h dL_law_304 (fun h => ?_)
        obtain ⟨v52, hq, h⟩ := cz_bd_t h
        refine cz_runVl hcc hss (rest := []) (As := [.int (xs (Int32.toNatClampNeg (x3 + (nI 1)))), .int (xs (Int32.toNatClampNeg (x3 + (nI 2))))]) (T := TX4) (N0 := 8) X hM hl.1 (c_X4_letter (l := l) (g := g) (b := s.heap.size) ka1 hq) mv_X4_letter rfl (by decide) ka1 ml_L_40 ⟨Nat.le_of_ble_eq_true rfl, Nat.le_of_ble_eq_true rfl⟩ rfl rfl (Nat.le_of_ble_eq_true rfl) dL_law_305 (fun H locs hM => ?_)
        refine lv_aload_n hx hb dL_law_308 rfl (lv_at hl 2 rfl) ?_
        refine lv_aload_n hx hb dL_law_309 rfl (lv_at hl 0 rfl) ?_
        refine lv_iload_n hx hb dL_law_310 rfl (lv_at hl 3 rfl) ?_
        refine lv_iconst (v := nI 1) hx hb dL_law_311 (by decide) ?_
        refine lv_iadd hx hb dL_law_312 ?_
        refine cz_sld hx hb hXs hbs hM h dL_law_313 (fun h => ?_)
        refine lv_aload_n hx hb dL_law_314 rfl (lv_at hl 0 rfl) ?_
        refine lv_iload_n hx hb dL_law_315 rfl (lv_at hl 3 rfl) ?_
        refine lv_iconst (v := nI 2) hx hb dL_law_316 (by decide) ?_
        refine lv_iadd hx hb dL_law_317 ?_
        refine cz_sld hx hb hXs hbs hM h dL_law_318 (fun h => ?_)
        obtain ⟨v53, hq, h⟩ := cz_bd_t h
        refine cz_runVl hcc hss (rest := [.int v52]) (As := [.int (xs (Int32.toNatClampNeg (x3 + (nI 1)))), .int (xs (Int32.toNatClampNeg (x3 + (nI 2))))]) (T := TX5) (N0 := 12) X hM hl.1 (c_X5_letter (l := l) (g := g) (b := s.heap.size) ka2 hq) mv_X5_letter rfl (by decide) ka2 ml_L_43 ⟨Nat.le_of_ble_eq_true rfl, Nat.le_of_ble_eq_true rfl⟩ rfl rfl (Nat.le_of_ble_eq_true rfl) dL_law_319 (fun H locs hM => ?_)
        refine lv_icmp_eq (tgt := 692) hx hb dL_law_322 (by decide) (fun c54 => ?_) (fun c54 => ?_)
        · have h := cz_ite_t c54 h
          refine cz_nmL (v := x3 + nI 3) h (fun v55 e56 h => ?_)
          refine lv_iinc (v := v55) (lv' := [(3, .int v55), (0, .ref bs), (1, .ref a1), (2, .ref a2)]) hx hb dL_law_692 hl (k := 3) rfl (by rw [e56]; rfl) (by decide) rfl (fun ls hl => ?_)
          refine lv_goto (tgt := 18) hx hb dL_law_695 (by decide) ?_
          exact ih _ _ _ _ _ h hM (lv_sub hl [1, 2, 3, 0] rfl)
        · have h := cz_ite_f c54 h
          refine lv_iconst (v := nI 0) hx hb dL_law_325 (by decide) ?_
          cases h
      have h := cz_ite_f c51 h
      by_cases c57 : v2 = (nI 7)
      · have h := cz_ite_t c57 h
        refine lv_tableIn (off := 295) (tgt := 327) hx hb dL_law_32 (by rw [c57]; decide) (by rw [c57]; decide) (by rw [c57]; rfl) (by decide) ?_
        refine lv_aload_n hx hb dL_law_327 rfl (lv_at hl 1 rfl) ?_
        refine lv_aload_n hx hb dL_law_328 rfl (lv_at hl 0 rfl) ?_
        refine lv_iload_n hx hb dL_law_329 rfl (lv_at hl 3 rfl) ?_
        refine lv_iconst (v := nI 1) hx hb dL_law_330 (by decide) ?_
        refine lv_iadd hx hb dL_law_331 ?_
        refine cz_sld hx hb hXs hbs hM h dL_law_332 (fun h => ?_)
        refine lv_aload_n hx hb dL_law_333 rfl (lv_at hl 0 rfl) ?_
        refine lv_iload_n hx hb dL_law_334 rfl (lv_at hl 3 rfl) ?_
        refine lv_iconst (v := nI 2) hx hb dL_law_335 (by decide) ?_
        refine lv_iadd hx hb dL_law_336 ?_
        refine cz_sld hx hb hXs hbs hM h dL_law_337 (fun h => ?_)
        obtain ⟨v58, hq, h⟩ := cz_bd_t h
        refine cz_runVl hcc hss (rest := []) (As := [.int (xs (Int32.toNatClampNeg (x3 + (nI 1)))), .int (xs (Int32.toNatClampNeg (x3 + (nI 2))))]) (T := TX4) (N0 := 8) X hM hl.1 (c_X4_word (l := l) (g := g) (b := s.heap.size) ka1 hq) mv_X4_word rfl (by decide) ka1 ml_L_44 ⟨Nat.le_of_ble_eq_true rfl, Nat.le_of_ble_eq_true rfl⟩ rfl rfl (Nat.le_of_ble_eq_true rfl) dL_law_338 (fun H locs hM => ?_)
        refine lv_aload_n hx hb dL_law_341 rfl (lv_at hl 2 rfl) ?_
        refine lv_aload_n hx hb dL_law_342 rfl (lv_at hl 0 rfl) ?_
        refine lv_iload_n hx hb dL_law_343 rfl (lv_at hl 3 rfl) ?_
        refine lv_iconst (v := nI 1) hx hb dL_law_344 (by decide) ?_
        refine lv_iadd hx hb dL_law_345 ?_
        refine cz_sld hx hb hXs hbs hM h dL_law_346 (fun h => ?_)
        refine lv_aload_n hx hb dL_law_347 rfl (lv_at hl 0 rfl) ?_
        refine lv_iload_n hx hb dL_law_348 rfl (lv_at hl 3 rfl) ?_
        refine lv_iconst (v := nI 2) hx hb dL_law_349 (by decide) ?_
        refine lv_iadd hx hb dL_law_350 ?_
        refine cz_sld hx hb hXs hbs hM h dL_law_351 (fun h => ?_)
        obtain ⟨v59, hq, h⟩ := cz_bd_t h
        refine cz_runVl hcc hss (rest := [.int v58]) (As := [.int (xs (Int32.toNatClampNeg (x3 + (nI 1)))), .int (xs (Int32.toNatClampNeg (x3 + (nI 2))))]) (T := TX5) (N0 := 12) X hM hl.1 (c_X5_word (l := l) (g := g) (b := s.heap.size) ka2 hq) mv_X5_word rfl (by decide) ka2 ml_L_47 ⟨Nat.le_of_ble_eq_true rfl, Nat.le_of_ble_eq_true rfl⟩ rfl rfl (Nat.le_of_ble_eq_true rfl) dL_law_352 (fun H locs hM => ?_)
        refine lv_icmp_eq (tgt := 692) hx hb dL_law_355 (by decide) (fun c60 => ?_) (fun c60 => ?_)
        · have h := cz_ite_t c60 h
          refine cz_nmL (v := x3 + nI 3) h (fun v61 e62 h => ?_)
          refine lv_iinc (v := v61) (lv' := [(3, .int v61), (0, .ref bs), (1, .ref a1), (2, .ref a2)]) hx hb dL_law_692 hl (k := 3) rfl (by rw [e62]; rfl) (by decide) rfl (fun ls hl => ?_)
          refine lv_goto (tgt := 18) hx hb dL_law_695 (by decide) ?_
          exact ih _ _ _ _ _ h hM (lv_sub hl [1, 2, 3, 0] rfl)
        · have h := cz_ite_f c60 h
          refine lv_iconst (v := nI 0) hx hb dL_law_358 (by decide) ?_
          cases h
      have h := cz_ite_f c57 h
      by_cases c63 : v2 = (nI 8)
      · have h := cz_ite_t c63 h
        refine lv_tableIn (off := 328) (tgt := 360) hx hb dL_law_32 (by rw [c63]; decide) (by rw [c63]; decide) (by rw [c63]; rfl) (by decide) ?_
        refine lv_aload_n hx hb dL_law_360 rfl (lv_at hl 1 rfl) ?_
        refine lv_aload_n hx hb dL_law_361 rfl (lv_at hl 0 rfl) ?_
        refine lv_iload_n hx hb dL_law_362 rfl (lv_at hl 3 rfl) ?_
        refine lv_iconst (v := nI 1) hx hb dL_law_363 (by decide) ?_
        refine lv_iadd hx hb dL_law_364 ?_
        refine cz_sld hx hb hXs hbs hM h dL_law_365 (fun h => ?_)
        obtain ⟨v65, M64, hq, h⟩ := cz_b2_t h
        refine cz_runVl hcc hss (rest := []) (As := [.int (xs (Int32.toNatClampNeg (x3 + (nI 1))))]) (T := TX4) (N0 := 8) X hM hl.1 (c_X4_why (l := l) (g := g) (b := s.heap.size) ka1 hq) mv_X4_why rfl (by decide) ka1 ml_L_48 ⟨Nat.le_of_ble_eq_true rfl, Nat.le_of_ble_eq_true rfl⟩ rfl rfl (Nat.le_of_ble_eq_true rfl) dL_law_366 (fun H locs hM => ?_)
        refine lv_aload_n hx hb dL_law_369 rfl (lv_at hl 2 rfl) ?_
        refine lv_aload_n hx hb dL_law_370 rfl (lv_at hl 0 rfl) ?_
        refine lv_iload_n hx hb dL_law_371 rfl (lv_at hl 3 rfl) ?_
        refine lv_iconst (v := nI 1) hx hb dL_law_372 (by decide) ?_
        refine lv_iadd hx hb dL_law_373 ?_
        refine cz_sld hx hb hXs hbs hM h dL_law_374 (fun h => ?_)
        obtain ⟨v67, M66, hq, h⟩ := cz_b2_t h
        refine cz_runVl hcc hss (rest := [.int v65]) (As := [.int (xs (Int32.toNatClampNeg (x3 + (nI 1))))]) (T := TX5) (N0 := 12) X hM hl.1 (c_X5_why (l := l) (g := g) (b := s.heap.size) ka2 hq) mv_X5_why rfl (by decide) ka2 ml_L_51 ⟨Nat.le_of_ble_eq_true rfl, Nat.le_of_ble_eq_true rfl⟩ rfl rfl (Nat.le_of_ble_eq_true rfl) dL_law_375 (fun H locs hM => ?_)
        refine lv_icmp_eq (tgt := 692) hx hb dL_law_378 (by decide) (fun c68 => ?_) (fun c68 => ?_)
        · have h := cz_ite_t c68 h
          refine cz_nmL (v := x3 + nI 3) h (fun v69 e70 h => ?_)
          refine lv_iinc (v := v69) (lv' := [(3, .int v69), (0, .ref bs), (1, .ref a1), (2, .ref a2)]) hx hb dL_law_692 hl (k := 3) rfl (by rw [e70]; rfl) (by decide) rfl (fun ls hl => ?_)
          refine lv_goto (tgt := 18) hx hb dL_law_695 (by decide) ?_
          exact ih _ _ _ _ _ h hM (lv_sub hl [1, 2, 3, 0] rfl)
        · have h := cz_ite_f c68 h
          refine lv_iconst (v := nI 0) hx hb dL_law_381 (by decide) ?_
          cases h
      have h := cz_ite_f c63 h
      by_cases c71 : v2 = (nI 9)
      · have h := cz_ite_t c71 h
        refine lv_tableIn (off := 351) (tgt := 383) hx hb dL_law_32 (by rw [c71]; decide) (by rw [c71]; decide) (by rw [c71]; rfl) (by decide) ?_
        refine lv_aload_n hx hb dL_law_383 rfl (lv_at hl 1 rfl) ?_
        refine lv_aload_n hx hb dL_law_384 rfl (lv_at hl 0 rfl) ?_
        refine lv_iload_n hx hb dL_law_385 rfl (lv_at hl 3 rfl) ?_
        refine lv_iconst (v := nI 1) hx hb dL_law_386 (by decide) ?_
        refine lv_iadd hx hb dL_law_387 ?_
        refine cz_sld hx hb hXs hbs hM h dL_law_388 (fun h => ?_)
        refine lv_aload_n hx hb dL_law_389 rfl (lv_at hl 0 rfl) ?_
        refine lv_iload_n hx hb dL_law_390 rfl (lv_at hl 3 rfl) ?_
        refine lv_iconst (v := nI 2) hx hb dL_law_391 (by decide) ?_
        refine lv_iadd hx hb dL_law_392 ?_
        refine cz_sld hx hb hXs hbs hM h dL_law_393 (fun h => ?_)
        obtain ⟨v72, hq, h⟩ := cz_bd_t h
        refine cz_runVl hcc hss (rest := []) (As := [.int (xs (Int32.toNatClampNeg (x3 + (nI 1)))), .int (xs (Int32.toNatClampNeg (x3 + (nI 2))))]) (T := TX4) (N0 := 8) X hM hl.1 (c_X4_censor (l := l) (g := g) (b := s.heap.size) ka1 hq) mv_X4_censor rfl (by decide) ka1 ml_L_52 ⟨Nat.le_of_ble_eq_true rfl, Nat.le_of_ble_eq_true rfl⟩ rfl rfl (Nat.le_of_ble_eq_true rfl) dL_law_394 (fun H locs hM => ?_)
        refine lv_aload_n hx hb dL_law_397 rfl (lv_at hl 2 rfl) ?_
        refine lv_aload_n hx hb dL_law_398 rfl (lv_at hl 0 rfl) ?_
        refine lv_iload_n hx hb dL_law_399 rfl (lv_at hl 3 rfl) ?_
        refine lv_iconst (v := nI 1) hx hb dL_law_400 (by decide) ?_
        refine lv_iadd hx hb dL_law_401 ?_
        refine cz_sld hx hb hXs hbs hM h dL_law_402 (fun h => ?_)
        refine lv_aload_n hx hb dL_law_403 rfl (lv_at hl 0 rfl) ?_
        refine lv_iload_n hx hb dL_law_404 rfl (lv_at hl 3 rfl) ?_
        refine lv_iconst (v := nI 2) hx hb dL_law_405 (by decide) ?_
        refine lv_iadd hx hb dL_law_406 ?_
        refine cz_sld hx hb hXs hbs hM h dL_law_407 (fun h => ?_)
        obtain ⟨v73, hq, h⟩ := cz_bd_t h
        refine cz_runVl hcc hss (rest := [.int v72]) (As := [.int (xs (Int32.toNatClampNeg (x3 + (nI 1)))), .int (xs (Int32.toNatClampNeg (x3 + (nI 2))))]) (T := TX5) (N0 := 12) X hM hl.1 (c_X5_censor (l := l) (g := g) (b := s.heap.size) ka2 hq) mv_X5_censor rfl (by decide) ka2 ml_L_55 ⟨Nat.le_of_ble_eq_true rfl, Nat.le_of_ble_eq_true rfl⟩ rfl rfl (Nat.le_of_ble_eq_true rfl) dL_law_408 (fun H locs hM => ?_)
        refine lv_icmp_eq (tgt := 692) hx hb dL_law_411 (by decide) (fun c74 => ?_) (fun c74 => ?_)
        · have h := cz_ite_t c74 h
          refine cz_nmL (v := x3 + nI 3) h (fun v75 e76 h => ?_)
          refine lv_iinc (v := v75) (lv' := [(3, .int v75), (0, .ref bs), (1, .ref a1), (2, .ref a2)]) hx hb dL_law_692 hl (k := 3) rfl (by rw [e76]; rfl) (by decide) rfl (fun ls hl => ?_)
          refine lv_goto (tgt := 18) hx hb dL_law_695 (by decide) ?_
          exact ih _ _ _ _ _ h hM (lv_sub hl [1, 2, 3, 0] rfl)
        · have h := cz_ite_f c74 h
          refine lv_iconst (v := nI 0) hx hb dL_law_414 (by decide) ?_
          cases h
      have h := cz_ite_f c71 h
      by_cases c77 : v2 = (nI 10)
      · have h := cz_ite_t c77 h
        refine lv_tableIn (off := 384) (tgt := 416) hx hb dL_law_32 (by rw [c77]; decide) (by rw [c77]; decide) (by rw [c77]; rfl) (by decide) ?_
        refine lv_aload_n hx hb dL_law_416 rfl (lv_at hl 1 rfl) ?_
        refine lv_aload_n hx hb dL_law_417 rfl (lv_at hl 0 rfl) ?_
        refine lv_iload_n hx hb dL_law_418 rfl (lv_at hl 3 rfl) ?_
        refine lv_iconst (v := nI 1) hx hb dL_law_419 (by decide) ?_
        refine lv_iadd hx hb dL_law_420 ?_
        refine cz_sld hx hb hXs hbs hM h dL_law_421 (fun h => ?_)
        refine lv_aload_n hx hb dL_law_422 rfl (lv_at hl 0 rfl) ?_
        refine lv_iload_n hx hb dL_law_423 rfl (lv_at hl 3 rfl) ?_
        refine lv_iconst (v := nI 2) hx hb dL_law_424 (by decide) ?_
        refine lv_iadd hx hb dL_law_425 ?_
        refine cz_sld hx hb hXs hbs hM h dL_law_426 (fun h => ?_)
        obtain ⟨v78, hq, h⟩ := cz_bd_t h
        refine cz_runVl hcc hss (rest := []) (As := [.int (xs (Int32.toNatClampNeg (x3 + (nI 1)))), .int (xs (Int32.toNatClampNeg (x3 + (nI 2))))]) (T := TX4) (N0 := 8) X hM hl.1 (c_X4_onShift (l := l) (g := g) (b := s.heap.size) ka1 hq) mv_X4_onShift rfl (by decide) ka1 ml_L_56 ⟨Nat.le_of_ble_eq_true rfl, Nat.le_of_ble_eq_true rfl⟩ rfl rfl (Nat.le_of_ble_eq_true rfl) dL_law_427 (fun H locs hM => ?_)
        refine lv_aload_n hx hb dL_law_430 rfl (lv_at hl 2 rfl) ?_
        refine lv_aload_n hx hb dL_law_431 rfl (lv_at hl 0 rfl) ?_
        refine lv_iload_n hx hb dL_law_432 rfl (lv_at hl 3 rfl) ?_
        refine lv_iconst (v := nI 1) hx hb dL_law_433 (by decide) ?_
        refine lv_iadd hx hb dL_law_434 ?_
        refine cz_sld hx hb hXs hbs hM h dL_law_435 (fun h => ?_)
        refine lv_aload_n hx hb dL_law_436 rfl (lv_at hl 0 rfl) ?_
        refine lv_iload_n hx hb dL_law_437 rfl (lv_at hl 3 rfl) ?_
        refine lv_iconst (v := nI 2) hx hb dL_law_438 (by decide) ?_
        refine lv_iadd hx hb dL_law_439 ?_
        refine cz_sld hx hb hXs hbs hM h dL_law_440 (fun h => ?_)
        obtain ⟨v79, hq, h⟩ := cz_bd_t h
        refine cz_runVl hcc hss (rest := [.int v78]) (As := [.int (xs (Int32.toNatClampNeg (x3 + (nI 1)))), .int (xs (Int32.toNatClampNeg (x3 + (nI 2))))]) (T := TX5) (N0 := 12) X hM hl.1 (c_X5_onShift (l := l) (g := g) (b := s.heap.size) ka2 hq) mv_X5_onShift rfl (by decide) ka2 ml_L_59 ⟨Nat.le_of_ble_eq_true rfl, Nat.le_of_ble_eq_true rfl⟩ rfl rfl (Nat.le_of_ble_eq_true rfl) dL_law_441 (fun H locs hM => ?_)
        refine lv_icmp_eq (tgt := 692) hx hb dL_law_444 (by decide) (fun c80 => ?_) (fun c80 => ?_)
        · have h := cz_ite_t c80 h
          refine cz_nmL (v := x3 + nI 3) h (fun v81 e82 h => ?_)
          refine lv_iinc (v := v81) (lv' := [(3, .int v81), (0, .ref bs), (1, .ref a1), (2, .ref a2)]) hx hb dL_law_692 hl (k := 3) rfl (by rw [e82]; rfl) (by decide) rfl (fun ls hl => ?_)
          refine lv_goto (tgt := 18) hx hb dL_law_695 (by decide) ?_
          exact ih _ _ _ _ _ h hM (lv_sub hl [1, 2, 3, 0] rfl)
        · have h := cz_ite_f c80 h
          refine lv_iconst (v := nI 0) hx hb dL_law_447 (by decide) ?_
          cases h
      have h := cz_ite_f c77 h
      by_cases c83 : v2 = (nI 11)
      · have h := cz_ite_t c83 h
        refine lv_tableIn (off := 417) (tgt := 449) hx hb dL_law_32 (by rw [c83]; decide) (by rw [c83]; decide) (by rw [c83]; rfl) (by decide) ?_
        refine lv_aload_n hx hb dL_law_449 rfl (lv_at hl 1 rfl) ?_
        refine lv_aload_n hx hb dL_law_450 rfl (lv_at hl 0 rfl) ?_
        refine lv_iload_n hx hb dL_law_451 rfl (lv_at hl 3 rfl) ?_
        refine lv_iconst (v := nI 1) hx hb dL_law_452 (by decide) ?_
        refine lv_iadd hx hb dL_law_453 ?_
        refine cz_sld hx hb hXs hbs hM h dL_law_454 (fun h => ?_)
        obtain ⟨v85, M84, hq, h⟩ := cz_b2_t h
        refine cz_runVl hcc hss (rest := []) (As := [.int (xs (Int32.toNatClampNeg (x3 + (nI 1))))]) (T := TX4) (N0 := 8) X hM hl.1 (c_X4_count (l := l) (g := g) (b := s.heap.size) ka1 hq) mv_X4_count rfl (by decide) ka1 ml_L_60 ⟨Nat.le_of_ble_eq_true rfl, Nat.le_of_ble_eq_true rfl⟩ rfl rfl (Nat.le_of_ble_eq_true rfl) dL_law_455 (fun H locs hM => ?_)
        refine lv_aload_n hx hb dL_law_458 rfl (lv_at hl 2 rfl) ?_
        refine lv_aload_n hx hb dL_law_459 rfl (lv_at hl 0 rfl) ?_
        refine lv_iload_n hx hb dL_law_460 rfl (lv_at hl 3 rfl) ?_
        refine lv_iconst (v := nI 1) hx hb dL_law_461 (by decide) ?_
        refine lv_iadd hx hb dL_law_462 ?_
        refine cz_sld hx hb hXs hbs hM h dL_law_463 (fun h => ?_)
        obtain ⟨v86, hq, h⟩ := cz_bd_t h
        refine cz_runVl hcc hss (rest := [.int v85]) (As := [.int (xs (Int32.toNatClampNeg (x3 + (nI 1))))]) (T := TX5) (N0 := 12) X hM hl.1 (c_X5_count (l := l) (g := g) (b := s.heap.size) ka2 hq) mv_X5_count rfl (by decide) ka2 ml_L_63 ⟨Nat.le_of_ble_eq_true rfl, Nat.le_of_ble_eq_true rfl⟩ rfl rfl (Nat.le_of_ble_eq_true rfl) dL_law_464 (fun H locs hM => ?_)
        refine lv_icmp_eq (tgt := 692) hx hb dL_law_467 (by decide) (fun c87 => ?_) (fun c87 => ?_)
        · have h := cz_ite_t c87 h
          refine cz_nmL (v := x3 + nI 3) h (fun v88 e89 h => ?_)
          refine lv_iinc (v := v88) (lv' := [(3, .int v88), (0, .ref bs), (1, .ref a1), (2, .ref a2)]) hx hb dL_law_692 hl (k := 3) rfl (by rw [e89]; rfl) (by decide) rfl (fun ls hl => ?_)
          refine lv_goto (tgt := 18) hx hb dL_law_695 (by decide) ?_
          exact ih _ _ _ _ _ h hM (lv_sub hl [1, 2, 3, 0] rfl)
        · have h := cz_ite_f c87 h
          refine lv_iconst (v := nI 0) hx hb dL_law_470 (by decide) ?_
          cases h
      have h := cz_ite_f c83 h
      by_cases c90 : v2 = (nI 12)
      · have h := cz_ite_t c90 h
        refine lv_tableIn (off := 440) (tgt := 472) hx hb dL_law_32 (by rw [c90]; decide) (by rw [c90]; decide) (by rw [c90]; rfl) (by decide) ?_
        refine lv_aload_n hx hb dL_law_472 rfl (lv_at hl 1 rfl) ?_
        refine lv_aload_n hx hb dL_law_473 rfl (lv_at hl 0 rfl) ?_
        refine lv_iload_n hx hb dL_law_474 rfl (lv_at hl 3 rfl) ?_
        refine lv_iconst (v := nI 1) hx hb dL_law_475 (by decide) ?_
        refine lv_iadd hx hb dL_law_476 ?_
        refine cz_sld hx hb hXs hbs hM h dL_law_477 (fun h => ?_)
        obtain ⟨v92, M91, hq, h⟩ := cz_b2_t h
        refine cz_runVl hcc hss (rest := []) (As := [.int (xs (Int32.toNatClampNeg (x3 + (nI 1))))]) (T := TX4) (N0 := 8) X hM hl.1 (c_X4_untilCome (l := l) (g := g) (b := s.heap.size) ka1 hq) mv_X4_untilCome rfl (by decide) ka1 ml_L_64 ⟨Nat.le_of_ble_eq_true rfl, Nat.le_of_ble_eq_true rfl⟩ rfl rfl (Nat.le_of_ble_eq_true rfl) dL_law_478 (fun H locs hM => ?_)
        refine lv_aload_n hx hb dL_law_481 rfl (lv_at hl 2 rfl) ?_
        refine lv_aload_n hx hb dL_law_482 rfl (lv_at hl 0 rfl) ?_
        refine lv_iload_n hx hb dL_law_483 rfl (lv_at hl 3 rfl) ?_
        refine lv_iconst (v := nI 1) hx hb dL_law_484 (by decide) ?_
        refine lv_iadd hx hb dL_law_485 ?_
        refine cz_sld hx hb hXs hbs hM h dL_law_486 (fun h => ?_)
        obtain ⟨v94, M93, hq, h⟩ := cz_b2_t h
        refine cz_runVl hcc hss (rest := [.int v92]) (As := [.int (xs (Int32.toNatClampNeg (x3 + (nI 1))))]) (T := TX5) (N0 := 12) X hM hl.1 (c_X5_untilCome (l := l) (g := g) (b := s.heap.size) ka2 hq) mv_X5_untilCome rfl (by decide) ka2 ml_L_67 ⟨Nat.le_of_ble_eq_true rfl, Nat.le_of_ble_eq_true rfl⟩ rfl rfl (Nat.le_of_ble_eq_true rfl) dL_law_487 (fun H locs hM => ?_)
        refine lv_icmp_eq (tgt := 692) hx hb dL_law_490 (by decide) (fun c95 => ?_) (fun c95 => ?_)
        · have h := cz_ite_t c95 h
          refine cz_nmL (v := x3 + nI 3) h (fun v96 e97 h => ?_)
          refine lv_iinc (v := v96) (lv' := [(3, .int v96), (0, .ref bs), (1, .ref a1), (2, .ref a2)]) hx hb dL_law_692 hl (k := 3) rfl (by rw [e97]; rfl) (by decide) rfl (fun ls hl => ?_)
          refine lv_goto (tgt := 18) hx hb dL_law_695 (by decide) ?_
          exact ih _ _ _ _ _ h hM (lv_sub hl [1, 2, 3, 0] rfl)
        · have h := cz_ite_f c95 h
          refine lv_iconst (v := nI 0) hx hb dL_law_493 (by decide) ?_
          cases h
      have h := cz_ite_f c90 h
      by_cases c98 : v2 = (nI 13)
      · have h := cz_ite_t c98 h
        refine lv_tableIn (off := 463) (tgt := 495) hx hb dL_law_32 (by rw [c98]; decide) (by rw [c98]; decide) (by rw [c98]; rfl) (by decide) ?_
        refine lv_aload_n hx hb dL_law_495 rfl (lv_at hl 1 rfl) ?_
        refine lv_aload_n hx hb dL_law_496 rfl (lv_at hl 0 rfl) ?_
        refine lv_iload_n hx hb dL_law_497 rfl (lv_at hl 3 rfl) ?_
        refine lv_iconst (v := nI 1) hx hb dL_law_498 (by decide) ?_
        refine lv_iadd hx hb dL_law_499 ?_
        refine cz_sld hx hb hXs hbs hM h dL_law_500 (fun h => ?_)
        refine lv_aload_n hx hb dL_law_501 rfl (lv_at hl 0 rfl) ?_
        refine lv_iload_n hx hb dL_law_502 rfl (lv_at hl 3 rfl) ?_
        refine lv_iconst (v := nI 2) hx hb dL_law_503 (by decide) ?_
        refine lv_iadd hx hb dL_law_504 ?_
        refine cz_sld hx hb hXs hbs hM h dL_law_505 (fun h => ?_)
        obtain ⟨v100, M99, hq, h⟩ := cz_b2_t h
        refine cz_runVl hcc hss (rest := []) (As := [.int (xs (Int32.toNatClampNeg (x3 + (nI 1)))), .int (xs (Int32.toNatClampNeg (x3 + (nI 2))))]) (T := TX4) (N0 := 8) X hM hl.1 (c_X4_ifPassed (l := l) (g := g) (b := s.heap.size) ka1 hq) mv_X4_ifPassed rfl (by decide) ka1 ml_L_68 ⟨Nat.le_of_ble_eq_true rfl, Nat.le_of_ble_eq_true rfl⟩ rfl rfl (Nat.le_of_ble_eq_true rfl) dL_law_506 (fun H locs hM => ?_)
        refine lv_aload_n hx hb dL_law_509 rfl (lv_at hl 2 rfl) ?_
        refine lv_aload_n hx hb dL_law_510 rfl (lv_at hl 0 rfl) ?_
        refine lv_iload_n hx hb dL_law_511 rfl (lv_at hl 3 rfl) ?_
        refine lv_iconst (v := nI 1) hx hb dL_law_512 (by decide) ?_
        refine lv_iadd hx hb dL_law_513 ?_
        refine cz_sld hx hb hXs hbs hM h dL_law_514 (fun h => ?_)
        refine lv_aload_n hx hb dL_law_515 rfl (lv_at hl 0 rfl) ?_
        refine lv_iload_n hx hb dL_law_516 rfl (lv_at hl 3 rfl) ?_
        refine lv_iconst (v := nI 2) hx hb dL_law_517 (by decide) ?_
        refine lv_iadd hx hb dL_law_518 ?_
        refine cz_sld hx hb hXs hbs hM h dL_law_519 (fun h => ?_)
        obtain ⟨v102, M101, hq, h⟩ := cz_b2_t h
        refine cz_runVl hcc hss (rest := [.int v100]) (As := [.int (xs (Int32.toNatClampNeg (x3 + (nI 1)))), .int (xs (Int32.toNatClampNeg (x3 + (nI 2))))]) (T := TX5) (N0 := 12) X hM hl.1 (c_X5_ifPassed (l := l) (g := g) (b := s.heap.size) ka2 hq) mv_X5_ifPassed rfl (by decide) ka2 ml_L_71 ⟨Nat.le_of_ble_eq_true rfl, Nat.le_of_ble_eq_true rfl⟩ rfl rfl (Nat.le_of_ble_eq_true rfl) dL_law_520 (fun H locs hM => ?_)
        refine lv_icmp_eq (tgt := 692) hx hb dL_law_523 (by decide) (fun c103 => ?_) (fun c103 => ?_)
        · have h := cz_ite_t c103 h
          refine cz_nmL (v := x3 + nI 3) h (fun v104 e105 h => ?_)
          refine lv_iinc (v := v104) (lv' := [(3, .int v104), (0, .ref bs), (1, .ref a1), (2, .ref a2)]) hx hb dL_law_692 hl (k := 3) rfl (by rw [e105]; rfl) (by decide) rfl (fun ls hl => ?_)
          refine lv_goto (tgt := 18) hx hb dL_law_695 (by decide) ?_
          exact ih _ _ _ _ _ h hM (lv_sub hl [1, 2, 3, 0] rfl)
        · have h := cz_ite_f c103 h
          refine lv_iconst (v := nI 0) hx hb dL_law_526 (by decide) ?_
          cases h
      have h := cz_ite_f c98 h
      by_cases c106 : v2 = (nI 14)
      · have h := cz_ite_t c106 h
        refine lv_tableIn (off := 496) (tgt := 528) hx hb dL_law_32 (by rw [c106]; decide) (by rw [c106]; decide) (by rw [c106]; rfl) (by decide) ?_
        refine lv_aload_n hx hb dL_law_528 rfl (lv_at hl 1 rfl) ?_
        obtain ⟨v108, M107, hq, h⟩ := cz_b2_t h
        refine cz_runVl hcc hss (rest := []) (As := []) (T := TX4) (N0 := 8) X hM hl.1 (c_X4_bestTrade (l := l) (g := g) (b := s.heap.size) ka1 hq) mv_X4_bestTrade rfl (by decide) ka1 ml_L_72 ⟨Nat.le_of_ble_eq_true rfl, Nat.le_of_ble_eq_true rfl⟩ rfl rfl (Nat.le_of_ble_eq_true rfl) dL_law_529 (fun H locs hM => ?_)
        refine lv_aload_n hx hb dL_law_532 rfl (lv_at hl 2 rfl) ?_
        obtain ⟨v110, M109, hq, h⟩ := cz_b2_t h
        refine cz_runVl hcc hss (rest := [.int v108]) (As := []) (T := TX5) (N0 := 12) X hM hl.1 (c_X5_bestTrade (l := l) (g := g) (b := s.heap.size) ka2 hq) mv_X5_bestTrade rfl (by decide) ka2 ml_L_75 ⟨Nat.le_of_ble_eq_true rfl, Nat.le_of_ble_eq_true rfl⟩ rfl rfl (Nat.le_of_ble_eq_true rfl) dL_law_533 (fun H locs hM => ?_)
        refine lv_icmp_eq (tgt := 692) hx hb dL_law_536 (by decide) (fun c111 => ?_) (fun c111 => ?_)
        · have h := cz_ite_t c111 h
          refine cz_nmL (v := x3 + nI 3) h (fun v112 e113 h => ?_)
          refine lv_iinc (v := v112) (lv' := [(3, .int v112), (0, .ref bs), (1, .ref a1), (2, .ref a2)]) hx hb dL_law_692 hl (k := 3) rfl (by rw [e113]; rfl) (by decide) rfl (fun ls hl => ?_)
          refine lv_goto (tgt := 18) hx hb dL_law_695 (by decide) ?_
          exact ih _ _ _ _ _ h hM (lv_sub hl [1, 2, 3, 0] rfl)
        · have h := cz_ite_f c111 h
          refine lv_iconst (v := nI 0) hx hb dL_law_539 (by decide) ?_
          cases h
      have h := cz_ite_f c106 h
      by_cases c114 : v2 = (nI 15)
      · have h := cz_ite_t c114 h
        refine lv_tableIn (off := 509) (tgt := 541) hx hb dL_law_32 (by rw [c114]; decide) (by rw [c114]; decide) (by rw [c114]; rfl) (by decide) ?_
        refine lv_aload_n hx hb dL_law_541 rfl (lv_at hl 1 rfl) ?_
        obtain ⟨v116, M115, hq, h⟩ := cz_b2_t h
        refine cz_runVl hcc hss (rest := []) (As := []) (T := TX4) (N0 := 8) X hM hl.1 (c_X4_leastLimit (l := l) (g := g) (b := s.heap.size) ka1 hq) mv_X4_leastLimit rfl (by decide) ka1 ml_L_76 ⟨Nat.le_of_ble_eq_true rfl, Nat.le_of_ble_eq_true rfl⟩ rfl rfl (Nat.le_of_ble_eq_true rfl) dL_law_542 (fun H locs hM => ?_)
        refine lv_aload_n hx hb dL_law_545 rfl (lv_at hl 2 rfl) ?_
        obtain ⟨v118, M117, hq, h⟩ := cz_b2_t h
        refine cz_runVl hcc hss (rest := [.int v116]) (As := []) (T := TX5) (N0 := 12) X hM hl.1 (c_X5_leastLimit (l := l) (g := g) (b := s.heap.size) ka2 hq) mv_X5_leastLimit rfl (by decide) ka2 ml_L_79 ⟨Nat.le_of_ble_eq_true rfl, Nat.le_of_ble_eq_true rfl⟩ rfl rfl (Nat.le_of_ble_eq_true rfl) dL_law_546 (fun H locs hM => ?_)
        refine lv_icmp_eq (tgt := 692) hx hb dL_law_549 (by decide) (fun c119 => ?_) (fun c119 => ?_)
        · have h := cz_ite_t c119 h
          refine cz_nmL (v := x3 + nI 3) h (fun v120 e121 h => ?_)
          refine lv_iinc (v := v120) (lv' := [(3, .int v120), (0, .ref bs), (1, .ref a1), (2, .ref a2)]) hx hb dL_law_692 hl (k := 3) rfl (by rw [e121]; rfl) (by decide) rfl (fun ls hl => ?_)
          refine lv_goto (tgt := 18) hx hb dL_law_695 (by decide) ?_
          exact ih _ _ _ _ _ h hM (lv_sub hl [1, 2, 3, 0] rfl)
        · have h := cz_ite_f c119 h
          refine lv_iconst (v := nI 0) hx hb dL_law_552 (by decide) ?_
          cases h
      have h := cz_ite_f c114 h
      by_cases c122 : v2 = (nI 16)
      · have h := cz_ite_t c122 h
        refine lv_tableIn (off := 522) (tgt := 554) hx hb dL_law_32 (by rw [c122]; decide) (by rw [c122]; decide) (by rw [c122]; rfl) (by decide) ?_
        refine lv_aload_n hx hb dL_law_554 rfl (lv_at hl 1 rfl) ?_
        refine lv_aload_n hx hb dL_law_555 rfl (lv_at hl 0 rfl) ?_
        refine lv_iload_n hx hb dL_law_556 rfl (lv_at hl 3 rfl) ?_
        refine lv_iconst (v := nI 1) hx hb dL_law_557 (by decide) ?_
        refine lv_iadd hx hb dL_law_558 ?_
        refine cz_sld hx hb hXs hbs hM h dL_law_559 (fun h => ?_)
        refine lv_i2l (v := Int32.toInt64 (xs (Int32.toNatClampNeg (x3 + (nI 1))))) hx hb dL_law_560 rfl ?_
        refine lv_bipush (v := nI 32) hx hb dL_law_561 (by decide) ?_
        refine lv_lshl (v := cz_sl (Int32.toInt64 (xs (Int32.toNatClampNeg (x3 + (nI 1))))) (nI 32)) hx hb dL_law_563 rfl ?_
        refine lv_aload_n hx hb dL_law_564 rfl (lv_at hl 0 rfl) ?_
        refine lv_iload_n hx hb dL_law_565 rfl (lv_at hl 3 rfl) ?_
        refine lv_iconst (v := nI 2) hx hb dL_law_566 (by decide) ?_
        refine lv_iadd hx hb dL_law_567 ?_
        refine cz_sld hx hb hXs hbs hM h dL_law_568 (fun h => ?_)
        refine lv_i2l (v := Int32.toInt64 (xs (Int32.toNatClampNeg (x3 + (nI 2))))) hx hb dL_law_569 rfl ?_
        refine lv_ldc2 hx hb ho (ht _ lc_L_80) dL_law_570 ?_
        refine lv_land hx hb dL_law_573 ?_
        refine lv_lor hx hb dL_law_574 ?_
        obtain ⟨v124, M123, hq, h⟩ := cz_b2_t h
        refine cz_runVl hcc hss (rest := []) (As := [.long ((cz_sl (Int32.toInt64 (xs (Int32.toNatClampNeg (x3 + (nI 1))))) (nI 32)) ||| ((Int32.toInt64 (xs (Int32.toNatClampNeg (x3 + (nI 2))))) &&& (4294967295 : Int64)))]) (T := TX4) (N0 := 8) X hM hl.1 (c_X4_put (l := l) (g := g) (b := s.heap.size) ka1 hq) mv_X4_put rfl (by decide) ka1 ml_L_82 ⟨Nat.le_of_ble_eq_true rfl, Nat.le_of_ble_eq_true rfl⟩ rfl rfl (Nat.le_of_ble_eq_true rfl) dL_law_575 (fun H locs hM => ?_)
        refine lv_aload_n hx hb dL_law_578 rfl (lv_at hl 2 rfl) ?_
        refine lv_aload_n hx hb dL_law_579 rfl (lv_at hl 0 rfl) ?_
        refine lv_iload_n hx hb dL_law_580 rfl (lv_at hl 3 rfl) ?_
        refine lv_iconst (v := nI 1) hx hb dL_law_581 (by decide) ?_
        refine lv_iadd hx hb dL_law_582 ?_
        refine cz_sld hx hb hXs hbs hM h dL_law_583 (fun h => ?_)
        refine lv_i2l (v := Int32.toInt64 (xs (Int32.toNatClampNeg (x3 + (nI 1))))) hx hb dL_law_584 rfl ?_
        refine lv_bipush (v := nI 32) hx hb dL_law_585 (by decide) ?_
        refine lv_lshl (v := cz_sl (Int32.toInt64 (xs (Int32.toNatClampNeg (x3 + (nI 1))))) (nI 32)) hx hb dL_law_587 rfl ?_
        refine lv_aload_n hx hb dL_law_588 rfl (lv_at hl 0 rfl) ?_
        refine lv_iload_n hx hb dL_law_589 rfl (lv_at hl 3 rfl) ?_
        refine lv_iconst (v := nI 2) hx hb dL_law_590 (by decide) ?_
        refine lv_iadd hx hb dL_law_591 ?_
        refine cz_sld hx hb hXs hbs hM h dL_law_592 (fun h => ?_)
        refine lv_i2l (v := Int32.toInt64 (xs (Int32.toNatClampNeg (x3 + (nI 2))))) hx hb dL_law_593 rfl ?_
        refine lv_ldc2 hx hb ho (ht _ lc_L_80) dL_law_594 ?_
        refine lv_land hx hb dL_law_597 ?_
        refine lv_lor hx hb dL_law_598 ?_
        obtain ⟨v126, M125, hq, h⟩ := cz_b2_t h
        refine cz_runVl hcc hss (rest := [.int v124]) (As := [.long ((cz_sl (Int32.toInt64 (xs (Int32.toNatClampNeg (x3 + (nI 1))))) (nI 32)) ||| ((Int32.toInt64 (xs (Int32.toNatClampNeg (x3 + (nI 2))))) &&& (4294967295 : Int64)))]) (T := TX5) (N0 := 12) X hM hl.1 (c_X5_put (l := l) (g := g) (b := s.heap.size) ka2 hq) mv_X5_put rfl (by decide) ka2 ml_L_86 ⟨Nat.le_of_ble_eq_true rfl, Nat.le_of_ble_eq_true rfl⟩ rfl rfl (Nat.le_of_ble_eq_true rfl) dL_law_599 (fun H locs hM => ?_)
        refine lv_icmp_eq (tgt := 692) hx hb dL_law_602 (by decide) (fun c127 => ?_) (fun c127 => ?_)
        · have h := cz_ite_t c127 h
          refine cz_nmL (v := x3 + nI 3) h (fun v128 e129 h => ?_)
          refine lv_iinc (v := v128) (lv' := [(3, .int v128), (0, .ref bs), (1, .ref a1), (2, .ref a2)]) hx hb dL_law_692 hl (k := 3) rfl (by rw [e129]; rfl) (by decide) rfl (fun ls hl => ?_)
          refine lv_goto (tgt := 18) hx hb dL_law_695 (by decide) ?_
          exact ih _ _ _ _ _ h hM (lv_sub hl [1, 2, 3, 0] rfl)
        · have h := cz_ite_f c127 h
          refine lv_iconst (v := nI 0) hx hb dL_law_605 (by decide) ?_
          cases h
      have h := cz_ite_f c122 h
      by_cases c130 : v2 = (nI 17)
      · have h := cz_ite_t c130 h
        refine lv_tableIn (off := 575) (tgt := 607) hx hb dL_law_32 (by rw [c130]; decide) (by rw [c130]; decide) (by rw [c130]; rfl) (by decide) ?_
        refine lv_aload_n hx hb dL_law_607 rfl (lv_at hl 1 rfl) ?_
        obtain ⟨v132, M131, hq, h⟩ := cz_b2_t h
        refine cz_runVl hcc hss (rest := []) (As := []) (T := TX4) (N0 := 8) X hM hl.1 (c_X4_wipe (l := l) (g := g) (b := s.heap.size) ka1 hq) mv_X4_wipe rfl (by decide) ka1 ml_L_87 ⟨Nat.le_of_ble_eq_true rfl, Nat.le_of_ble_eq_true rfl⟩ rfl rfl (Nat.le_of_ble_eq_true rfl) dL_law_608 (fun H locs hM => ?_)
        refine lv_aload_n hx hb dL_law_611 rfl (lv_at hl 2 rfl) ?_
        obtain ⟨v134, M133, hq, h⟩ := cz_b2_t h
        refine cz_runVl hcc hss (rest := [.int v132]) (As := []) (T := TX5) (N0 := 12) X hM hl.1 (c_X5_wipe (l := l) (g := g) (b := s.heap.size) ka2 hq) mv_X5_wipe rfl (by decide) ka2 ml_L_90 ⟨Nat.le_of_ble_eq_true rfl, Nat.le_of_ble_eq_true rfl⟩ rfl rfl (Nat.le_of_ble_eq_true rfl) dL_law_612 (fun H locs hM => ?_)
        refine lv_icmp_eq (tgt := 692) hx hb dL_law_615 (by decide) (fun c135 => ?_) (fun c135 => ?_)
        · have h := cz_ite_t c135 h
          refine cz_nmL (v := x3 + nI 3) h (fun v136 e137 h => ?_)
          refine lv_iinc (v := v136) (lv' := [(3, .int v136), (0, .ref bs), (1, .ref a1), (2, .ref a2)]) hx hb dL_law_692 hl (k := 3) rfl (by rw [e137]; rfl) (by decide) rfl (fun ls hl => ?_)
          refine lv_goto (tgt := 18) hx hb dL_law_695 (by decide) ?_
          exact ih _ _ _ _ _ h hM (lv_sub hl [1, 2, 3, 0] rfl)
        · have h := cz_ite_f c135 h
          refine lv_iconst (v := nI 0) hx hb dL_law_618 (by decide) ?_
          cases h
      have h := cz_ite_f c130 h
      by_cases c138 : v2 = (nI 18)
      · have h := cz_ite_t c138 h
        refine lv_tableIn (off := 588) (tgt := 620) hx hb dL_law_32 (by rw [c138]; decide) (by rw [c138]; decide) (by rw [c138]; rfl) (by decide) ?_
        refine lv_aload_n hx hb dL_law_620 rfl (lv_at hl 1 rfl) ?_
        obtain ⟨v139, hq, h⟩ := cz_bd_t h
        refine cz_runVl hcc hss (rest := []) (As := []) (T := TX4) (N0 := 8) X hM hl.1 (c_X4_fault (l := l) (g := g) (b := s.heap.size) ka1 hq) mv_X4_fault rfl (by decide) ka1 ml_L_91 ⟨Nat.le_of_ble_eq_true rfl, Nat.le_of_ble_eq_true rfl⟩ rfl rfl (Nat.le_of_ble_eq_true rfl) dL_law_621 (fun H locs hM => ?_)
        refine lv_aload_n hx hb dL_law_624 rfl (lv_at hl 2 rfl) ?_
        obtain ⟨v141, M140, hq, h⟩ := cz_b2_t h
        refine cz_runVl hcc hss (rest := [.int v139]) (As := []) (T := TX5) (N0 := 12) X hM hl.1 (c_X5_fault (l := l) (g := g) (b := s.heap.size) ka2 hq) mv_X5_fault rfl (by decide) ka2 ml_L_94 ⟨Nat.le_of_ble_eq_true rfl, Nat.le_of_ble_eq_true rfl⟩ rfl rfl (Nat.le_of_ble_eq_true rfl) dL_law_625 (fun H locs hM => ?_)
        refine lv_icmp_eq (tgt := 692) hx hb dL_law_628 (by decide) (fun c142 => ?_) (fun c142 => ?_)
        · have h := cz_ite_t c142 h
          refine cz_nmL (v := x3 + nI 3) h (fun v143 e144 h => ?_)
          refine lv_iinc (v := v143) (lv' := [(3, .int v143), (0, .ref bs), (1, .ref a1), (2, .ref a2)]) hx hb dL_law_692 hl (k := 3) rfl (by rw [e144]; rfl) (by decide) rfl (fun ls hl => ?_)
          refine lv_goto (tgt := 18) hx hb dL_law_695 (by decide) ?_
          exact ih _ _ _ _ _ h hM (lv_sub hl [1, 2, 3, 0] rfl)
        · have h := cz_ite_f c142 h
          refine lv_iconst (v := nI 0) hx hb dL_law_631 (by decide) ?_
          cases h
      have h := cz_ite_f c138 h
      by_cases c145 : v2 = (nI 19)
      · have h := cz_ite_t c145 h
        refine lv_tableIn (off := 601) (tgt := 633) hx hb dL_law_32 (by rw [c145]; decide) (by rw [c145]; decide) (by rw [c145]; rfl) (by decide) ?_
        refine lv_aload_n hx hb dL_law_633 rfl (lv_at hl 1 rfl) ?_
        obtain ⟨v147, M146, hq, h⟩ := cz_b2_t h
        refine cz_runVl hcc hss (rest := []) (As := []) (T := TX4) (N0 := 8) X hM hl.1 (c_X4_undo (l := l) (g := g) (b := s.heap.size) ka1 hq) mv_X4_undo rfl (by decide) ka1 ml_L_95 ⟨Nat.le_of_ble_eq_true rfl, Nat.le_of_ble_eq_true rfl⟩ rfl rfl (Nat.le_of_ble_eq_true rfl) dL_law_634 (fun H locs hM => ?_)
        refine lv_aload_n hx hb dL_law_637 rfl (lv_at hl 2 rfl) ?_
        obtain ⟨v149, M148, hq, h⟩ := cz_b2_t h
        refine cz_runVl hcc hss (rest := [.int v147]) (As := []) (T := TX5) (N0 := 12) X hM hl.1 (c_X5_undo (l := l) (g := g) (b := s.heap.size) ka2 hq) mv_X5_undo rfl (by decide) ka2 ml_L_98 ⟨Nat.le_of_ble_eq_true rfl, Nat.le_of_ble_eq_true rfl⟩ rfl rfl (Nat.le_of_ble_eq_true rfl) dL_law_638 (fun H locs hM => ?_)
        refine lv_icmp_eq (tgt := 692) hx hb dL_law_641 (by decide) (fun c150 => ?_) (fun c150 => ?_)
        · have h := cz_ite_t c150 h
          refine cz_nmL (v := x3 + nI 3) h (fun v151 e152 h => ?_)
          refine lv_iinc (v := v151) (lv' := [(3, .int v151), (0, .ref bs), (1, .ref a1), (2, .ref a2)]) hx hb dL_law_692 hl (k := 3) rfl (by rw [e152]; rfl) (by decide) rfl (fun ls hl => ?_)
          refine lv_goto (tgt := 18) hx hb dL_law_695 (by decide) ?_
          exact ih _ _ _ _ _ h hM (lv_sub hl [1, 2, 3, 0] rfl)
        · have h := cz_ite_f c150 h
          refine lv_iconst (v := nI 0) hx hb dL_law_644 (by decide) ?_
          cases h
      have h := cz_ite_f c145 h
      by_cases c153 : v2 = (nI 20)
      · have h := cz_ite_t c153 h
        refine lv_tableIn (off := 614) (tgt := 646) hx hb dL_law_32 (by rw [c153]; decide) (by rw [c153]; decide) (by rw [c153]; rfl) (by decide) ?_
        refine lv_aload_n hx hb dL_law_646 rfl (lv_at hl 1 rfl) ?_
        refine lv_aload_n hx hb dL_law_647 rfl (lv_at hl 0 rfl) ?_
        refine lv_iload_n hx hb dL_law_648 rfl (lv_at hl 3 rfl) ?_
        refine lv_iconst (v := nI 1) hx hb dL_law_649 (by decide) ?_
        refine lv_iadd hx hb dL_law_650 ?_
        refine cz_sld hx hb hXs hbs hM h dL_law_651 (fun h => ?_)
        obtain ⟨v155, M154, hq, h⟩ := cz_b2_t h
        refine cz_runVl hcc hss (rest := []) (As := [.int (xs (Int32.toNatClampNeg (x3 + (nI 1))))]) (T := TX4) (N0 := 8) X hM hl.1 (c_X4_save (l := l) (g := g) (b := s.heap.size) ka1 hq) mv_X4_save rfl (by decide) ka1 ml_L_99 ⟨Nat.le_of_ble_eq_true rfl, Nat.le_of_ble_eq_true rfl⟩ rfl rfl (Nat.le_of_ble_eq_true rfl) dL_law_652 (fun H locs hM => ?_)
        refine lv_aload_n hx hb dL_law_655 rfl (lv_at hl 2 rfl) ?_
        refine lv_aload_n hx hb dL_law_656 rfl (lv_at hl 0 rfl) ?_
        refine lv_iload_n hx hb dL_law_657 rfl (lv_at hl 3 rfl) ?_
        refine lv_iconst (v := nI 1) hx hb dL_law_658 (by decide) ?_
        refine lv_iadd hx hb dL_law_659 ?_
        refine cz_sld hx hb hXs hbs hM h dL_law_660 (fun h => ?_)
        obtain ⟨v157, M156, hq, h⟩ := cz_b2_t h
        refine cz_runVl hcc hss (rest := [.int v155]) (As := [.int (xs (Int32.toNatClampNeg (x3 + (nI 1))))]) (T := TX5) (N0 := 12) X hM hl.1 (c_X5_save (l := l) (g := g) (b := s.heap.size) ka2 hq) mv_X5_save rfl (by decide) ka2 ml_L_102 ⟨Nat.le_of_ble_eq_true rfl, Nat.le_of_ble_eq_true rfl⟩ rfl rfl (Nat.le_of_ble_eq_true rfl) dL_law_661 (fun H locs hM => ?_)
        refine lv_icmp_eq (tgt := 692) hx hb dL_law_664 (by decide) (fun c158 => ?_) (fun c158 => ?_)
        · have h := cz_ite_t c158 h
          refine cz_nmL (v := x3 + nI 3) h (fun v159 e160 h => ?_)
          refine lv_iinc (v := v159) (lv' := [(3, .int v159), (0, .ref bs), (1, .ref a1), (2, .ref a2)]) hx hb dL_law_692 hl (k := 3) rfl (by rw [e160]; rfl) (by decide) rfl (fun ls hl => ?_)
          refine lv_goto (tgt := 18) hx hb dL_law_695 (by decide) ?_
          exact ih _ _ _ _ _ h hM (lv_sub hl [1, 2, 3, 0] rfl)
        · have h := cz_ite_f c158 h
          refine lv_iconst (v := nI 0) hx hb dL_law_667 (by decide) ?_
          cases h
      have h := cz_ite_f c153 h
      by_cases c161 : v2 = (nI 21)
      · have h := cz_ite_t c161 h
        refine lv_tableIn (off := 637) (tgt := 669) hx hb dL_law_32 (by rw [c161]; decide) (by rw [c161]; decide) (by rw [c161]; rfl) (by decide) ?_
        refine lv_aload_n hx hb dL_law_669 rfl (lv_at hl 1 rfl) ?_
        refine lv_aload_n hx hb dL_law_670 rfl (lv_at hl 0 rfl) ?_
        refine lv_iload_n hx hb dL_law_671 rfl (lv_at hl 3 rfl) ?_
        refine lv_iconst (v := nI 1) hx hb dL_law_672 (by decide) ?_
        refine lv_iadd hx hb dL_law_673 ?_
        refine cz_sld hx hb hXs hbs hM h dL_law_674 (fun h => ?_)
        obtain ⟨v163, M162, hq, h⟩ := cz_b2_t h
        refine cz_runVl hcc hss (rest := []) (As := [.int (xs (Int32.toNatClampNeg (x3 + (nI 1))))]) (T := TX4) (N0 := 8) X hM hl.1 (c_X4_restore (l := l) (g := g) (b := s.heap.size) ka1 hq) mv_X4_restore rfl (by decide) ka1 ml_L_103 ⟨Nat.le_of_ble_eq_true rfl, Nat.le_of_ble_eq_true rfl⟩ rfl rfl (Nat.le_of_ble_eq_true rfl) dL_law_675 (fun H locs hM => ?_)
        refine lv_aload_n hx hb dL_law_678 rfl (lv_at hl 2 rfl) ?_
        refine lv_aload_n hx hb dL_law_679 rfl (lv_at hl 0 rfl) ?_
        refine lv_iload_n hx hb dL_law_680 rfl (lv_at hl 3 rfl) ?_
        refine lv_iconst (v := nI 1) hx hb dL_law_681 (by decide) ?_
        refine lv_iadd hx hb dL_law_682 ?_
        refine cz_sld hx hb hXs hbs hM h dL_law_683 (fun h => ?_)
        obtain ⟨v165, M164, hq, h⟩ := cz_b2_t h
        refine cz_runVl hcc hss (rest := [.int v163]) (As := [.int (xs (Int32.toNatClampNeg (x3 + (nI 1))))]) (T := TX5) (N0 := 12) X hM hl.1 (c_X5_restore (l := l) (g := g) (b := s.heap.size) ka2 hq) mv_X5_restore rfl (by decide) ka2 ml_L_106 ⟨Nat.le_of_ble_eq_true rfl, Nat.le_of_ble_eq_true rfl⟩ rfl rfl (Nat.le_of_ble_eq_true rfl) dL_law_684 (fun H locs hM => ?_)
        refine lv_icmp_eq (tgt := 692) hx hb dL_law_687 (by decide) (fun c166 => ?_) (fun c166 => ?_)
        · have h := cz_ite_t c166 h
          refine cz_nmL (v := x3 + nI 3) h (fun v167 e168 h => ?_)
          refine lv_iinc (v := v167) (lv' := [(3, .int v167), (0, .ref bs), (1, .ref a1), (2, .ref a2)]) hx hb dL_law_692 hl (k := 3) rfl (by rw [e168]; rfl) (by decide) rfl (fun ls hl => ?_)
          refine lv_goto (tgt := 18) hx hb dL_law_695 (by decide) ?_
          exact ih _ _ _ _ _ h hM (lv_sub hl [1, 2, 3, 0] rfl)
        · have h := cz_ite_f c166 h
          refine lv_iconst (v := nI 0) hx hb dL_law_690 (by decide) ?_
          cases h
      have h := cz_ite_f c161 h
      refine lv_tableOut (tgt := 692) hx hb dL_law_32 (by
        have e0 := lv_neT c3 (show ((nI 0) : Int32).toInt = 0 from by decide)
        have e1 := lv_neT c11 (show ((nI 1) : Int32).toInt = 1 from by decide)
        have e2 := lv_neT c19 (show ((nI 2) : Int32).toInt = 2 from by decide)
        have e3 := lv_neT c27 (show ((nI 3) : Int32).toInt = 3 from by decide)
        have e4 := lv_neT c35 (show ((nI 4) : Int32).toInt = 4 from by decide)
        have e5 := lv_neT c43 (show ((nI 5) : Int32).toInt = 5 from by decide)
        have e6 := lv_neT c51 (show ((nI 6) : Int32).toInt = 6 from by decide)
        have e7 := lv_neT c57 (show ((nI 7) : Int32).toInt = 7 from by decide)
        have e8 := lv_neT c63 (show ((nI 8) : Int32).toInt = 8 from by decide)
        have e9 := lv_neT c71 (show ((nI 9) : Int32).toInt = 9 from by decide)
        have e10 := lv_neT c77 (show ((nI 10) : Int32).toInt = 10 from by decide)
        have e11 := lv_neT c83 (show ((nI 11) : Int32).toInt = 11 from by decide)
        have e12 := lv_neT c90 (show ((nI 12) : Int32).toInt = 12 from by decide)
        have e13 := lv_neT c98 (show ((nI 13) : Int32).toInt = 13 from by decide)
        have e14 := lv_neT c106 (show ((nI 14) : Int32).toInt = 14 from by decide)
        have e15 := lv_neT c114 (show ((nI 15) : Int32).toInt = 15 from by decide)
        have e16 := lv_neT c122 (show ((nI 16) : Int32).toInt = 16 from by decide)
        have e17 := lv_neT c130 (show ((nI 17) : Int32).toInt = 17 from by decide)
        have e18 := lv_neT c138 (show ((nI 18) : Int32).toInt = 18 from by decide)
        have e19 := lv_neT c145 (show ((nI 19) : Int32).toInt = 19 from by decide)
        have e20 := lv_neT c153 (show ((nI 20) : Int32).toInt = 20 from by decide)
        have e21 := lv_neT c161 (show ((nI 21) : Int32).toInt = 21 from by decide)
        clear h; omega) (by decide) ?_
      refine cz_nmL (v := x3 + nI 3) h (fun v169 e170 h => ?_)
      refine lv_iinc (v := v169) (lv' := [(3, .int v169), (0, .ref bs), (1, .ref a1), (2, .ref a2)]) hx hb dL_law_692 hl (k := 3) rfl (by rw [e170]; rfl) (by decide) rfl (fun ls hl => ?_)
      refine lv_goto (tgt := 18) hx hb dL_law_695 (by decide) ?_
      exact ih _ _ _ _ _ h hM (lv_sub hl [1, 2, 3, 0] rfl)
