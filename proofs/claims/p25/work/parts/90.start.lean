section LS
variable {p : Program} {l : Launch} {e : Env} {R : Room} {s : State} {m : MethodId} {args : Array Value} {below : List Frame} {meth : Method} {c : Code} {H : Heap} {locs : List Loc} {cells slots : Nat} {Q : State → Prop}
variable {cc : ByteArray} {pc nL : Nat} {ls : Array Slot} {rest : List Value} {g : cz_G} {b n : Nat} {C : Nat → va_E} {own : String}
theorem cz_Lnewo {C0 : String} {T : u_T} {idx N0 ci : Nat} {ty0 : Nat → FieldType} {fs : List Value} (hx : p.tables.exec = Jvm.exec) (hb : c.code = cc) (ho : s.vm.findClass own = some m.cls) (ht : ∀ w ∈ lw_gd, w.before args s = true) (hK : va_K g.2 vwCl (cz_tys g.1) s) (hW : cz_N g b n C s H locs) (hc : vwCl[ci]? = some (C0, T, N0)) (hin : ∀ w ∈ u_ws C0 T N0, w ∈ lw_gd) (hty : ∀ k, k < N0 → parseFieldDescriptor (T k).2.2.1 = some (ty0 k)) (hcl : Cond.classLink own idx C0 ∈ lw_gd) (his : Cond.instantiable C0 N0 ∈ lw_gd) (hini : Cond.initialized C0 ∈ lw_gd) (hfs : ∀ j, j < N0 → defaultValue (ty0 j) = vp_V fs j)
    (hcells : cells + 1 ≤ R.cells) (hslots : slots + N0 ≤ R.slots) (hd : decode cc pc = .ok (.new idx, 3))
    (kk : ∀ (H : Heap), cz_N g b (n + 1) (va_up C n (.inr (ci, fs))) s H locs → W p l e R s m args below meth c H locs (cells + 1) (slots + N0) Q (F0 m (pc + 3) ls (.ref (b + n) :: rest))) : W p l e R s m args below meth c H locs cells slots Q (F0 m pc ls rest) := by
  have hKn := hK.1 ci _ hc
  refine W.newcK hx hb ho (ht _ hcl) (ht _ his) (ht _ hini) rfl hd hcells hslots hKn.2.1 hW.2.1 fun H1 kC hkC e1 z1 o1 => ?_
  exact kk H1 (cz_Nold hW z1 o1 ⟨_, hc, (u_born ty0 ht hin hKn hkC e1 hty).to hfs⟩)
theorem cz_LrunI {y : MethodName} {cc' : ByteArray} {maxL idx F N mc ms o n' : Nat} {C' : Nat → va_E} (hx : p.tables.exec = Jvm.exec) (hb : c.code = cc) (hml : c.maxLocals = nL) (ho : s.vm.findClass own = some m.cls) (hts : ∀ w ∈ lw_gd, w.before args s = true) (hK : va_K g.2 vwCl (cz_tys g.1) s) (hex : cz_EX s) (hW : cz_N g b n C s H locs) (hls : ls.size = nL) (hC : cz_CN l y cc' maxL F N mc ms g b o n C n' C') (hy : cz_MI y cc' maxL) (hl : Cond.methodLink own idx y ∈ lw_gd) (hR : F + 1 ≤ R.frames ∧ 8 + (maxL + 11) + N ≤ R.locals) (hf : cells + mc ≤ R.cells ∧ slots + ms ≤ R.slots) (hro : (rest.map fun v => v.category).sum ≤ 8) (hd : decode cc pc = .ok (.invokespecial idx, 3))
    (kk : ∀ (H : Heap) (locs : List Loc), cz_N g b n' C' s H locs → W p l e R s m args below meth c H locs (cells + mc) (slots + ms) Q (F0 m (pc + 3) ls rest)) : W p l e R s m args below meth c H locs cells slots Q (F0 m pc ls (.ref (b + o) :: rest)) := by
  exact cz_Nback (va_runI (As := []) (rest := rest) ⟨hx, hb, hml, ho, hts⟩ hC ⟨callB_of 0 hts (cz_inI hy) rfl rfl rfl (hts _ hy.2.2.1) (hts _ hl) hy.2.2.2.2 hR, hy.2.2.2.1, hts _ hy.1⟩ ⟨cz_Nblind, fun U hU hw => ⟨rfl, va_K.moved hw.alike hK, by rw [hU]; exact hW.1, by rw [hU]; exact hW.2.1, hex.warm hw⟩⟩ rfl rfl hls rfl (lv_room hro) hd hf) hW kk
theorem cz_arrP {ty : FieldType} (h : (Cond.arrayClass ty).before args s = true) (hra : ∀ cA, va_RA s cA ty = (s.vm.findClass ("[" ++ ty.toString) = some cA)) : ∃ cA, ArrOfT s cA ty ∧ va_RA s cA ty := by
  obtain ⟨cA, k, comp, h1, h2, h3⟩ := Cond.arrayClass_spec h
  exact ⟨cA, fun n z => ⟨fun k h => (by cases h), k, h2, comp, h3⟩, by rw [hra]; exact h1⟩
theorem cz_arrQ {C0 : String} (h : (Cond.arrayOver (.object C0)).before args s = true) : ∃ cA, ArrOfT s cA (.object C0) ∧ va_RA s cA (.object C0) := by
  obtain ⟨comp, cA, k, h1, h2, h3, h4, h5⟩ := Cond.arrayOver_spec h
  exact ⟨cA, fun n z => ⟨fun k h => (by cases h), k, h3, comp, h4⟩, k, comp, h3, h4, h1, h5⟩
end LS
set_option maxHeartbeats 8000000 in
set_option maxRecDepth 100000 in
/-- THE LAW, from its entry -/
theorem whole_start {p : Program} {e : Env} {s : State} {m : MethodId} {below : List Frame} {meth : Method} {c : Code} (l : Launch) (hflags : l.flags = flags0) {b L : Nat} {xs : Nat → Int32} (hL : L ≤ 260) (C0 : lw_At p s m meth c b L xs) : W p l e room_1 s m #[Value.ref b] below meth c s.heap [] 0 0 (lw_Z below #[Value.ref b] s) (entryFrame m ([Value.ref b] : List Value).toArray 7) := by
  obtain ⟨hx, hb, hr, hml, hown, hts, hX, hbl, hlocks, hgv⟩ := C0
  have ht : ∀ w ∈ lw_gd, w.before #[Value.ref b] s = true := fun w h => hts w (gd_tbl h)
  have hown : s.vm.findClass RL = some m.cls := hown
  obtain ⟨c0, i0, k0⟩ := u_known (C := RX0) (T := TX0) (N := 4) (n := 4) ht inX0 (ht _ is_X0)
  obtain ⟨c1, i1, k1⟩ := u_known (C := RX1) (T := TX1) (N := 11) (n := 11) ht inX1 (ht _ is_X1)
  obtain ⟨c2, i2, k2⟩ := u_known (C := RX2) (T := TX2) (N := 9) (n := 9) ht inX2 (ht _ is_X2)
  obtain ⟨c3, i3, k3⟩ := u_known (C := RX3) (T := TX3) (N := 2) (n := 2) ht inX3 (ht _ is_X3)
  obtain ⟨c4, i4, k4⟩ := u_known (C := RX4) (T := TX4) (N := 8) (n := 8) ht inX4 (ht _ is_X4)
  obtain ⟨y0, a0⟩ := cz_arrP (ht _ ac_int) (fun _ => rfl)
  obtain ⟨y1, a1⟩ := cz_arrP (ht _ ac_char) (fun _ => rfl)
  obtain ⟨y2, a2⟩ := cz_arrP (ht _ ac_boolean) (fun _ => rfl)
  obtain ⟨y3, a3⟩ := cz_arrQ (hts _ ao_X0)
  obtain ⟨y4, a4⟩ := cz_arrQ (hts _ ao_X1)
  obtain ⟨y5, a5⟩ := cz_arrQ (hts _ ao_X3)
  obtain ⟨y6, a6⟩ := cz_arrQ (hts _ ao_X2)
  obtain ⟨g, hK⟩ : ∃ g : cz_G, va_K g.2 vwCl (cz_tys g.1) s := by
    refine ⟨(fun k => if k = 0 then y0 else if k = 1 then y1 else if k = 2 then y2 else if k = 3 then y3 else if k = 4 then y4 else if k = 5 then y5 else y6, fun k => if k = 0 then c0 else if k = 1 then c1 else if k = 2 then c2 else if k = 3 then c3 else c4, fun k => if k = 0 then i0 else if k = 1 then i1 else if k = 2 then i2 else if k = 3 then i3 else i4), ?_, ?_⟩
    · intro k q hq
      match k, hq with
      | 0, hq => cases hq; exact k0
      | 1, hq => cases hq; exact k1
      | 2, hq => cases hq; exact k2
      | 3, hq => cases hq; exact k3
      | 4, hq => cases hq; exact k4
      | k + 5, hq => simp [vwCl] at hq
    · intro k q hq
      match k, hq with
      | 0, hq => cases hq; exact a0
      | 1, hq => cases hq; exact a1
      | 2, hq => cases hq; exact a2
      | 3, hq => cases hq; exact a3
      | 4, hq => cases hq; exact a4
      | 5, hq => cases hq; exact a5
      | 6, hq => cases hq; exact a6
      | k + 7, hq => simp [cz_tys] at hq
  have hex : cz_EX s := ⟨va_AO.of (hts _ ao_X0), va_AO.of (hts _ ao_X1), va_AO.of (hts _ ao_X3), va_AO.of (hts _ ao_X2), va_Nw.of rfl (hts _ ml_X2_36), va_Nw.of rfl (hts _ ml_X2_44), va_Nw.of rfl (hts _ ml_X2_45)⟩
  have hs := flat_of_before _ hgv
  have hA : ∀ a : Nat, a < s.heap.size → ¬ (fun q => s.heap.size ≤ q) a := fun a h => Nat.not_le.mpr h
  have hST : cz_ST s.heap.size s s.heap := by
    refine ⟨?_, ?_⟩
    · have e0 : (Cond.eq (.elem (.static RX4 "LEAST_VALUES" "[I") (.int 0)) (.int 1)).before #[Value.ref b] s = true := hs _ (by decide +kernel)
      have e1 : (Cond.eq (.elem (.static RX4 "LEAST_VALUES" "[I") (.int 1)) (.int 0)).before #[Value.ref b] s = true := hs _ (by decide +kernel)
      have e2 : (Cond.eq (.elem (.static RX4 "LEAST_VALUES" "[I") (.int 2)) (.int 1)).before #[Value.ref b] s = true := hs _ (by decide +kernel)
      have e3 : (Cond.eq (.length (.static RX4 "LEAST_VALUES" "[I")) (.int 3)).before #[Value.ref b] s = true := hs _ (by decide +kernel)
      have e4 : (Cond.arrayOf (.static RX4 "LEAST_VALUES" "[I") .int).before #[Value.ref b] s = true := hs _ (by decide +kernel)
      obtain ⟨t, h1, h2⟩ := va_Tof (f := fun j => .int (if j = 0 then 1 else if j = 1 then 0 else 1)) (N := 3) (by decide) e4 (va_eqt e3) (fun j hj => by
        rcases (show j = 0 ∨ j = 1 ∨ j = 2 by omega) with rfl | rfl | rfl
        · exact va_eqt e0
        · exact va_eqt e1
        · exact va_eqt e2) hA
      exact ⟨t, va_Zof (hts _ ls_LEAST_VALUES) (ht _ ini_X4) h1 hA, h2⟩
    · have e0 : (Cond.eq (.elem (.static RX4 "MOST_VALUES" "[I") (.int 0)) (.int 9)).before #[Value.ref b] s = true := hs _ (by decide +kernel)
      have e1 : (Cond.eq (.elem (.static RX4 "MOST_VALUES" "[I") (.int 1)) (.int 8)).before #[Value.ref b] s = true := hs _ (by decide +kernel)
      have e2 : (Cond.eq (.elem (.static RX4 "MOST_VALUES" "[I") (.int 2)) (.int 5)).before #[Value.ref b] s = true := hs _ (by decide +kernel)
      have e3 : (Cond.eq (.length (.static RX4 "MOST_VALUES" "[I")) (.int 3)).before #[Value.ref b] s = true := hs _ (by decide +kernel)
      have e4 : (Cond.arrayOf (.static RX4 "MOST_VALUES" "[I") .int).before #[Value.ref b] s = true := hs _ (by decide +kernel)
      obtain ⟨t, h1, h2⟩ := va_Tof (f := fun j => .int (if j = 0 then 9 else if j = 1 then 8 else 5)) (N := 3) (by decide) e4 (va_eqt e3) (fun j hj => by
        rcases (show j = 0 ∨ j = 1 ∨ j = 2 by omega) with rfl | rfl | rfl
        · exact va_eqt e0
        · exact va_eqt e1
        · exact va_eqt e2) hA
      exact ⟨t, va_Zof (hts _ ls_MOST_VALUES) (ht _ ini_X4) h1 hA, h2⟩
  have hX4 : cz_X p s m #[Value.ref b] meth c code 7 RL g s.heap.size ret := ⟨hx, hb, hml, hown, ht, hK, hST, hr, hlocks⟩
  rw [lg_entry_eq]
  have hl := lv_entry [Value.ref b] (n := 7) (Nat.le_of_ble_eq_true rfl)
  generalize (lg_sl [Value.ref b] ++ List.replicate (7 - (lg_sl [Value.ref b]).length) Slot.unset).toArray = ls at hl ⊢
  have hl : lv_has ls 7 [(0, .ref b)] := hl
  have hW : cz_N g s.heap.size 0 (fun _ => .inr (0, [])) s s.heap [] := ⟨fun k q hk => by simp [cz_wf] at hk, rfl, va_S.rf⟩
  refine cz_Lnewo (ci := 4) (ty0 := tyX4) (fs := [.null, .null, .null, .null, .null, .null, .int 0, .int 0]) hx hb hown ht hK hW rfl inX4 tyX4_ok cl_L_10 is_X4 ini_X4 (by decide +kernel) (Nat.le_of_ble_eq_true rfl) (Nat.le_of_ble_eq_true rfl) dL_law_0 (fun H hW => ?_)
  refine lv_dup hx hb dL_law_3 rfl ?_
  refine cz_LrunI (o := 0) hx hb hml hown ht hK hex hW hl.1 (cN_X4 (by simp [va_up])) mI_X4 ml_L_93 ⟨Nat.le_of_ble_eq_true rfl, Nat.le_of_ble_eq_true rfl⟩ ⟨Nat.le_of_ble_eq_true rfl, Nat.le_of_ble_eq_true rfl⟩ (Nat.le_of_ble_eq_true rfl) dL_law_4 (fun H locs hW => ?_)
  refine lv_astore_n (lv' := [(1, .ref (s.heap.size + 0)), (0, .ref b)]) hx hb dL_law_7 rfl hl (by decide) rfl (fun ls hl => ?_)
  obtain ⟨w1, w2, w3⟩ := cz_whole_P g s.heap.size s H locs hW
  exact w_L_law_L8 hX4 hX hbl (a1 := s.heap.size) ⟨by omega, by omega, by rw [Nat.sub_self]; decide +kernel⟩ (cz_M0 s.heap.size) H locs ls (pure_law s.heap.size L xs hL) ⟨by rw [List.append_nil]; exact w1, w2, w3, cz_nilD⟩ hl
-- ===== YOUR PART ENDS =====
set_option maxHeartbeats 4000000 in
theorem lw_walk (l : Launch) (hflags : l.flags = flags0) (b : Addr) (xs : List Int32) : MetFree l x (headSpec (Jvm.Cond.code x code maxLocals ret :: tables_1) room_1) (lw_P b xs) (fun _ _ _ _ _ => True) lw_Q := by
  refine MetFree.of_bodyS (code := code) (maxLocals := maxLocals) (ret := ret) (by decide) ?_ ?_
  · intro args s m h hn
    obtain ⟨meth, c, h1, h2, h3, h4, h5, h6, -, -⟩ := Cond.code_spec hn (atoms_spec (ws := Jvm.Cond.code x code maxLocals ret :: tables_1) h _ List.mem_cons_self)
    exact ⟨meth, c, h1, h2, h3, h4, h5, h6⟩
  · intro p e s m args below meth c s₁ B hml0 hP _
    obtain ⟨rfl, hx, hbd, hgv⟩ := hP
    obtain ⟨scr, harrAt, hlist, hof, hsmall⟩ := hx
    obtain ⟨hcb, hkn, -, -⟩ := State.arrayAt?_spec harrAt
    have hown : s.vm.findClass R_law = some m.cls := findClass_of_methodNamed B.named
    have hts0 : ∀ c ∈ (Jvm.Cond.code x code maxLocals ret :: tables_1), c.before #[Value.ref b] s = true := atoms_spec (ws := Jvm.Cond.code x code maxLocals ret :: tables_1) B.pre
    have hts : ∀ w ∈ lw_tbl, w.before #[Value.ref b] s = true := k2_hts_sels lw_privs (fun w hw => hts0 w (List.mem_cons_of_mem _ hw)) lw_privs_ok
    have hml : c.maxLocals = 7 := B.maxLocals_eq (hts0 _ List.mem_cons_self)
    have X₀ : Stand p l e room_1 s m #[Value.ref b] below meth c s₁ [] 0 0 := Stand.of_body B
    have hh0 : s₁.heap = s.heap := by rw [B.state]; rfl
    have hsz : scr.slots.size = xs.length := by rw [← Array.length_toList, hlist, List.length_map]
    have hval : ∀ j : Nat, j < xs.length → scr.slots[j]? = some (.int (xs.getD j 0)) := fun j hj => by
      rw [← Array.getElem?_toList, hlist]
      simp [hj]
    have hbl : b < s.heap.size := (Array.getElem?_eq_some_iff.mp hcb).1
    have hX : va_X b xs.length (fun j => xs.getD j 0) s s.heap := ⟨scr, hcb, hof, hkn, hsz, hval⟩
    have K : W p l e room_1 s m #[Value.ref b] below meth c s₁.heap [] 0 0 (lw_Z below #[Value.ref b] s) (entryFrame m ([Value.ref b] : List Value).toArray 7) := by
      rw [hh0]
      exact whole_start l hflags hbd ⟨B.exec, B.bytes, B.returns, hml, hown, hts, hX, hbl, B.notSynchronized, hgv⟩
    obtain ⟨t, a1, o, b1, b2, b3⟩ := K s₁ rfl X₀
    exact ⟨t, o, a1, b1, b2, b3⟩
theorem lw_pre_spec {args : Array Value} {s : State} (h : (Jvm.Cond.and given_1 narrow_1).before args s = true) (hr : rest_1_c.before args s = true) : ∃ (b : Addr) (xs : List Int32), lw_P b xs args s := by
  have hs := flat_of_before _ h
  have hq := flat_of_before _ hr
  have hc : (Cond.count 1).before args s = true := hs _ (by decide +kernel)
  have harr : (Cond.arrayOf (.arg 0) .int).before args s = true := hs _ (by decide +kernel)
  have hle : (Cond.le (.length (.arg 0)) (.int 260)).before args s = true := hs _ (by decide +kernel)
  have hlen : (Cond.isInt (.length (.arg 0))).before args s = true := hq _ (by decide +kernel)
  have hall : (Cond.all (.arg 0) (.isInt (.elem (.arg 0) (.index 0)))).before args s = true := hq _ (by decide +kernel)
  obtain ⟨b, xs, hb, hx⟩ := State.ints_of_pre rfl harr hlen hall
  have hsm : xs.length < 2 ^ 31 := hx.choose_spec.2.2.2
  have hev : (Term.length (.arg 0)).eval args s none [] s = some (.int xs.length.toInt32) := hx.length_eval hb
  have hv := Cond.le_ints hev (show (Term.int 260).eval args s none [] s = some (.int 260) from rfl)
  have hd : xs.length.toInt32 ≤ 260 := by
    simpa [Cond.before, Cond.holds, hv] using hle
  have hN : xs.length ≤ 260 := (Int32.ofNat_le_ofNat hsm (by decide)).mp (show Int32.ofNat xs.length ≤ Int32.ofNat 260 from hd)
  exact ⟨b, xs, Cond.one_arg hc (show args[0]? = some (.ref b) from hb), hx, hN, h⟩
theorem lw_comes (l : Launch) (hflags : l.flags = flags0) : Comes l x (Jvm.Cond.code x code maxLocals ret :: tables_1) room_1 (fun tb e args s => Calls_1 tb e args s ∧ rest_1 tb e args s ∧ Pre_1 tb e args s)
    (fun _ _ args s o t => lw_Q args s o t) := by
  intro p e ha hc hk s m args below hf hfit hheap happ hpre
  obtain ⟨b, xs, hP⟩ := lw_pre_spec hpre.2.2 hpre.2.1
  obtain ⟨k, o, h1, h2, h3, hQ⟩ := lw_walk l hflags b xs p e ha hc hk s m args below hf ((Spec.applies_iff_loose hf).mp happ).1 hP trivial
  exact ⟨k, o, h1, h2, h3, hQ⟩
theorem lw_frame {s t : State} {o : Outcome} {args : Array Value} (h : Framed s o t [] 600000 7302250) :
    Framed s o t (fieldLocs frame_1_writes args s ++ arrayLocs frame_1_arrays args s ++ staticLocs frame_1_statics s) 600000 7302250 := h
theorem lw_limb (L : Cond) (hL : ∀ (args : Array Value) (s t : State), L.after args s (.returned (some (.int 1))) t = true) :
    ArmFor flags0 classFile x code maxLocals ret World_1 tables_1 room_1 Calls_1 rest_1 Pre_1
      (fun tb e a s o t => postC L tb e a s o t ∧ Framed s o t (fieldLocs frame_1_writes a s ++ arrayLocs frame_1_arrays a s ++ staticLocs frame_1_statics s) 600000 7302250) := by
  intro l hflags _ _ p e ha hc hk s m args below hf hfit hheap happ hpre
  obtain ⟨k, o, h1, h2, h3, rfl, hF⟩ := lw_comes l hflags p e ha hc hk s m args below hf hfit hheap happ hpre
  exact ⟨k, _, h1, h2, h3, hL args s _, lw_frame hF⟩
theorem i_vc : Claimed_1_1 ∧ Claimed_1_2 := ⟨lw_limb limb_1_1 (fun args s t => by simp [limb_1_1, Cond.after, Cond.holds, Cond.value]), lw_limb limb_1_2 (fun args s t => Cond.after_iff.mpr (by
  first | (rw [show limb_1_2 = Cond.eq .result (.int 1) from rfl, Cond.eq_ints (x := 1) (y := 1) rfl rfl]; simp; done) | (simp [limb_1_2, Cond.value, Term.eval]; done)))⟩
