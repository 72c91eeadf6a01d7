/-! the law's methods that make arrays of ints: the class's cells, and the arrays S behind them -/
def cz_sc (g : cz_G) (t n : Nat) (f : Nat → Int32) : Nat × va_E := (t, .inl (g.1 0, n, .inl f))
def cz_WT (g : cz_G) (b : Nat) (M : cz_M) (S : va_W) (s : State) (H : Heap) (locs : List Loc) : Prop := va_P g.2 vwCl (cz_wl g.1 b M ++ S) H ∧ (∀ j, j < 4 → cz_K b (M.2.2 j) 2) ∧ va_S (fun q => b ≤ q) s.heap H locs ∧ va_D (fun q => b + 461 ≤ q) S
def cz_QD (g : cz_G) (b : Nat) (v : Option Value) (M : cz_M) : Array Value → State → Outcome → State → Prop := fun _ st oc t => (oc = .returned v ∧ cz_WW g b M t) ∧ va_F (fun q => b ≤ q) st t
def cz_D (l : Launch) (y : MethodName) (cc : ByteArray) (maxL : Nat) (ret : Option FieldType) (F N mc ms : Nat) (g : cz_G) (b : Nat) (av : List Value) (M : cz_M) (v : Option Value) (M' : cz_M) : Prop :=
  Met l y (Cond.code y cc maxL ret :: lw_gd) { frames := F, cells := mc, slots := ms, locals := N } (va_Pc av (fun U => cz_WW g b M U)) (cz_QD g b v M') mc ms (fun q => b ≤ q)
theorem cz_nilD {A : Nat → Prop} : va_D A [] := ⟨fun i j p q h => by simp at h, fun k q h => by simp at h⟩
theorem cz_startD {l : Launch} {y : MethodName} {cc : ByteArray} {maxL : Nat} {ret : Option FieldType} {F N mc ms : Nat} {g : cz_G} {b : Nat} {av : List Value} {M M' : cz_M} {v : Option Value} (hy : plainName y.cls = true) (hlen : (lg_sl av).length ≤ maxL)
    (body : ∀ (p : Program) (e : Env) (s : State) (m : MethodId) (args : Array Value) (below : List Frame) (meth : Method) (c : Code), cz_X p s m args meth c cc maxL y.cls g b ret → ∀ (H : Heap) (ls : Array Slot), cz_WT g b M [] s H [] → lv_has ls maxL (lv_args 0 av) →
      W p l e { frames := F, cells := mc, slots := ms, locals := N } s m args below meth c H [] 0 0 (MQ below (cz_QD g b v M') args s mc ms (fun q => b ≤ q)) (F0 m 0 ls [])) : cz_D l y cc maxL ret F N mc ms g b av M v M' := by
  refine Met.ofW (cc := cc) (maxL := maxL) (ret := ret) hy rfl ?_
  intro p e s m args below meth c s₁ B hml hv
  obtain ⟨rfl, hK, hP, hp, hst⟩ := hv
  rw [lg_entry_eq]
  have hts := atoms_spec (ws := Cond.code y cc maxL ret :: lw_gd) B.pre
  exact body p e s m _ below meth c ⟨B.exec, B.bytes, hml, findClass_of_methodNamed B.named, fun w h => hts w (List.mem_cons_of_mem _ h), hK, hst, B.returns, B.notSynchronized⟩ _ _ ⟨by rw [List.append_nil]; exact hP, hp, va_S.rf, cz_nilD⟩ (lv_entry av hlen)
/-- the contract of the law's method that reads the script -/
def cz_E (l : Launch) (y : MethodName) (cc : ByteArray) (maxL : Nat) (ret : Option FieldType) (F N : Nat) (g : cz_G) (b bs L : Nat) (xs : Nat → Int32) (av : List Value) (M : cz_M) (v : Option Value) : Prop :=
  Met l y (Cond.code y cc maxL ret :: lw_gd) { frames := F, cells := 0, slots := 0, locals := N } (va_Pc av (fun U => cz_WW g b M U ∧ va_X bs L xs U U.heap ∧ bs < b)) (cz_Q g b v M) 0 0 (cz_Ar b)
section TM
variable {p : Program} {l : Launch} {e : Env} {R : Room} {s : State} {m : MethodId} {args : Array Value} {below : List Frame} {meth : Method} {c : Code} {H : Heap} {locs : List Loc} {cells slots : Nat} {Q : State → Prop}
variable {cc : ByteArray} {pc nL : Nat} {ls : Array Slot} {rest : List Value} {g : cz_G} {b a : Nat} {own : String} {rt : Option FieldType} {M : cz_M} {S : va_W} {α : Type} {res : α}
theorem cz_nmil {v : Int32} {K : Int32 → Option α} (h : cz_lt v K = some res) (kk : ∀ v : Int32, K v = some res → W p l e R s m args below meth c H locs cells slots Q (F0 m pc ls (.int v :: rest))) : W p l e R s m args below meth c H locs cells slots Q (F0 m pc ls (.int v :: rest)) := kk v h
theorem cz_T_P (hM : cz_WT g b M S s H locs) : va_P g.2 vwCl (cz_wl g.1 b M) H := hM.1.by id (fun k q hk => by
  rw [id, List.getElem?_append_left (List.getElem?_eq_some_iff.mp hk).1]; exact hk)
theorem cz_T_S (hM : cz_WT g b M S s H locs) : va_P g.2 vwCl S H := hM.1.by (fun k => 461 + k) (fun k q hk => by
  rw [List.getElem?_append_right (by rw [cz_wl_len]; omega), cz_wl_len, Nat.add_sub_cancel_left]; exact hk)
theorem cz_T_j {j : Nat} {q : Nat × va_E} (h : S[j]? = some q) : (cz_wl g.1 b M ++ S)[461 + j]? = some q := by
  rw [List.getElem?_append_right (by rw [cz_wl_len]; omega), cz_wl_len, Nat.add_sub_cancel_left]; exact h
theorem cz_T_D (h : va_D (fun q => b + 461 ≤ q) S) : va_D (fun q => b ≤ q) (cz_wl g.1 b M ++ S) := by
  refine va_D.app ((cz_wl_D g.1 b M).weaken (fun k q _ h => h.1)) (h.weaken (fun k q _ h => Nat.le_trans (Nat.le_add_right _ _) h)) (fun i j p q hp hq => ?_)
  have h1 := ((cz_wl_D g.1 b M).2 i p hp).2
  have h2 : b + 461 ≤ q.1 := h.2 j q hq
  omega
theorem cz_T_set {j : Nat} {q : Nat × va_E} : (cz_wl g.1 b M ++ S).set (461 + j) q = cz_wl g.1 b M ++ S.set j q := by
  rw [List.set_append, cz_wl_len, if_neg (by omega), Nat.add_sub_cancel_left]
theorem cz_Tpre (X : cz_X p s m args meth c cc nL own g b rt) (hM : cz_WT g b M S s H locs) (U : State) (hU : U.heap = H) (hW : s.WarmedH U.vm) : cz_WW g b M U := by
  obtain ⟨hx, hb, hml, ho, ht, hKK, hst, hr, hlk⟩ := X
  exact ⟨va_K.moved hW.alike hKK, by rw [hU]; exact cz_T_P hM, hM.2.1, hst.gol hW.alike (by rw [hU]; exact hM.2.2.1.2.1)⟩
theorem cz_Tnew {atype : ArrayType} {N' : Nat} {v : Int32} {K : (Nat → Int32) → Option α} (X : cz_X p s m args meth c cc nL own g b rt) (hM : cz_WT g b M S s H locs) (h : cz_lt (fun _ => (0 : Int32)) K = some res) (hty : newarray.typeOf atype = .int) (harr : Cond.arrayClass .int ∈ lw_gd) (hv : ¬ v < 0) (hN : v.toNatClampNeg = N') (hby : N' * 4 ≤ 536870912) (hcells : cells + 1 ≤ R.cells) (hslots : slots + N' ≤ R.slots) (hd : decode cc pc = .ok (.newarray atype, 2))
    (kk : ∀ (f : Nat → Int32) (t : Nat) (H : Heap), K f = some res → cz_WT g b M (S ++ [cz_sc g t N' f]) s H locs → W p l e R s m args below meth c H locs (cells + 1) (slots + N') Q (F0 m (pc + 2) ls (.ref t :: rest))) : W p l e R s m args below meth c H locs cells slots Q (F0 m pc ls (.int v :: rest)) := by
  obtain ⟨hx, hb, hml, ho, ht, hK, -⟩ := X
  have hsz : b + 461 ≤ H.size := by
    have h1 := (cz_T_P hM 460 _ (cz_wl_at g.1 b M (by decide))).lt
    have h2 : b + 460 < H.size := h1
    omega
  have harr' := harr
  rw [← hty] at harr'
  refine va_newaK hx hb (ht _ harr') rfl hd rfl hv hN (by rw [hty]; exact hby) hcells hslots rfl fun H1 cA e1 z1 o1 hAr hNm => ?_
  refine kk _ H.size H1 h ⟨?_, hM.2.1, ⟨Nat.le_trans hM.2.2.1.1 (by omega), fun q h1 h2 => ?_, hM.2.2.1.2.2⟩, hM.2.2.2.push (cz_T_S hM) rfl hsz⟩
  · rw [← List.append_assoc]
    refine (hM.1.kept (fun k q hk => o1 q.1 (hM.1 k q hk).lt)).app (fun k q hk => ?_)
    have h1 : k < 1 := (List.getElem?_eq_some_iff.mp hk).1
    rw [show k = 0 by omega] at hk
    cases hk
    rw [hty] at e1 hNm
    have h2 := (hK.2 0 _ (show (cz_tys g.1)[0]? = some (g.1 0, .int) from rfl)).2
    have h3 : cA = g.1 0 := Option.some.inj (hNm.symm.trans h2)
    subst h3
    show H1[H.size]? = some (vp_cell _ _)
    rw [vp_cell_i, e1]
    rfl
  · rw [o1 q (Nat.lt_of_lt_of_le h1 hM.2.2.1.1)]
    exact hM.2.2.1.2.1 q h1 h2
theorem cz_Tald {j n t : Nat} {f : Nat → Int32} {i : Int32} {K : Option α} (X : cz_X p s m args meth c cc nL own g b rt) (hM : cz_WT g b M S s H locs) (h : cz_gd (cz_ib i n) K = some res) (hj : S[j]? = some (cz_sc g t n f)) (hd : decode cc pc = .ok (.iaload, 1))
    (kk : K = some res → W p l e R s m args below meth c H locs cells slots Q (F0 m (pc + 1) ls (.int (f i.toNatClampNeg) :: rest))) : W p l e R s m args below meth c H locs cells slots Q (F0 m pc ls (.int i :: .ref t :: rest)) := by
  obtain ⟨hi, hK⟩ := cz_gd_t h
  obtain ⟨hx, hb, -, ho, ht, hKK, -⟩ := X
  exact va_iald hx hb hKK hM.1 (461 + j) 0 (cz_T_j hj) rfl (cz_ib_in hi) hd (kk hK)
theorem cz_Tast {j n t : Nat} {f : Nat → Int32} {i v : Int32} {K : (Nat → Int32) → Option α} (X : cz_X p s m args meth c cc nL own g b rt) (hM : cz_WT g b M S s H locs) (h : cz_gd (cz_ib i n) (cz_lt (upd f i.toNatClampNeg v) K) = some res) (hj : S[j]? = some (cz_sc g t n f)) (hd : decode cc pc = .ok (.iastore, 1))
    (kk : ∀ (f : Nat → Int32) (H : Heap) (locs : List Loc), K f = some res → cz_WT g b M (S.set j (cz_sc g t n f)) s H locs → W p l e R s m args below meth c H locs cells slots Q (F0 m (pc + 1) ls rest)) : W p l e R s m args below meth c H locs cells slots Q (F0 m pc ls (.int v :: .int i :: .ref t :: rest)) := by
  obtain ⟨hi, hK⟩ := cz_gd_t h
  obtain ⟨hx, hb, -, ho, ht, hKK, -⟩ := X
  refine va_iast hx hb hKK hM.1 (cz_T_D hM.2.2.2) hM.2.2.1 (461 + j) 0 (cz_T_j hj) rfl (cz_ib_in hi) hd (fun H1 locs1 q1 q2 q3 => ?_)
  refine kk _ H1 locs1 hK ⟨?_, hM.2.1, q3, hM.2.2.2.set hj⟩
  rw [cz_T_set] at q1
  exact q1
theorem cz_Tback {v : Option Value} {M1 : cz_M} {st0 : List Value} {a0 : Array Value} (hr : va_Run p l e R s m args below meth c H locs cells slots 0 0 (F0 m pc ls st0) rest (cz_Q g b v M1 a0) (cz_Ar b)) (hM : cz_WT g b M S s H locs)
    (kk : ∀ (H1 : Heap) (locs1 : List Loc), cz_WT g b M1 S s H1 locs1 → W p l e R s m args below meth c H1 locs1 cells slots Q (F0 m (pc + 3) ls (v.toList ++ rest))) : W p l e R s m args below meth c H locs cells slots Q (F0 m pc ls st0) := by
  intro T hT X
  obtain ⟨v', st₀, t, T', L, h0, X', hL, e1, e2, ⟨⟨hv, hK1, hP1, hp1, -⟩, hz, hk⟩, st⟩ := hr T hT X
  cases hv
  rw [h0] at hz hk
  obtain ⟨hS1, hS2, hS3⟩ := hM.2.2.1
  have hSS : va_P g.2 vwCl S t.heap := (cz_T_S hM).kept (fun k q hk' => hk q.1 ((cz_T_S hM) k q hk').lt (fun z => by
    have h1 : b + 461 ≤ q.1 := hM.2.2.2.2 k q hk'
    have h2 := z.2
    omega))
  obtain ⟨t2, a1, b1⟩ := kk T'.heap (locs ++ L) ⟨by rw [e1]; exact hP1.app hSS, hp1, ⟨Nat.le_trans hS1 (by rw [e1]; exact hz), fun q h1 h2 => by rw [e1, hk q (Nat.lt_of_lt_of_le h1 hS1) (fun z => h2 z.1)]; exact hS2 q h1 h2, fun q hq => by
      rcases List.mem_append.mp hq with h | h
      · exact hS3 q h
      · exact (hL q h).1⟩, hM.2.2.2⟩ T' rfl X'
  exact ⟨t2, st t2 a1, b1⟩
theorem cz_TbackD {v : Option Value} {M1 : cz_M} {mc ms : Nat} {st0 : List Value} {a0 : Array Value} (hr : va_Run p l e R s m args below meth c H locs cells slots mc ms (F0 m pc ls st0) rest (cz_QD g b v M1 a0) (fun q => b ≤ q)) (hM : cz_WT g b M [] s H locs)
    (kk : ∀ (H1 : Heap) (locs1 : List Loc), cz_WT g b M1 [] s H1 locs1 → W p l e R s m args below meth c H1 locs1 (cells + mc) (slots + ms) Q (F0 m (pc + 3) ls (v.toList ++ rest))) : W p l e R s m args below meth c H locs cells slots Q (F0 m pc ls st0) := by
  intro T hT X
  obtain ⟨v', st₀, t, T', L, h0, X', hL, e1, e2, ⟨⟨hv, hK1, hP1, hp1, -⟩, hz, hk⟩, st⟩ := hr T hT X
  cases hv
  rw [h0] at hz hk
  obtain ⟨hS1, hS2, hS3⟩ := hM.2.2.1
  obtain ⟨t2, a1, b1⟩ := kk T'.heap (locs ++ L) ⟨by rw [e1, List.append_nil]; exact hP1, hp1, ⟨Nat.le_trans hS1 (by rw [e1]; exact hz), fun q h1 h2 => by rw [e1, hk q (Nat.lt_of_lt_of_le h1 hS1) h2]; exact hS2 q h1 h2, fun q hq => by
      rcases List.mem_append.mp hq with h | h
      · exact hS3 q h
      · exact hL q h⟩, cz_nilD⟩ T' rfl X'
  exact ⟨t2, st t2 a1, b1⟩
theorem cz_TrunV {y : MethodName} {cc' : ByteArray} {maxL n idx F N ci : Nat} {ret : Option FieldType} {C : String} {T : u_T} {N0 : Nat} {v : Option Value} {M1 : cz_M} {As st0 : List Value} (hcc : cells ≤ R.cells) (hss : slots ≤ R.slots) (X : cz_X p s m args meth c cc nL own g b rt) (hM : cz_WT g b M S s H locs) (hls : ls.size = nL) (hC : cz_C l y cc' maxL ret F N g b (.ref a :: As) M v M1) (hy : cz_MV y cc' maxL ret C n) (hci : vwCl[ci]? = some (C, T, N0)) (hc6 : ci < 6) (hk : cz_K b a ci) (hl : Cond.methodLink own idx y ∈ lw_gd)
    (hR : F + 1 ≤ R.frames ∧ 8 + (maxL + 11) + N ≤ R.locals) (hn : As.length = n) (hst : st0 = As.reverse ++ .ref a :: rest) (hro : (rest.map fun v => v.category).sum ≤ 8) (hd : decode cc pc = .ok (.invokevirtual idx, 3))
    (kk : ∀ (H1 : Heap) (locs1 : List Loc), cz_WT g b M1 S s H1 locs1 → W p l e R s m args below meth c H1 locs1 cells slots Q (F0 m (pc + 3) ls (v.toList ++ rest))) : W p l e R s m args below meth c H locs cells slots Q (F0 m pc ls st0) := by
  have X0 := X
  obtain ⟨hx, hb, hml, ho, ht, hKK, -⟩ := X
  exact cz_Tback (va_runV (As := As) (rest := rest) ⟨hx, hb, hml, ho, ht⟩ hC (cwV n ht (cz_inV hy hl) rfl rfl rfl hy.2.2.2.2 hR) ⟨cz_blind, va_recv hKK (cz_T_P hM) hci (q0 := a - b) (by rw [cz_wl_get hk, cz_cel_obj hc6]), fun U hU hW => ⟨rfl, cz_Tpre X0 hM U hU hW⟩⟩ rfl hn hls hst (lv_room hro) hd ⟨hcc, hss⟩) hM kk
theorem cz_TrunS {y : MethodName} {cc' : ByteArray} {maxL n idx F N : Nat} {ret : Option FieldType} {v : Option Value} {M1 : cz_M} {As st0 : List Value} (hcc : cells ≤ R.cells) (hss : slots ≤ R.slots) (X : cz_X p s m args meth c cc nL own g b rt) (hM : cz_WT g b M S s H locs) (hls : ls.size = nL) (hC : cz_C l y cc' maxL ret F N g b As M v M1) (hy : cz_MS y cc' maxL ret n) (hl : Cond.methodLink own idx y ∈ lw_gd)
    (hR : F + 1 ≤ R.frames ∧ 8 + (maxL + 11) + N ≤ R.locals) (hn : As.length = n) (hst : st0 = As.reverse ++ rest) (hro : (rest.map fun v => v.category).sum ≤ 8) (hd : decode cc pc = .ok (.invokestatic idx, 3))
    (kk : ∀ (H1 : Heap) (locs1 : List Loc), cz_WT g b M1 S s H1 locs1 → W p l e R s m args below meth c H1 locs1 cells slots Q (F0 m (pc + 3) ls (v.toList ++ rest))) : W p l e R s m args below meth c H locs cells slots Q (F0 m pc ls st0) := by
  have X0 := X
  obtain ⟨hx, hb, hml, ho, ht, hKK, -⟩ := X
  exact cz_Tback (va_runS (As := As) (rest := rest) ⟨hx, hb, hml, ho, ht⟩ hC (va_cwS n ht (cz_inS hy hl) rfl rfl rfl hy.2.2.2 hR) ⟨cz_blind, fun U hU hW => ⟨rfl, cz_Tpre X0 hM U hU hW⟩⟩ rfl hn hls hst (lv_room hro) hd ⟨hcc, hss⟩) hM kk
theorem cz_TrunD {y : MethodName} {cc' : ByteArray} {maxL n idx F N mc ms : Nat} {ret : Option FieldType} {v : Option Value} {M1 : cz_M} {As st0 : List Value} (hcc : cells + mc ≤ R.cells) (hss : slots + ms ≤ R.slots) (X : cz_X p s m args meth c cc nL own g b rt) (hM : cz_WT g b M [] s H locs) (hls : ls.size = nL) (hC : cz_D l y cc' maxL ret F N mc ms g b As M v M1) (hy : cz_MS y cc' maxL ret n) (hl : Cond.methodLink own idx y ∈ lw_gd)
    (hR : F + 1 ≤ R.frames ∧ 8 + (maxL + 11) + N ≤ R.locals) (hn : As.length = n) (hst : st0 = As.reverse ++ rest) (hro : (rest.map fun v => v.category).sum ≤ 8) (hd : decode cc pc = .ok (.invokestatic idx, 3))
    (kk : ∀ (H1 : Heap) (locs1 : List Loc), cz_WT g b M1 [] s H1 locs1 → W p l e R s m args below meth c H1 locs1 (cells + mc) (slots + ms) Q (F0 m (pc + 3) ls (v.toList ++ rest))) : W p l e R s m args below meth c H locs cells slots Q (F0 m pc ls st0) := by
  have X0 := X
  obtain ⟨hx, hb, hml, ho, ht, hKK, -⟩ := X
  exact cz_TbackD (va_runS (As := As) (rest := rest) ⟨hx, hb, hml, ho, ht⟩ hC (va_cwS n ht (cz_inS hy hl) rfl rfl rfl hy.2.2.2 hR) ⟨cz_blind, fun U hU hW => ⟨rfl, cz_Tpre X0 hM U hU hW⟩⟩ rfl hn hls hst (lv_room hro) hd ⟨hcc, hss⟩) hM kk
theorem cz_Treti {v r0 : Int32} {M0 : cz_M} {ty : FieldType} {mc ms : Nat} (X : cz_X p s m args meth c cc nL own g b (some ty)) (hM : cz_WT g b M S s H locs) (h : some (v, M) = some (r0, M0)) (hn : narrow ty (.int v) = .int v) (hc : cells ≤ mc) (hs : slots ≤ ms) (hd : decode cc pc = .ok (.ireturn, 1)) : W p l e R s m args below meth c H locs cells slots (MQ below (cz_QD g b (some (.int r0)) M0) args s mc ms (fun q => b ≤ q)) (F0 m pc ls [.int v]) := by
  cases h
  obtain ⟨hx, hb, hml, ho, ht, hKK, hst, hr, hlk⟩ := X
  refine W.widen (k := mc) (n := ms) hc hs ?_
  exact W.zret hx hb hr hn (fun t ht hW => ⟨⟨rfl, va_K.moved hW.alike hKK, by rw [ht]; exact cz_T_P hM, hM.2.1, hst.gol hW.alike (by rw [ht]; exact hM.2.2.1.2.1)⟩, hM.2.2.1.F ht⟩) hM.2.2.1.2.2 hd hlk
theorem cz_blindE {bs L : Nat} {xs : Nat → Int32} {av : List Value} : FrameBlind (va_Pc av (fun U => cz_WW g b M U ∧ va_X bs L xs U U.heap ∧ bs < b)) := fun a U gg mk q => ⟨q.1, ⟨va_K.moved (u := U) (U := U.calling gg mk a) (Vm.Alike.refl U.vm) q.2.1.1, q.2.1.2.1, q.2.1.2.2.1, cz_ST.go q.2.1.2.2.2 (Vm.Alike.refl U.vm) (fun _ _ _ => rfl)⟩, va_X.moved (u := U) (U := U.calling gg mk a) (Vm.Alike.refl U.vm) q.2.2.1, q.2.2.2⟩
theorem cz_TrunE {y : MethodName} {cc' : ByteArray} {maxL n idx F N bs L : Nat} {xs : Nat → Int32} {ret : Option FieldType} {v : Option Value} {As st0 : List Value} (hcc : cells ≤ R.cells) (hss : slots ≤ R.slots) (X : cz_X p s m args meth c cc nL own g s.heap.size rt) (hXs : va_X bs L xs s s.heap) (hbs : bs < s.heap.size) (hM : cz_WT g s.heap.size M S s H locs) (hls : ls.size = nL) (hC : cz_E l y cc' maxL ret F N g s.heap.size bs L xs As M v) (hy : cz_MS y cc' maxL ret n) (hl : Cond.methodLink own idx y ∈ lw_gd)
    (hR : F + 1 ≤ R.frames ∧ 8 + (maxL + 11) + N ≤ R.locals) (hn : As.length = n) (hst : st0 = As.reverse ++ rest) (hro : (rest.map fun v => v.category).sum ≤ 8) (hd : decode cc pc = .ok (.invokestatic idx, 3))
    (kk : ∀ (H1 : Heap) (locs1 : List Loc), cz_WT g s.heap.size M S s H1 locs1 → W p l e R s m args below meth c H1 locs1 cells slots Q (F0 m (pc + 3) ls (v.toList ++ rest))) : W p l e R s m args below meth c H locs cells slots Q (F0 m pc ls st0) := by
  have X0 := X
  obtain ⟨hx, hb, hml, ho, ht, hKK, -⟩ := X
  exact cz_Tback (va_runS (As := As) (rest := rest) ⟨hx, hb, hml, ho, ht⟩ hC (va_cwS n ht (cz_inS hy hl) rfl rfl rfl hy.2.2.2 hR) ⟨cz_blindE, fun U hU hW => ⟨rfl, cz_Tpre X0 hM U hU hW, by rw [hU]; exact va_X.moved hW.alike (hXs.kept (hM.2.2.1.2.1 bs hbs (Nat.not_le.mpr hbs))), hbs⟩⟩ rfl hn hls hst (lv_room hro) hd ⟨hcc, hss⟩) hM kk
theorem cz_Tlret {bs : Nat} (X : cz_X p s m #[Value.ref bs] meth c code 7 own g s.heap.size ret) (hM : cz_WT g s.heap.size M S s H locs) (hcc : cells ≤ room_1.cells) (hss : slots ≤ room_1.slots) (hd : decode code pc = .ok (.ireturn, 1)) : W p l e room_1 s m #[Value.ref bs] below meth c H locs cells slots (lw_Z below #[Value.ref bs] s) (F0 m pc ls [.int 1]) := by
  obtain ⟨hx, hb, hml, ho, ht, hKK, -, hr, hlk⟩ := X
  refine va_forget (fun q hq => hM.2.2.1.2.2 q hq) ?_
  refine W.widen (k := 600000) (n := 7302250) hcc hss ?_
  exact lw_ret hx hb hr hlk hd
end TM
def cz_it9 {A B C D E F G0 H I R : Type} (G : (A → B → C → D → E → F → G0 → H → I → Option R) → A → B → C → D → E → F → G0 → H → I → Option R) : Nat → A → B → C → D → E → F → G0 → H → I → Option R
  | 0 => fun _ _ _ _ _ _ _ _ _ => none
  | n + 1 => G (cz_it9 G n)
def f_L_cell (L : Nat) (xs : Nat → Int32) (x1 : Int32) : Option Int32 := if nI L ≤ x1 then some ((nI 40503) * x1 + (nI 977)) else cz_gd (cz_ib x1 L) (some (xs (Int32.toNatClampNeg x1)))
theorem mv_L_cell : cz_MS yL_cell cL_cell 2 (some .int) 2 := ⟨mt_L_cell, mc_L_cell, ini_L, by decide +kernel⟩
theorem c_L_cell {l : Launch} {g : cz_G} {b bs L : Nat} {xs : Nat → Int32} {M : cz_M} {r0 x1 : Int32} (h : f_L_cell L xs x1 = some r0) : cz_E l yL_cell cL_cell 2 (some .int) 0 0 g b bs L xs [.ref bs, .int x1] M (some (.int r0)) := by
  refine Met.ofW (cc := cL_cell) (maxL := 2) (ret := some .int) (by decide) rfl ?_
  intro p e s m args below meth c s₁ B hml hv
  obtain ⟨rfl, ⟨hK, hP, hp, hst⟩, hXs, hbb⟩ := hv
  rw [lg_entry_eq]
  have hts := atoms_spec (ws := Cond.code yL_cell cL_cell 2 (some .int) :: lw_gd) B.pre
  have X : cz_X p s m [Value.ref bs, Value.int x1].toArray meth c cL_cell 2 RL g b (some .int) := ⟨B.exec, B.bytes, hml, findClass_of_methodNamed B.named, fun w h => hts w (List.mem_cons_of_mem _ h), hK, hst, B.returns, B.notSynchronized⟩
  have hM : cz_WS g b M s s.heap [] := ⟨hP, hp, va_S.rf⟩
  obtain ⟨hx, hb, -, ho, ht, -⟩ := id X
  have hl := lv_entry [Value.ref bs, Value.int x1] (n := 2) (Nat.le_of_ble_eq_true rfl)
  generalize (lg_sl [Value.ref bs, Value.int x1] ++ List.replicate (2 - (lg_sl [Value.ref bs, Value.int x1]).length) Slot.unset).toArray = ls at hl ⊢
  have hl : lv_has ls 2 [(0, .ref bs), (1, .int x1)] := hl
  have hbs : bs < s.heap.size := by
    obtain ⟨scr, h1, -⟩ := hXs
    exact (Array.getElem?_eq_some_iff.mp h1).1
  have hnb : ¬ cz_Ar b bs := fun z => absurd z.1 (Nat.not_le.mpr hbb)
  rw [f_L_cell] at h
  refine lv_iload_n hx hb dL_cell_0 rfl (lv_at hl 1 rfl) ?_
  refine lv_aload_n hx hb dL_cell_1 rfl (lv_at hl 0 rfl) ?_
  refine va_slen hx hb hXs hbs hnb hM.2.2 dL_cell_2 ?_
  refine lv_icmp_ge (tgt := 12) hx hb dL_cell_3 (by decide) (fun c1 => ?_) (fun c1 => ?_)
  · have h := cz_ite_t c1 h
    refine lv_ldc hx hb ho (ht _ lc_L_7) dL_cell_12 ?_
    refine lv_iload_n hx hb dL_cell_14 rfl (lv_at hl 1 rfl) ?_
    refine lv_imul hx hb dL_cell_15 ?_
    refine lv_sipush (v := nI 977) hx hb dL_cell_16 (by decide) ?_
    refine lv_iadd hx hb dL_cell_19 ?_
    exact cz_retp X hM h rfl dL_cell_20
  · have h := cz_ite_f c1 h
    obtain ⟨hi, h⟩ := cz_gd_t h
    refine lv_aload_n hx hb dL_cell_6 rfl (lv_at hl 0 rfl) ?_
    refine lv_iload_n hx hb dL_cell_7 rfl (lv_at hl 1 rfl) ?_
    refine va_sld hx hb hXs hbs hnb hM.2.2 (cz_ib_in hi) dL_cell_8 ?_
    refine lv_goto (tgt := 20) hx hb dL_cell_9 (by decide) ?_
    exact cz_retp X hM h rfl dL_cell_20
