/-! the world while the constructors make it: the first n cells behind the base hold C -/
def cz_wf (b n : Nat) (C : Nat → va_E) : va_W := (List.range n).map (fun o => (b + o, C o))
theorem cz_wf_len (b n : Nat) (C : Nat → va_E) : (cz_wf b n C).length = n := by simp [cz_wf]
theorem cz_wf_at {b n : Nat} {C : Nat → va_E} {i : Nat} (h : i < n) : (cz_wf b n C)[i]? = some (b + i, C i) := by
  rw [cz_wf, List.getElem?_map, List.getElem?_range h]
  rfl
theorem cz_wf_congr {b n : Nat} {C C' : Nat → va_E} (h : ∀ o, o < n → C o = C' o) : cz_wf b n C = cz_wf b n C' := by
  apply List.ext_getElem?
  intro i
  by_cases hi : i < n
  · rw [cz_wf_at hi, cz_wf_at hi, h i hi]
  · rw [List.getElem?_eq_none (by rw [cz_wf_len]; omega), List.getElem?_eq_none (by rw [cz_wf_len]; omega)]
theorem cz_wf_set {b n o : Nat} {C : Nat → va_E} {e : va_E} (ho : o < n) : (cz_wf b n C).set o (b + o, e) = cz_wf b n (va_up C o e) := by
  apply List.ext_getElem?
  intro i
  by_cases hi : i < n
  · by_cases hio : i = o
    · subst hio
      rw [List.getElem?_set_self (by rw [cz_wf_len]; exact hi), cz_wf_at hi]
      simp [va_up]
    · rw [List.getElem?_set_ne (Ne.symm hio), cz_wf_at hi, cz_wf_at hi]
      simp [va_up, hio]
  · rw [List.getElem?_eq_none (by rw [List.length_set, cz_wf_len]; omega), List.getElem?_eq_none (by rw [cz_wf_len]; omega)]
theorem cz_wf_push (b n : Nat) (C : Nat → va_E) (e : va_E) : cz_wf b n C ++ [(b + n, e)] = cz_wf b (n + 1) (va_up C n e) := by
  apply List.ext_getElem?
  intro i
  rcases Nat.lt_trichotomy i n with hi | hi | hi
  · rw [List.getElem?_append_left (by rw [cz_wf_len]; exact hi), cz_wf_at hi, cz_wf_at (by omega)]
    simp [va_up, Nat.ne_of_lt hi]
  · subst hi
    rw [List.getElem?_append_right (by rw [cz_wf_len]; exact Nat.le_refl _), cz_wf_len, Nat.sub_self, cz_wf_at (by omega)]
    simp [va_up]
  · rw [List.getElem?_eq_none (by rw [List.length_append, cz_wf_len, List.length_singleton]; omega), List.getElem?_eq_none (by rw [cz_wf_len]; omega)]
theorem cz_wf_D (b n : Nat) (C : Nat → va_E) : va_D (fun q => b ≤ q) (cz_wf b n C) := by
  have key : ∀ (k : Nat) (q : Nat × va_E), (cz_wf b n C)[k]? = some q → q.1 = b + k := by
    intro k q hk
    have hl := (List.getElem?_eq_some_iff.mp hk).1
    rw [cz_wf_len] at hl
    rw [cz_wf_at hl] at hk
    cases hk
    rfl
  refine ⟨fun i j p q hi hj hpq => ?_, fun k q hk => ?_⟩
  · have h1 := key i p hi
    have h2 := key j q hj
    omega
  · show b ≤ q.1
    rw [key k q hk]
    exact Nat.le_add_right _ _
def cz_EX (U : State) : Prop := va_AO RX0 U ∧ va_AO RX1 U ∧ va_AO RX3 U ∧ va_AO RX2 U ∧ va_Nw (.methodLinkNest RX2 36 yX3_init RX4) U ∧ va_Nw (.methodLinkNest RX2 44 yX0_init RX4) U ∧ va_Nw (.methodLinkNest RX2 45 yX1_init RX4) U
theorem cz_EX.warm {s U : State} (hW : s.WarmedH U.vm) (h : cz_EX s) : cz_EX U := by
  obtain ⟨h1, h2, h3, h4, h5, h6, h7⟩ := h
  exact ⟨h1.moved hW.alike, h2.moved hW.alike, h3.moved hW.alike, h4.moved hW.alike, h5.warmM hW, h6.warmM hW, h7.warmM hW⟩
theorem cz_EX.same {s U : State} (hW : s.vm = U.vm) (h : cz_EX s) : cz_EX U := by
  obtain ⟨h1, h2, h3, h4, h5, h6, h7⟩ := h
  have ha : s.vm.Alike U.vm := hW ▸ Vm.Alike.refl s.vm
  exact ⟨h1.moved ha, h2.moved ha, h3.moved ha, h4.moved ha, h5.same rfl hW, h6.same rfl hW, h7.same rfl hW⟩
def cz_N (g : cz_G) (b n : Nat) (C : Nat → va_E) (s : State) (H : Heap) (locs : List Loc) : Prop := va_P g.2 vwCl (cz_wf b n C) H ∧ H.size = b + n ∧ va_S (fun q => b ≤ q) s.heap H locs
def cz_NW (g : cz_G) (b n : Nat) (C : Nat → va_E) (U : State) : Prop := va_K g.2 vwCl (cz_tys g.1) U ∧ va_P g.2 vwCl (cz_wf b n C) U.heap ∧ U.heap.size = b + n ∧ cz_EX U
def cz_QN (g : cz_G) (b n : Nat) (C : Nat → va_E) : Array Value → State → Outcome → State → Prop := fun _ st oc t => (oc = .returned none ∧ va_P g.2 vwCl (cz_wf b n C) t.heap ∧ t.heap.size = b + n) ∧ va_F (fun q => b ≤ q) st t
def cz_CN (l : Launch) (y : MethodName) (cc : ByteArray) (maxL F N mc ms : Nat) (g : cz_G) (b o n : Nat) (C : Nat → va_E) (n' : Nat) (C' : Nat → va_E) : Prop :=
  Met l y (Cond.code y cc maxL none :: lw_gd) { frames := F, cells := mc, slots := ms, locals := N } (va_Pc [.ref (b + o)] (fun U => cz_NW g b n C U)) (cz_QN g b n' C') mc ms (fun q => b ≤ q)
def cz_XN (p : Program) (s : State) (m : MethodId) (args : Array Value) (meth : Method) (c : Code) (cc : ByteArray) (nL : Nat) (own : String) (g : cz_G) : Prop :=
  p.tables.exec = Jvm.exec ∧ c.code = cc ∧ c.maxLocals = nL ∧ s.vm.findClass own = some m.cls ∧ (∀ w ∈ lw_gd, w.before args s = true) ∧ va_K g.2 vwCl (cz_tys g.1) s ∧ cz_EX s ∧ meth.sig.returnType = none ∧ meth.locks = false ∧ meth.name = "<init>"
theorem cz_N.congr {g : cz_G} {b n : Nat} {C C' : Nat → va_E} {s : State} {H : Heap} {locs : List Loc} (h : cz_N g b n C s H locs) (hC : ∀ o, o < n → C o = C' o) : cz_N g b n C' s H locs := ⟨by rw [← cz_wf_congr hC]; exact h.1, h.2⟩
theorem cz_startN {l : Launch} {y : MethodName} {cc : ByteArray} {maxL : Nat} {F N mc ms : Nat} {g : cz_G} {b o n n' : Nat} {C C' : Nat → va_E} (hy : plainName y.cls = true) (hy2 : y.name = "<init>") (hlen : 1 ≤ maxL)
    (body : ∀ (p : Program) (e : Env) (s : State) (m : MethodId) (args : Array Value) (below : List Frame) (meth : Method) (c : Code), cz_XN p s m args meth c cc maxL y.cls g → ∀ (H : Heap) (ls : Array Slot), cz_N g b n C s H [] → lv_has ls maxL [(0, .ref (b + o))] →
      W p l e { frames := F, cells := mc, slots := ms, locals := N } s m args below meth c H [] 0 0 (MQ below (cz_QN g b n' C') args s mc ms (fun q => b ≤ q)) (F0 m 0 ls [])) : cz_CN l y cc maxL F N mc ms g b o n C n' C' := by
  refine Met.ofW (cc := cc) (maxL := maxL) (ret := none) hy rfl ?_
  intro p e s m args below meth c s₁ B hml hv
  obtain ⟨rfl, hK, hP, hz, hex⟩ := hv
  rw [lg_entry_eq]
  have hts := atoms_spec (ws := Cond.code y cc maxL none :: lw_gd) B.pre
  exact body p e s m _ below meth c ⟨B.exec, B.bytes, hml, findClass_of_methodNamed B.named, fun w h => hts w (List.mem_cons_of_mem _ h), hK, hex, B.returns, B.notSynchronized, (name_of_methodNamed B.named B.method).1.trans hy2⟩ _ _ ⟨hP, hz, va_S.rf⟩ (lv_entry [.ref (b + o)] hlen)
section CN
variable {p : Program} {l : Launch} {e : Env} {R : Room} {s : State} {m : MethodId} {args : Array Value} {below : List Frame} {meth : Method} {c : Code} {H : Heap} {locs : List Loc} {cells slots : Nat} {Q : State → Prop}
variable {cc : ByteArray} {pc nL : Nat} {ls : Array Slot} {rest : List Value} {g : cz_G} {b n : Nat} {C : Nat → va_E} {own : String}
theorem cz_Nold {H1 : Heap} {e : va_E} (hW : cz_N g b n C s H locs) (hz : H1.size = b + n + 1) (hq : ∀ q, q < b + n → H1[q]? = H[q]?) (he : va_at g.2 vwCl (b + n, e) H1) : cz_N g b (n + 1) (va_up C n e) s H1 locs := by
  obtain ⟨hP, hs, hS⟩ := hW
  refine ⟨?_, by omega, Nat.le_trans hS.1 (by omega), fun q h1 h2 => ?_, hS.2.2⟩
  · rw [← cz_wf_push]
    refine (hP.kept (fun k q hk => ?_)).app (fun k q hk => ?_)
    · have := (hP k q hk).lt
      exact hq q.1 (by omega)
    · have h1 : k < 1 := (List.getElem?_eq_some_iff.mp hk).1
      rw [show k = 0 by omega] at hk
      cases hk
      exact he
  · have h3 := hS.1
    rw [hq q (by omega)]
    exact hS.2.1 q h1 h2
theorem cz_newa {atype : ArrayType} {ty : FieldType} {t0 N' : Nat} {v : Int32} (X : cz_XN p s m args meth c cc nL own g) (hW : cz_N g b n C s H locs) (hty : newarray.typeOf atype = ty) (harr : Cond.arrayClass ty ∈ lw_gd) (ht0 : (cz_tys g.1)[t0]? = some (g.1 t0, ty)) (hra : va_RA s (g.1 t0) ty = (s.vm.findClass ("[" ++ ty.toString) = some (g.1 t0))) (hdv : defaultValue ty = .int 0)
    (hv : ¬ v < 0) (hN : v.toNatClampNeg = N') (hby : N' * componentBytes ty ≤ 536870912) (hcells : cells + 1 ≤ R.cells) (hslots : slots + N' ≤ R.slots) (hd : decode cc pc = .ok (.newarray atype, 2))
    (kk : ∀ (H : Heap), cz_N g b (n + 1) (va_up C n (.inl (g.1 t0, N', .inl (fun _ => 0)))) s H locs → W p l e R s m args below meth c H locs (cells + 1) (slots + N') Q (F0 m (pc + 2) ls (.ref (b + n) :: rest))) : W p l e R s m args below meth c H locs cells slots Q (F0 m pc ls (.int v :: rest)) := by
  obtain ⟨hx, hb, hml, ho, ht, hK, -⟩ := X
  subst hty
  refine va_newaK hx hb (ht _ harr) rfl hd rfl hv hN hby hcells hslots hW.2.1 fun H1 cA e1 z1 o1 hAr hNm => ?_
  refine kk H1 (cz_Nold hW z1 o1 ?_)
  have h2 := (hK.2 t0 _ ht0).2
  rw [hra] at h2
  have h3 : cA = g.1 t0 := Option.some.inj (hNm.symm.trans h2)
  subst h3
  show H1[b + n]? = some (vp_cell _ _)
  rw [vp_cell_i, e1, hdv]
theorem cz_newq {C0 : String} {idx t0 N' : Nat} {v : Int32} (X : cz_XN p s m args meth c cc nL own g) (hW : cz_N g b n C s H locs) (hcl : Cond.classLink own idx C0 ∈ lw_gd) (hao : va_AO C0 s) (ht0 : (cz_tys g.1)[t0]? = some (g.1 t0, .object C0))
    (hv : ¬ v < 0) (hN : v.toNatClampNeg = N') (hby : N' * 4 ≤ 536870912) (hcells : cells + 1 ≤ R.cells) (hslots : slots + N' ≤ R.slots) (hd : decode cc pc = .ok (.anewarray idx, 3))
    (kk : ∀ (H : Heap), cz_N g b (n + 1) (va_up C n (.inl (g.1 t0, N', .inr (.inr (.inr (.inr (fun _ => none))))))) s H locs → W p l e R s m args below meth c H locs (cells + 1) (slots + N') Q (F0 m (pc + 3) ls (.ref (b + n) :: rest))) : W p l e R s m args below meth c H locs cells slots Q (F0 m pc ls (.int v :: rest)) := by
  obtain ⟨hx, hb, hml, ho, ht, hK, -⟩ := X
  subst hN
  refine W.anew hx hb ho (ht _ hcl) (va_AO.use hao) rfl hd rfl hv hby hcells hslots fun cA kA comp f1 f2 f3 f4 => ?_
  have e0 := hW.2.1
  rw [e0]
  refine kk _ (cz_Nold hW (by rw [Array.size_push, e0]) (fun q hq => by rw [Array.getElem?_push, if_neg (by rw [e0]; exact Nat.ne_of_lt hq)]) ?_)
  obtain ⟨kA', comp', g1, g2, g3, g4⟩ := (hK.2 t0 _ ht0).2
  have h3 : cA = g.1 t0 := Option.some.inj (f1.symm.trans g4)
  subst h3
  show (H.push _)[b + n]? = some (vp_cell _ _)
  rw [vp_cell_q, ← e0, Array.getElem?_push_size, arrV_new]
  rfl
theorem cz_newo {C0 : String} {T : u_T} {idx N0 ci : Nat} {ty0 : Nat → FieldType} {fs : List Value} (X : cz_XN p s m args meth c cc nL own g) (hW : cz_N g b n C s H locs) (hc : vwCl[ci]? = some (C0, T, N0)) (hin : ∀ w ∈ u_ws C0 T N0, w ∈ lw_gd) (hty : ∀ k, k < N0 → parseFieldDescriptor (T k).2.2.1 = some (ty0 k)) (hcl : Cond.classLink own idx C0 ∈ lw_gd) (his : Cond.instantiable C0 N0 ∈ lw_gd) (hini : Cond.initialized C0 ∈ lw_gd) (hfs : ∀ j, j < N0 → defaultValue (ty0 j) = vp_V fs j)
    (hcells : cells + 1 ≤ R.cells) (hslots : slots + N0 ≤ R.slots) (hd : decode cc pc = .ok (.new idx, 3))
    (kk : ∀ (H : Heap), cz_N g b (n + 1) (va_up C n (.inr (ci, fs))) s H locs → W p l e R s m args below meth c H locs (cells + 1) (slots + N0) Q (F0 m (pc + 3) ls (.ref (b + n) :: rest))) : W p l e R s m args below meth c H locs cells slots Q (F0 m pc ls rest) := by
  obtain ⟨hx, hb, hml, ho, ht, hK, -⟩ := X
  have hKn := hK.1 ci _ hc
  refine W.newcK hx hb ho (ht _ hcl) (ht _ his) (ht _ hini) rfl hd hcells hslots hKn.2.1 hW.2.1 fun H1 kC hkC e1 z1 o1 => ?_
  exact kk H1 (cz_Nold hW z1 o1 ⟨_, hc, (u_born ty0 ht hin hKn hkC e1 hty).to hfs⟩)
theorem cz_Nset {H1 : Heap} {locs1 : List Loc} {o : Nat} {e : va_E} (hW : cz_N g b n C s H locs) (ho : o < n) (hz : H1.size = H.size) (q1 : va_P g.2 vwCl ((cz_wf b n C).set o (b + o, e)) H1) (q3 : va_S (fun q => b ≤ q) s.heap H1 locs1) : cz_N g b n (va_up C o e) s H1 locs1 := by
  rw [cz_wf_set ho] at q1
  exact ⟨q1, hz.trans hW.2.1, q3⟩
theorem cz_Nret {C' : Nat → va_E} {n' mc ms : Nat} (X : cz_XN p s m args meth c cc nL own g) (hW : cz_N g b n C s H locs) (hn : n = n') (hC : ∀ o, o < n → C o = C' o) (hc : cells ≤ mc) (hs : slots ≤ ms) (hd : decode cc pc = .ok (.return_, 1)) : W p l e R s m args below meth c H locs cells slots (MQ below (cz_QN g b n' C') args s mc ms (fun q => b ≤ q)) (F0 m pc ls []) := by
  subst hn
  have hW := hW.congr hC
  obtain ⟨hx, hb, hml, ho, ht, hK, hex, hr, hlk, -⟩ := X
  refine W.widen (k := mc) (n := ms) hc hs ?_
  exact W.vret hx hb hr (fun t ht hw => ⟨⟨rfl, by rw [ht]; exact hW.1, by rw [ht]; exact hW.2.1⟩, hW.2.2.F ht⟩) hW.2.2.2.2 hd hlk
theorem cz_NputF {C0 : String} {T : u_T} {N0 ci k o idx : Nat} {ty0 : Nat → FieldType} {fs : List Value} {ty : FieldType} {v : Value} (X : cz_XN p s m args meth c cc nL own g) (hW : cz_N g b n C s H locs) (ho : o < n) (he : C o = .inr (ci, fs)) (hc : vwCl[ci]? = some (C0, T, N0)) (hin : ∀ w ∈ u_ws C0 T N0, w ∈ lw_gd) (hty : ∀ k, k < N0 → parseFieldDescriptor (T k).2.2.1 = some (ty0 k)) (hnm : ∀ a, a < N0 → ∀ b, b < N0 → a ≠ b → (T a).2.1 ≠ (T b).2.1) (hk : k < N0) (hown : own = C0) (hl : Cond.fieldLink own idx C0 (T k).2.1 (T k).2.2.1 ∈ lw_gd) (hT1 : (T k).1 = C0) (hfin : (T k).2.2.2 = true)
    (hd : parseFieldDescriptor (T k).2.2.1 = some ty) (hn : narrow ty v = v) (hfit : fits ty v = true) (hlen : k < fs.length) (hdg : decode cc pc = .ok (.putfield idx, 3))
    (kk : ∀ (H : Heap) (locs : List Loc), cz_N g b n (va_up C o (.inr (ci, fs.set k v))) s H locs → W p l e R s m args below meth c H locs cells slots Q (F0 m (pc + 3) ls rest)) : W p l e R s m args below meth c H locs cells slots Q (F0 m pc ls (v :: .ref (b + o) :: rest)) := by
  subst hown
  obtain ⟨hx, hb, hml, howN, hts, hK, -, -, -, hin2⟩ := X
  have hat : (cz_wf b n C)[o]? = some (b + o, .inr (ci, fs)) := by rw [cz_wf_at ho, he]
  have hap := va_apart (own := own) hts hin ty0 hty hnm hK hc
  obtain ⟨r, h1, cell, q1, q2, q3, q4⟩ := hW.1 o _ hat
  have hr : r = (own, T, N0) := Option.some.inj (h1.symm.trans hc)
  subst hr
  obtain ⟨hS, hfc, kC, hkC, hkind⟩ := hK.1 ci _ hc
  obtain ⟨cf, kf, fi, f, hi, hsl⟩ := hS k hk
  have hlay := hts _ (hin _ (u_in_lay hk))
  unfold u_lay at hlay
  rw [if_pos hfin] at hlay
  have hst := (u_facts hfc hkC (u_lays hts hin hk) hi).1
  have hcf : m.cls = cf := by
    obtain ⟨_, _, c', _, _, _, -, -, hf', -, -, -, hown2, -⟩ := Cond.laysFinal_spec hlay
    have e1 : c' = cf := by have := hi.symm.trans hf'; simp at this; exact this.1.symm
    rw [hT1] at hown2
    rw [← e1]; exact Option.some.inj (howN.symm.trans hown2)
  have h6 := u_fits hfc hkC hkind (Or.inr hlay) hi hd hn hfit
  refine W.putFinK hx hb howN (hts _ hl) (by rw [hT1] at hi; exact hi) hst hcf hin2 (by rw [q2]; exact h6) q1 q3 (by rw [hsl]; exact k2_hasslot (q4 k hk)) rfl rfl hdg fun H' e1 e2 e3 => ?_
  rw [hsl] at e1 ⊢
  exact kk H' _ (cz_Nset hW ho e2 (hW.1.set (cz_wf_D b n C) hat ⟨_, hc, t_OB.to (V := updV (vp_V fs) k v) ⟨_, e1, q2, q3, t_set q4 hap hk v⟩ (fun j _ => vp_updV_set hlen v j)⟩ e3) (hW.2.2.put e2 e3 (Nat.le_add_right b o)))
theorem cz_Niast {o N' : Nat} {f : Nat → Int32} {i v : Int32} (X : cz_XN p s m args meth c cc nL own g) (hW : cz_N g b n C s H locs) (ho : o < n) (he : C o = .inl (g.1 0, N', .inl f)) (hi : vp_in i N') (hd : decode cc pc = .ok (.iastore, 1))
    (kk : ∀ (H : Heap) (locs : List Loc), cz_N g b n (va_up C o (.inl (g.1 0, N', .inl (upd f i.toNatClampNeg v)))) s H locs → W p l e R s m args below meth c H locs cells slots Q (F0 m (pc + 1) ls rest)) : W p l e R s m args below meth c H locs cells slots Q (F0 m pc ls (.int v :: .int i :: .ref (b + o) :: rest)) := by
  obtain ⟨hx, hb, hml, howN, hts, hK, -⟩ := X
  have hat : (cz_wf b n C)[o]? = some (b + o, .inl (g.1 0, N', .inl f)) := by rw [cz_wf_at ho, he]
  refine W.iast hx hb (hW.1 o _ hat) ((hK.2 0 _ rfl).1 N' (fun j => .int (f j))) (fun q => by cases q) (by show ¬ (i < 0 ∨ (arrV _ _ _).slots.size ≤ _); rw [arrV_size]; exact hi) rfl rfl hd fun H1 e z oq => ?_
  refine kk H1 _ (cz_Nset hW ho z (hW.1.set (cz_wf_D b n C) hat ?_ oq) (hW.2.2.put z oq (Nat.le_add_right b o)))
  show H1[b + o]? = some (vp_cell _ _)
  rw [e]
  rw [vp_cell_i, vp_cell_i, arrV_store]
  congr 2
  funext q
  by_cases hq : q = i.toNatClampNeg
  · subst hq
    simp [updV, upd]
  · simp [updV, upd, hq]
theorem cz_Naast {o oq N' t0 ci : Nat} {r : vw_C} {vs : List Value} {f : Nat → Option Nat} {i : Int32} (X : cz_XN p s m args meth c cc nL own g) (hW : cz_N g b n C s H locs) (ho : o < n) (he : C o = .inl (g.1 t0, N', .inr (.inr (.inr (.inr f))))) (ht0 : (cz_tys g.1)[t0]? = some (g.1 t0, .object r.1)) (hoq : oq < n) (hv : C oq = .inr (ci, vs)) (hc : vwCl[ci]? = some r) (hi : vp_in i N') (hd : decode cc pc = .ok (.aastore, 1))
    (kk : ∀ (H : Heap) (locs : List Loc), cz_N g b n (va_up C o (.inl (g.1 t0, N', .inr (.inr (.inr (.inr (va_up f i.toNatClampNeg (some (b + oq))))))))) s H locs → W p l e R s m args below meth c H locs cells slots Q (F0 m (pc + 1) ls rest)) : W p l e R s m args below meth c H locs cells slots Q (F0 m pc ls (.ref (b + oq) :: .int i :: .ref (b + o) :: rest)) := by
  obtain ⟨hx, hb, hml, howN, hts, hK, -⟩ := X
  have hat : (cz_wf b n C)[o]? = some (b + o, .inl (g.1 t0, N', .inr (.inr (.inr (.inr f))))) := by rw [cz_wf_at ho, he]
  have hat2 : (cz_wf b n C)[oq]? = some (b + oq, .inr (ci, vs)) := by rw [cz_wf_at hoq, hv]
  have hlt : i.toNatClampNeg < N' := Nat.not_le.mp fun q => hi (Or.inr q)
  have h0 : ¬ i < 0 := fun q => hi (Or.inl q)
  obtain ⟨r', hr', cellV, g1, g2, g3, -⟩ := hW.1 oq _ hat2
  have hcls := (hK.1 ci r hc).2
  obtain ⟨kA, comp, k1, k2, k3, -⟩ := (hK.2 t0 _ ht0).2
  have hcomp : comp = g.2.1 ci := Option.some.inj (k3.symm.trans hcls.1)
  subst hcomp
  obtain ⟨kC, hkC, -⟩ := hcls.2
  refine W.aast hx hb (hW.1 o _ hat) (fun q h => by cases h) (fun h => by cases h) k1 k2 rfl hkC ⟨h0, by show _ < (arrV _ _ _).slots.size; rw [arrV_size]; exact hlt⟩ g1 (fun q h => by rw [g3] at h; cases h) (by rw [g2]; exact hkC) (by rw [g2]; exact va_assign hcls) rfl rfl hd fun H1 e z oq' => ?_
  refine kk H1 _ (cz_Nset hW ho z (hW.1.set (cz_wf_D b n C) hat ?_ oq') (hW.2.2.put z oq' (Nat.le_add_right b o)))
  show H1[b + o]? = some (vp_cell _ _)
  rw [e]
  rw [vp_cell_q, vp_cell_q, arrV_store]
  congr 2
  funext q
  by_cases hq : q = i.toNatClampNeg
  · subst hq
    simp [updV, va_up, va_rf]
  · simp [updV, va_up, hq]
theorem cz_Nget {C0 : String} {T : u_T} {N0 ci k o idx : Nat} {fs : List Value} {v : Value} (X : cz_XN p s m args meth c cc nL own g) (hW : cz_N g b n C s H locs) (ho : o < n) (he : C o = .inr (ci, fs)) (hc : vwCl[ci]? = some (C0, T, N0)) (hin : ∀ w ∈ u_ws C0 T N0, w ∈ lw_gd) (hk : k < N0) (hl : Cond.fieldLink own idx C0 (T k).2.1 (T k).2.2.1 ∈ lw_gd) (hT1 : (T k).1 = C0) (hv : fs[k]? = some v) (hd : decode cc pc = .ok (.getfield idx, 3))
    (kk : W p l e R s m args below meth c H locs cells slots Q (F0 m (pc + 3) ls (v :: rest))) : W p l e R s m args below meth c H locs cells slots Q (F0 m pc ls (.ref (b + o) :: rest)) := by
  obtain ⟨hx, hb, hml, howN, hts, hK, -⟩ := X
  exact va_get hx hb hts hin howN hK hW.1 o (by rw [cz_wf_at ho, he]) hc k hk (hts _ hl) (fun _ h9 => by rw [hT1] at h9; exact h9) hv hd kk
theorem cz_Nobj {idx : Nat} (X : cz_XN p s m args meth c cc nL own g) (hls : ls.size = nL) (hl : Cond.methodLink own idx objectInit ∈ lw_gd) {a : Nat} (hR : 1 ≤ R.frames) (hRl : (rest.map fun v => v.category).sum + 12 ≤ R.locals) (hd : decode cc pc = .ok (.invokespecial idx, 3))
    (kk : W p l e R s m args below meth c H locs cells slots Q (F0 m (pc + 3) ls rest)) : W p l e R s m args below meth c H locs cells slots Q (F0 m pc ls (.ref a :: rest)) := by
  obtain ⟨hx, hb, hml, howN, hts, hK, -⟩ := X
  exact W.objInit hx hb howN (hts _ hl) (hts _ mi_obj) (hts _ mc_obj) rfl (hls.trans hml.symm) rfl hd hR (by show 2 * 0 + _ + 12 ≤ _; omega) kk
theorem cz_Nback {C' : Nat → va_E} {n' mc ms : Nat} {st0 : List Value} {a0 : Array Value} (hr : va_Run p l e R s m args below meth c H locs cells slots mc ms (F0 m pc ls st0) rest (cz_QN g b n' C' a0) (fun q => b ≤ q)) (hW : cz_N g b n C s H locs)
    (kk : ∀ (H : Heap) (locs : List Loc), cz_N g b n' C' s H locs → W p l e R s m args below meth c H locs (cells + mc) (slots + ms) Q (F0 m (pc + 3) ls rest)) : W p l e R s m args below meth c H locs cells slots Q (F0 m pc ls st0) := by
  intro T hT X
  obtain ⟨v', st₀, t, T', L, h0, X', hL, e1, e2, ⟨⟨hv, hP1, hz1⟩, hz, hk⟩, st⟩ := hr T hT X
  cases hv
  rw [h0] at hz hk
  obtain ⟨hS1, hS2, hS3⟩ := hW.2.2
  obtain ⟨t2, a1, b1⟩ := kk T'.heap (locs ++ L) ⟨by rw [e1]; exact hP1, by rw [e1]; exact hz1, Nat.le_trans hS1 (by rw [e1]; exact hz), fun q h1 h2 => by rw [e1, hk q (Nat.lt_of_lt_of_le h1 hS1) h2]; exact hS2 q h1 h2, fun q hq => by
      rcases List.mem_append.mp hq with h | h
      · exact hS3 q h
      · exact hL q h⟩ T' rfl X'
  exact ⟨t2, st t2 a1, b1⟩
theorem cz_Nblind {o : Nat} : FrameBlind (va_Pc [.ref (b + o)] (fun U => cz_NW g b n C U)) := fun a U gg mk q => ⟨q.1, va_K.moved (u := U) (U := U.calling gg mk a) (Vm.Alike.refl U.vm) q.2.1, q.2.2.1, q.2.2.2.1, cz_EX.same (U := U.calling gg mk a) rfl q.2.2.2.2⟩
theorem cz_Npre {o : Nat} (X : cz_XN p s m args meth c cc nL own g) (hW : cz_N g b n C s H locs) (U : State) (hU : U.heap = H) (hw : s.WarmedH U.vm) : va_Pc [.ref (b + o)] (fun U => cz_NW g b n C U) [Value.ref (b + o)].toArray U := by
  obtain ⟨hx, hb, hml, howN, hts, hK, hex, -⟩ := X
  exact ⟨rfl, va_K.moved hw.alike hK, by rw [hU]; exact hW.1, by rw [hU]; exact hW.2.1, hex.warm hw⟩
def cz_MI (y : MethodName) (cc : ByteArray) (maxL : Nat) : Prop := Cond.instanceMethod y ∈ lw_gd ∧ Cond.code y cc maxL none ∈ lw_gd ∧ Cond.initialized y.cls ∈ lw_gd ∧ y.name = "<init>" ∧ (y.cls ≠ "java/lang/invoke/MethodHandle" ∧ y.cls ≠ "java/lang/invoke/VarHandle" ∧ (parseMethodDescriptor y.desc).map (fun d => d.parameters.length) = some 0)
theorem cz_inI {y : MethodName} {cc' : ByteArray} {maxL : Nat} (hy : cz_MI y cc' maxL) : GoodIn lw_gd (Cond.code y cc' maxL none :: lw_gd) := by
  intro w hw
  have hw : w ∈ lw_gd := by
    rcases List.mem_cons.mp hw with rfl | hw
    · exact hy.2.1
    · exact hw
  exact ⟨hw, good_of_word (gd_good hw)⟩
theorem cz_NrunI {y : MethodName} {cc' : ByteArray} {maxL idx F N mc ms o n' : Nat} {C' : Nat → va_E} (X : cz_XN p s m args meth c cc nL own g) (hW : cz_N g b n C s H locs) (hls : ls.size = nL) (hC : cz_CN l y cc' maxL F N mc ms g b o n C n' C') (hy : cz_MI y cc' maxL) (hl : Cond.methodLink own idx y ∈ lw_gd) (hR : F + 1 ≤ R.frames ∧ 8 + (maxL + 11) + N ≤ R.locals) (hf : cells + mc ≤ R.cells ∧ slots + ms ≤ R.slots) (hro : (rest.map fun v => v.category).sum ≤ 8) (hd : decode cc pc = .ok (.invokespecial idx, 3))
    (kk : ∀ (H : Heap) (locs : List Loc), cz_N g b n' C' s H locs → W p l e R s m args below meth c H locs (cells + mc) (slots + ms) Q (F0 m (pc + 3) ls rest)) : W p l e R s m args below meth c H locs cells slots Q (F0 m pc ls (.ref (b + o) :: rest)) := by
  have X0 := X
  obtain ⟨hx, hb, hml, howN, hts, hK, hex, -⟩ := X
  exact cz_Nback (va_runI (As := []) (rest := rest) ⟨hx, hb, hml, howN, hts⟩ hC ⟨callB_of 0 hts (cz_inI hy) rfl rfl rfl (hts _ hy.2.2.1) (hts _ hl) hy.2.2.2.2 hR, hy.2.2.2.1, hts _ hy.1⟩ ⟨cz_Nblind, fun U hU hw => cz_Npre X0 hW U hU hw⟩ rfl rfl hls rfl (lv_room hro) hd hf) hW kk
theorem cz_NrunIN {y : MethodName} {cc' : ByteArray} {maxL idx F N mc ms o n' : Nat} {C' : Nat → va_E} (X : cz_XN p s m args meth c cc nL own g) (hW : cz_N g b n C s H locs) (hls : ls.size = nL) (hC : cz_CN l y cc' maxL F N mc ms g b o n C n' C') (hy : cz_MI y cc' maxL) (hl : va_Nw (.methodLinkNest own idx y RX4) s) (hR : F + 1 ≤ R.frames ∧ 8 + (maxL + 11) + N ≤ R.locals) (hf : cells + mc ≤ R.cells ∧ slots + ms ≤ R.slots) (hro : (rest.map fun v => v.category).sum ≤ 8) (hd : decode cc pc = .ok (.invokespecial idx, 3))
    (kk : ∀ (H : Heap) (locs : List Loc), cz_N g b n' C' s H locs → W p l e R s m args below meth c H locs (cells + mc) (slots + ms) Q (F0 m (pc + 3) ls rest)) : W p l e R s m args below meth c H locs cells slots Q (F0 m pc ls (.ref (b + o) :: rest)) := by
  have X0 := X
  obtain ⟨hx, hb, hml, howN, hts, hK, hex, -⟩ := X
  exact cz_Nback (va_runIN (As := []) (rest := rest) ⟨hx, hb, hml, howN, hts⟩ hC ⟨va_cnB 0 hts (cz_inI hy) rfl rfl rfl hl (hts _ hy.2.2.1) hy.2.2.2.2 hR, hy.2.2.2.1, hts _ hy.1⟩ ⟨cz_Nblind, fun U hU hw => cz_Npre X0 hW U hU hw⟩ rfl rfl hls rfl (lv_room hro) hd hf) hW kk
end CN
theorem mI_X0 : cz_MI yX0_init cX0_init 1 := ⟨mi_X0_init, mc_X0_init, ini_X0, rfl, by decide +kernel⟩
theorem mI_X1 : cz_MI yX1_init cX1_init 1 := ⟨mi_X1_init, mc_X1_init, ini_X1, rfl, by decide +kernel⟩
theorem mI_X2 : cz_MI yX2_init cX2_init 2 := ⟨mi_X2_init, mc_X2_init, ini_X2, rfl, by decide +kernel⟩
theorem mI_X3 : cz_MI yX3_init cX3_init 1 := ⟨mi_X3_init, mc_X3_init, ini_X3, rfl, by decide +kernel⟩
theorem mI_X4 : cz_MI yX4_init cX4_init 2 := ⟨mi_X4_init, mc_X4_init, ini_X4, rfl, by decide +kernel⟩
set_option maxHeartbeats 4000000 in
set_option maxRecDepth 100000 in
theorem cN_X0 {l : Launch} {g : cz_G} {b o n : Nat} {C : Nat → va_E} : cz_CN l yX0_init cX0_init 1 1 12 0 0 g b o n C n C := by
  refine cz_startN (by decide) rfl (by decide) (fun p e s m args below meth c X H ls hW hl => ?_)
  have X : cz_XN p s m args meth c cX0_init 1 RX0 g := X
  obtain ⟨hx, hb, -⟩ := id X
  refine lv_aload_n hx hb dX0_init_0 rfl (lv_at hl 0 rfl) ?_
  refine cz_Nobj X hl.1 ml_X0_1 (Nat.le_refl _) (Nat.le_of_ble_eq_true rfl) dX0_init_1 ?_
  exact cz_Nret X hW rfl (fun _ _ => rfl) (Nat.le_refl _) (Nat.le_refl _) dX0_init_4
set_option maxHeartbeats 4000000 in
set_option maxRecDepth 100000 in
theorem cN_X1 {l : Launch} {g : cz_G} {b o n : Nat} {C : Nat → va_E} : cz_CN l yX1_init cX1_init 1 1 12 0 0 g b o n C n C := by
  refine cz_startN (by decide) rfl (by decide) (fun p e s m args below meth c X H ls hW hl => ?_)
  have X : cz_XN p s m args meth c cX1_init 1 RX1 g := X
  obtain ⟨hx, hb, -⟩ := id X
  refine lv_aload_n hx hb dX1_init_0 rfl (lv_at hl 0 rfl) ?_
  refine cz_Nobj X hl.1 ml_X1_3 (Nat.le_refl _) (Nat.le_of_ble_eq_true rfl) dX1_init_1 ?_
  exact cz_Nret X hW rfl (fun _ _ => rfl) (Nat.le_refl _) (Nat.le_refl _) dX1_init_4
set_option maxHeartbeats 4000000 in
set_option maxRecDepth 100000 in
theorem cN_X3 {l : Launch} {g : cz_G} {b o n : Nat} {C : Nat → va_E} (ho : o < n) (he : C o = .inr (3, [.null, .int 0])) : cz_CN l yX3_init cX3_init 1 1 12 1 40 g b o n C (n + 1) (va_up (va_up C n (.inl (g.1 0, 40, .inl (fun _ => 0)))) o (.inr (3, [.ref (b + n), .int 0]))) := by
  refine cz_startN (by decide) rfl (by decide) (fun p e s m args below meth c X H ls hW hl => ?_)
  have X : cz_XN p s m args meth c cX3_init 1 RX3 g := X
  obtain ⟨hx, hb, -⟩ := id X
  refine lv_aload_n hx hb dX3_init_0 rfl (lv_at hl 0 rfl) ?_
  refine cz_Nobj X hl.1 ml_X3_3 (Nat.le_refl _) (Nat.le_of_ble_eq_true rfl) dX3_init_1 ?_
  refine lv_aload_n hx hb dX3_init_4 rfl (lv_at hl 0 rfl) ?_
  refine lv_bipush (v := 40) hx hb dX3_init_5 (by decide) ?_
  refine cz_newa (atype := .int) (ty := .int) (t0 := 0) (N' := 40) X hW rfl ac_int rfl rfl rfl (by decide) (by decide) (by decide) (Nat.le_refl _) (Nat.le_refl _) dX3_init_7 (fun H hW => ?_)
  refine cz_NputF (ci := 3) (k := 0) (N0 := 2) (fs := [.null, .int 0]) (ty := .array .int) X hW (by omega) (by simp [va_up, Nat.ne_of_lt ho, he]) rfl inX3 tyX3_ok nmX3 (by decide) rfl lk_X3_9 rfl rfl (by decide +kernel) rfl rfl (by decide) dX3_init_9 (fun H locs hW => ?_)
  exact cz_Nret X hW rfl (fun _ _ => rfl) (Nat.le_refl _) (Nat.le_refl _) dX3_init_12
