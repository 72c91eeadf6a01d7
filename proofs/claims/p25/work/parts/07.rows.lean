/-! the memory: ints by cell and place, longs by cell, the four pasts -/
abbrev cz_M : Type := (Nat → Nat → Int32) × (Nat → Int64) × (Nat → Nat)
def cz_mI (M : cz_M) (a k : Nat) (v : Int32) : cz_M := (fun x y => if x = a ∧ y = k then v else M.1 x y, M.2)
def cz_mL (M : cz_M) (a : Nat) (v : Int64) : cz_M := (M.1, (fun x => if x = a then v else M.2.1 x), M.2.2)
def cz_mP (M : cz_M) (k v : Nat) : cz_M := (M.1, M.2.1, (fun x => if x = k then v else M.2.2 x))
def cz_mA (M : cz_M) (a : Nat) (f : Nat → Int32) : cz_M := (fun x y => if x = a then f y else M.1 x y, M.2)
def cz_ib (i : Int32) (n : Nat) : Bool := decide (¬ i < 0) && decide (i.toNatClampNeg < n)
def cz_cb (sp dp n : Int32) (n0 n1 : Nat) : Bool := decide (¬ sp < 0) && (decide (¬ dp < 0) && (decide (¬ n < 0) && (decide (sp.toNatClampNeg + n.toNatClampNeg ≤ n0) && decide (dp.toNatClampNeg + n.toNatClampNeg ≤ n1))))
def cz_hb (x : Int32) : Bool := decide (narrow .char (.int x) = .int x ∧ fits .char (.int x) = true)
def cz_gd {α : Type} (c : Bool) (k : Option α) : Option α := match c with
  | true => k
  | false => none
def cz_lt {α β : Type} (v : β) (k : β → Option α) : Option α := k v
theorem cz_gd_t {α : Type} {c : Bool} {k : Option α} {r : α} (h : cz_gd c k = some r) : c = true ∧ k = some r := by
  cases c with
  | true => exact ⟨rfl, h⟩
  | false => cases h
theorem cz_bd_t {α β : Type} {o : Option β} {k : β → Option α} {r : α} (h : o.bind k = some r) : ∃ v, o = some v ∧ k v = some r := by
  cases o with
  | none => cases h
  | some v => exact ⟨v, rfl, h⟩
theorem cz_ite_t {α : Type} {c : Prop} [Decidable c] {a b : Option α} {r : Option α} (hc : c) (h : (if c then a else b) = r) : a = r := by rw [if_pos hc] at h; exact h
theorem cz_ite_f {α : Type} {c : Prop} [Decidable c] {a b : Option α} {r : Option α} (hc : ¬ c) (h : (if c then a else b) = r) : b = r := by rw [if_neg hc] at h; exact h
theorem cz_ib_in {i : Int32} {n : Nat} (h : cz_ib i n = true) : vp_in i n := by
  simp only [cz_ib, Bool.and_eq_true, decide_eq_true_eq] at h
  intro q
  rcases q with q | q
  · exact h.1 q
  · omega
theorem cz_ib_lt {i : Int32} {n : Nat} (h : cz_ib i n = true) : i.toNatClampNeg < n := by
  simp only [cz_ib, Bool.and_eq_true, decide_eq_true_eq] at h
  exact h.2
/-! the cells, by their place behind the base -/
def cz_pk (o : Nat) : Nat := if o = 0 then 2 else if o = 1 then 103 else if o = 2 then 10 else if o = 3 then 108 else if o = 4 then 11 else if o = 5 then 12 else if o = 6 then 3 else if o = 7 then 140 else if o = 8 then 105 else if o < 13 then 0 else if o < 53 then 1 else if o = 53 then 3 else if o = 54 then 140 else if o = 55 then 3 else 140
def cz_kd (o : Nat) : Nat := if o = 0 then 4 else if o < 115 then cz_pk ((o - 1) % 57) else if o = 115 then 13 else if o = 116 then 14 else if o = 117 then 5002 else if o = 118 then 7 else if o < 461 then cz_pk ((o - 119) % 57) else 0
def cz_fs (ci a : Nat) (M : cz_M) : List Value := match ci with
  | 0 => [.int (M.1 a 0), .int (M.1 a 1), .int (M.1 a 2), .int (M.1 a 3)]
  | 1 => [.int (M.1 a 0), .int (M.1 a 1), .long (M.2.1 a), .int (M.1 a 3), .int (M.1 a 4), .int (M.1 a 5), .int (M.1 a 6), .int (M.1 a 7), .int (M.1 a 8), .int (M.1 a 9), .int (M.1 a 10)]
  | 2 => [.ref (a + 1), .ref (a + 2), .ref (a + 3), .ref (a + 4), .ref (a + 5), .ref (a + 6), .ref (a + 8), .int (M.1 a 7), .int (M.1 a 8)]
  | 3 => [.ref (a + 1), .int (M.1 a 1)]
  | 4 => [.ref (a + 1), .ref (a + 58), .ref (a + 115), .ref (a + 116), .ref (a + 117), .ref (a + 118), .int (M.1 a 6), .int (M.1 a 7)]
  | _ => []
def cz_cel (y : Nat → ClassId) (a kd : Nat) (M : cz_M) : va_E :=
  if kd < 6 then .inr (kd, cz_fs kd a M)
  else if kd = 7 then .inl (y 1, 60, .inl (M.1 a))
  else if kd = 10 then .inl (y 3, 4, .inr (.inr (.inr (.inr (fun j => some (a + 7 + j))))))
  else if kd = 11 then .inl (y 4, 40, .inr (.inr (.inr (.inr (fun j => some (a + 9 + j))))))
  else if kd = 12 then .inl (y 5, 2, .inr (.inr (.inr (.inr (fun j => some (a + 48 + 2 * j))))))
  else if kd = 13 then .inl (y 6, 4, .inr (.inr (.inr (.inr (fun j => some (M.2.2 j))))))
  else if kd = 14 then .inl (y 6, 2, .inr (.inr (.inr (.inr (fun j => some (a + 231 + 57 * j))))))
  else if kd < 5000 then .inl (y 0, kd - 100, .inl (M.1 a))
  else .inl (y 2, kd - 5000, .inl (M.1 a))
def cz_wl (y : Nat → ClassId) (b : Nat) (M : cz_M) : va_W := (List.range 461).map (fun o => (b + o, cz_cel y (b + o) (cz_kd o) M))
def cz_tys (y : Nat → ClassId) : List (ClassId × FieldType) := [(y 0, .int), (y 1, .char), (y 2, .boolean), (y 3, .object RX0), (y 4, .object RX1), (y 5, .object RX3), (y 6, .object RX2)]
def cz_K (b a k : Nat) : Prop := b ≤ a ∧ a < b + 461 ∧ cz_kd (a - b) = k
theorem cz_K_ch {b a k δ kc : Nat} (h : cz_K b a k) (hd : ∀ o, o < 461 → cz_kd o = k → o + δ < 461 ∧ cz_kd (o + δ) = kc) : cz_K b (a + δ) kc := by
  obtain ⟨h1, h2, h3⟩ := h
  obtain ⟨h4, h5⟩ := hd (a - b) (by omega) h3
  refine ⟨by omega, by omega, ?_⟩
  rw [show a + δ - b = a - b + δ by omega]
  exact h5
theorem cz_wl_len (y : Nat → ClassId) (b : Nat) (M : cz_M) : (cz_wl y b M).length = 461 := by simp [cz_wl]
theorem cz_wl_at (y : Nat → ClassId) (b : Nat) (M : cz_M) {i : Nat} (h : i < 461) : (cz_wl y b M)[i]? = some (b + i, cz_cel y (b + i) (cz_kd i) M) := by
  rw [cz_wl, List.getElem?_map, List.getElem?_range h]
  rfl
theorem cz_wl_get {y : Nat → ClassId} {b a k : Nat} {M : cz_M} (h : cz_K b a k) : (cz_wl y b M)[a - b]? = some (a, cz_cel y a k M) := by
  obtain ⟨h1, h2, h3⟩ := h
  rw [cz_wl_at y b M (by omega), show b + (a - b) = a by omega, h3]
theorem cz_wl_set {y : Nat → ClassId} {b a k : Nat} {M M' : cz_M} {e : va_E} (h : cz_K b a k) (he : e = cz_cel y a k M') (ho : ∀ x kd, x ≠ a → cz_cel y x kd M' = cz_cel y x kd M) : (cz_wl y b M).set (a - b) (a, e) = cz_wl y b M' := by
  subst he
  obtain ⟨h1, h2, h3⟩ := h
  apply List.ext_getElem?
  intro i
  by_cases hi : i < 461
  · by_cases hia : i = a - b
    · subst hia
      rw [List.getElem?_set_self (by rw [cz_wl_len]; exact hi), cz_wl_at y b M' hi, show b + (a - b) = a by omega, h3]
    · rw [List.getElem?_set_ne (Ne.symm hia), cz_wl_at y b M hi, cz_wl_at y b M' hi, ho (b + i) (cz_kd i) (by omega)]
  · rw [List.getElem?_eq_none (by rw [List.length_set, cz_wl_len]; omega), List.getElem?_eq_none (by rw [cz_wl_len]; omega)]
/-- the class's own cells -/
def cz_Ar (b : Nat) : Nat → Prop := fun q => b ≤ q ∧ q < b + 461
theorem cz_wl_D (y : Nat → ClassId) (b : Nat) (M : cz_M) : va_D (cz_Ar b) (cz_wl y b M) := by
  have key : ∀ (k : Nat) (q : Nat × va_E), (cz_wl y b M)[k]? = some q → q.1 = b + k := by
    intro k q hk
    have hl := (List.getElem?_eq_some_iff.mp hk).1
    rw [cz_wl_len] at hl
    rw [cz_wl_at y b M hl] at hk
    cases hk
    rfl
  refine ⟨fun i j p q hi hj hpq => ?_, fun k q hk => ?_⟩
  · have h1 := key i p hi
    have h2 := key j q hj
    omega
  · have hl := (List.getElem?_eq_some_iff.mp hk).1
    rw [cz_wl_len] at hl
    show b ≤ q.1 ∧ q.1 < b + 461
    rw [key k q hk]
    omega
abbrev cz_G : Type := (Nat → ClassId) × va_G
/-- the two tables of numbers that the class reads -/
theorem cz_Sw {b : Nat} {H0 H : Heap} {locs : List Loc} (h : va_S (cz_Ar b) H0 H locs) : va_S (fun q => b ≤ q) H0 H locs := ⟨h.1, fun q h1 h2 => h.2.1 q h1 (fun z => h2 z.1), fun l hl => (h.2.2 l hl).1⟩
def cz_ST (b : Nat) (U : State) (H : Heap) : Prop := (∃ t : Nat, va_Z RX4 "LEAST_VALUES" "[I" (.ref t) (fun q => b ≤ q) U H ∧ va_T .int t 3 (fun j => .int (if j = 0 then 1 else if j = 1 then 0 else 1)) (fun q => b ≤ q) U H) ∧ ∃ t : Nat, va_Z RX4 "MOST_VALUES" "[I" (.ref t) (fun q => b ≤ q) U H ∧ va_T .int t 3 (fun j => .int (if j = 0 then 9 else if j = 1 then 8 else 5)) (fun q => b ≤ q) U H
theorem cz_ST.gol {b : Nat} {u U : State} {H H1 : Heap} (h : cz_ST b u H) (hvm : u.vm.Alike U.vm) (hq : ∀ a : Nat, a < H.size → ¬ (fun q => b ≤ q) a → H1[a]? = H[a]?) : cz_ST b U H1 := by
  obtain ⟨⟨t, h1, h2⟩, t2, h3, h4⟩ := h
  exact ⟨⟨t, va_Z.kept (va_Z.moved hvm h1) hq, va_T.kept (va_T.moved hvm h2) hq⟩, t2, va_Z.kept (va_Z.moved hvm h3) hq, va_T.kept (va_T.moved hvm h4) hq⟩
theorem cz_ST.go {b : Nat} {u U : State} {H H1 : Heap} (h : cz_ST b u H) (hvm : u.vm.Alike U.vm) (hq : ∀ a : Nat, a < H.size → ¬ cz_Ar b a → H1[a]? = H[a]?) : cz_ST b U H1 := h.gol hvm (fun a h1 h2 => hq a h1 (fun z => h2 z.1))
/-- the world in a state; in a walk -/
def cz_WW (g : cz_G) (b : Nat) (M : cz_M) (U : State) : Prop := va_K g.2 vwCl (cz_tys g.1) U ∧ va_P g.2 vwCl (cz_wl g.1 b M) U.heap ∧ (∀ j, j < 4 → cz_K b (M.2.2 j) 2) ∧ cz_ST b U U.heap
def cz_WS (g : cz_G) (b : Nat) (M : cz_M) (s : State) (H : Heap) (locs : List Loc) : Prop := va_P g.2 vwCl (cz_wl g.1 b M) H ∧ (∀ j, j < 4 → cz_K b (M.2.2 j) 2) ∧ va_S (cz_Ar b) s.heap H locs
def cz_Q (g : cz_G) (b : Nat) (v : Option Value) (M : cz_M) : Array Value → State → Outcome → State → Prop := fun _ st oc t => (oc = .returned v ∧ cz_WW g b M t) ∧ va_F (cz_Ar b) st t
def cz_C (l : Launch) (y : MethodName) (cc : ByteArray) (maxL : Nat) (ret : Option FieldType) (F N : Nat) (g : cz_G) (b : Nat) (av : List Value) (M : cz_M) (v : Option Value) (M' : cz_M) : Prop :=
  Met l y (Cond.code y cc maxL ret :: lw_gd) { frames := F, cells := 0, slots := 0, locals := N } (va_Pc av (fun U => cz_WW g b M U)) (cz_Q g b v M') 0 0 (cz_Ar b)
def cz_X (p : Program) (s : State) (m : MethodId) (args : Array Value) (meth : Method) (c : Code) (cc : ByteArray) (nL : Nat) (own : String) (g : cz_G) (b : Nat) (rt : Option FieldType) : Prop :=
  p.tables.exec = Jvm.exec ∧ c.code = cc ∧ c.maxLocals = nL ∧ s.vm.findClass own = some m.cls ∧ (∀ w ∈ lw_gd, w.before args s = true) ∧ va_K g.2 vwCl (cz_tys g.1) s ∧ cz_ST b s s.heap ∧ meth.sig.returnType = rt ∧ meth.locks = false
theorem cz_start {l : Launch} {y : MethodName} {cc : ByteArray} {maxL : Nat} {ret : Option FieldType} {F N : Nat} {g : cz_G} {b : Nat} {av : List Value} {M M' : cz_M} {v : Option Value} (hy : plainName y.cls = true) (hlen : (lg_sl av).length ≤ maxL)
    (body : ∀ (p : Program) (e : Env) (s : State) (m : MethodId) (args : Array Value) (below : List Frame) (meth : Method) (c : Code), cz_X p s m args meth c cc maxL y.cls g b ret → ∀ (H : Heap) (ls : Array Slot), cz_WS g b M s H [] → lv_has ls maxL (lv_args 0 av) →
      W p l e { frames := F, cells := 0, slots := 0, locals := N } s m args below meth c H [] 0 0 (MQ below (cz_Q g b v M') args s 0 0 (cz_Ar b)) (F0 m 0 ls [])) : cz_C l y cc maxL ret F N g b av M v M' := by
  refine Met.ofW (cc := cc) (maxL := maxL) (ret := ret) hy rfl ?_
  intro p e s m args below meth c s₁ B hml hv
  obtain ⟨rfl, hK, hP, hp, hst⟩ := hv
  rw [lg_entry_eq]
  have hts := atoms_spec (ws := Cond.code y cc maxL ret :: lw_gd) B.pre
  exact body p e s m _ below meth c ⟨B.exec, B.bytes, hml, findClass_of_methodNamed B.named, fun w h => hts w (List.mem_cons_of_mem _ h), hK, hst, B.returns, B.notSynchronized⟩ _ _ ⟨hP, hp, va_S.rf⟩ (lv_entry av hlen)
/-! what is said of a field, once a field -/
def cz_fI (ci k : Nat) (C : String) (T : u_T) (N : Nat) : Prop := vwCl[ci]? = some (C, T, N) ∧ ci < 6 ∧ k < N ∧ (∀ w ∈ u_ws C T N, w ∈ lw_gd) ∧ (T k).1 = C ∧ (T k).2.2.2 = false ∧ parseFieldDescriptor (T k).2.2.1 = some .int ∧ (∀ a M, (cz_fs ci a M)[k]? = some (.int (M.1 a k))) ∧ (∀ a M v, cz_fs ci a (cz_mI M a k v) = (cz_fs ci a M).set k (.int v)) ∧ (∀ a M, k < (cz_fs ci a M).length) ∧ (∃ ty0 : Nat → FieldType, ∀ j, j < N → parseFieldDescriptor (T j).2.2.1 = some (ty0 j)) ∧ ∀ a, a < N → ∀ b, b < N → a ≠ b → (T a).2.1 ≠ (T b).2.1
def cz_fL (C : String) (T : u_T) (N : Nat) : Prop := vwCl[1]? = some (C, T, N) ∧ 2 < N ∧ (∀ w ∈ u_ws C T N, w ∈ lw_gd) ∧ (T 2).1 = C ∧ (T 2).2.2.2 = false ∧ parseFieldDescriptor (T 2).2.2.1 = some .long ∧ (∃ ty0 : Nat → FieldType, ∀ j, j < N → parseFieldDescriptor (T j).2.2.1 = some (ty0 j)) ∧ ∀ a, a < N → ∀ b, b < N → a ≠ b → (T a).2.1 ≠ (T b).2.1
def cz_fR (ci k δ kc : Nat) (C : String) (T : u_T) (N : Nat) : Prop := vwCl[ci]? = some (C, T, N) ∧ ci < 6 ∧ k < N ∧ (∀ w ∈ u_ws C T N, w ∈ lw_gd) ∧ (T k).1 = C ∧ (∀ a M, (cz_fs ci a M)[k]? = some (.ref (a + δ))) ∧ ∀ o, o < 461 → cz_kd o = ci → o + δ < 461 ∧ cz_kd (o + δ) = kc
theorem cz_cel_obj {y : Nat → ClassId} {a ci : Nat} {M : cz_M} (h : ci < 6) : cz_cel y a ci M = .inr (ci, cz_fs ci a M) := by rw [cz_cel, if_pos h]
theorem cz_cel_int {y : Nat → ClassId} {a n : Nat} {M : cz_M} (h : n < 4900) : cz_cel y a (n + 100) M = .inl (y 0, n, .inl (M.1 a)) := by
  rw [cz_cel, if_neg (by omega), if_neg (by omega), if_neg (by omega), if_neg (by omega), if_neg (by omega), if_neg (by omega), if_neg (by omega), if_pos (by omega), Nat.add_sub_cancel]
theorem cz_fs_I {ci x a k : Nat} {v : Int32} {M : cz_M} (h : x ≠ a) : cz_fs ci x (cz_mI M a k v) = cz_fs ci x M := by
  have e : ∀ j, (cz_mI M a k v).1 x j = M.1 x j := fun j => by simp [cz_mI, h]
  have e2 : (cz_mI M a k v).2.1 x = M.2.1 x := rfl
  unfold cz_fs
  split <;> simp only [e, e2]
theorem cz_fs_A {ci x a : Nat} {f : Nat → Int32} {M : cz_M} (h : x ≠ a) : cz_fs ci x (cz_mA M a f) = cz_fs ci x M := by
  have e : ∀ j, (cz_mA M a f).1 x j = M.1 x j := fun j => by simp [cz_mA, h]
  have e2 : (cz_mA M a f).2.1 x = M.2.1 x := rfl
  unfold cz_fs
  split <;> simp only [e, e2]
theorem cz_fs_L {ci x a : Nat} {v : Int64} {M : cz_M} (h : x ≠ a) : cz_fs ci x (cz_mL M a v) = cz_fs ci x M := by
  have e2 : (cz_mL M a v).2.1 x = M.2.1 x := by simp [cz_mL, h]
  have e : ∀ j, (cz_mL M a v).1 x j = M.1 x j := fun j => rfl
  unfold cz_fs
  split <;> simp only [e, e2]
theorem cz_fs_P {ci x k v : Nat} {M : cz_M} : cz_fs ci x (cz_mP M k v) = cz_fs ci x M := by
  unfold cz_fs
  split <;> rfl
theorem cz_cel_I {y : Nat → ClassId} {x a k kd : Nat} {v : Int32} {M : cz_M} (h : x ≠ a) : cz_cel y x kd (cz_mI M a k v) = cz_cel y x kd M := by
  have e : (cz_mI M a k v).1 x = M.1 x := by funext j; simp [cz_mI, h]
  have e3 : (cz_mI M a k v).2.2 = M.2.2 := rfl
  unfold cz_cel
  rw [cz_fs_I h, e, e3]
theorem cz_cel_A {y : Nat → ClassId} {x a kd : Nat} {f : Nat → Int32} {M : cz_M} (h : x ≠ a) : cz_cel y x kd (cz_mA M a f) = cz_cel y x kd M := by
  have e : (cz_mA M a f).1 x = M.1 x := by funext j; simp [cz_mA, h]
  have e3 : (cz_mA M a f).2.2 = M.2.2 := rfl
  unfold cz_cel
  rw [cz_fs_A h, e, e3]
theorem cz_cel_L {y : Nat → ClassId} {x a kd : Nat} {v : Int64} {M : cz_M} (h : x ≠ a) : cz_cel y x kd (cz_mL M a v) = cz_cel y x kd M := by
  have e : (cz_mL M a v).1 = M.1 := rfl
  have e3 : (cz_mL M a v).2.2 = M.2.2 := rfl
  unfold cz_cel
  rw [cz_fs_L h, e, e3]
theorem cz_cel_P {y : Nat → ClassId} {x k w kd : Nat} {M : cz_M} (h : kd ≠ 13) : cz_cel y x kd (cz_mP M k w) = cz_cel y x kd M := by
  have e : (cz_mP M k w).1 = M.1 := rfl
  unfold cz_cel
  rw [cz_fs_P, e, if_neg h, if_neg h]
section CZ
variable {p : Program} {l : Launch} {e : Env} {R : Room} {s : State} {m : MethodId} {args : Array Value} {below : List Frame} {meth : Method} {c : Code} {H : Heap} {locs : List Loc} {Q : State → Prop}
variable {cc : ByteArray} {pc nL : Nat} {ls : Array Slot} {rest : List Value} {g : cz_G} {b a : Nat} {own : String} {rt : Option FieldType} {M : cz_M} {α : Type} {res : α}
theorem cz_getI (X : cz_X p s m args meth c cc nL own g b rt) (hM : cz_WS g b M s H locs) {ci k N idx : Nat} {C : String} {T : u_T} (hF : cz_fI ci k C T N) (hk : cz_K b a ci) (hl : Cond.fieldLink own idx C (T k).2.1 (T k).2.2.1 ∈ lw_gd) (hd : decode cc pc = .ok (.getfield idx, 3))
    (kk : W p l e R s m args below meth c H locs 0 0 Q (F0 m (pc + 3) ls (.int (M.1 a k) :: rest))) : W p l e R s m args below meth c H locs 0 0 Q (F0 m pc ls (.ref a :: rest)) := by
  obtain ⟨h1, h2, h3, h4, h5, -, -, h8, -⟩ := hF
  obtain ⟨hx, hb, -, ho, ht, hK, -⟩ := X
  exact va_get hx hb ht h4 ho hK hM.1 (a - b) (by rw [cz_wl_get hk, cz_cel_obj h2]) h1 k h3 (ht _ hl) (fun _ h9 => by rw [h5] at h9; exact h9) (h8 a M) hd kk
theorem cz_getL (X : cz_X p s m args meth c cc nL own g b rt) (hM : cz_WS g b M s H locs) {N idx : Nat} {C : String} {T : u_T} (hF : cz_fL C T N) (hk : cz_K b a 1) (hl : Cond.fieldLink own idx C (T 2).2.1 (T 2).2.2.1 ∈ lw_gd) (hd : decode cc pc = .ok (.getfield idx, 3))
    (kk : W p l e R s m args below meth c H locs 0 0 Q (F0 m (pc + 3) ls (.long (M.2.1 a) :: rest))) : W p l e R s m args below meth c H locs 0 0 Q (F0 m pc ls (.ref a :: rest)) := by
  obtain ⟨h1, h3, h4, h5, -⟩ := hF
  obtain ⟨hx, hb, -, ho, ht, hK, -⟩ := X
  exact va_get hx hb ht h4 ho hK hM.1 (a - b) (by rw [cz_wl_get hk, cz_cel_obj (by decide)]) h1 2 h3 (ht _ hl) (fun _ h9 => by rw [h5] at h9; exact h9) rfl hd kk
theorem cz_getR (X : cz_X p s m args meth c cc nL own g b rt) (hM : cz_WS g b M s H locs) {ci k δ kc N idx : Nat} {C : String} {T : u_T} (hF : cz_fR ci k δ kc C T N) (hk : cz_K b a ci) (hl : Cond.fieldLink own idx C (T k).2.1 (T k).2.2.1 ∈ lw_gd) (hd : decode cc pc = .ok (.getfield idx, 3))
    (kk : cz_K b (a + δ) kc → W p l e R s m args below meth c H locs 0 0 Q (F0 m (pc + 3) ls (.ref (a + δ) :: rest))) : W p l e R s m args below meth c H locs 0 0 Q (F0 m pc ls (.ref a :: rest)) := by
  obtain ⟨h1, h2, h3, h4, h5, h6, h7⟩ := hF
  obtain ⟨hx, hb, -, ho, ht, hK, -⟩ := X
  exact va_get hx hb ht h4 ho hK hM.1 (a - b) (by rw [cz_wl_get hk, cz_cel_obj h2]) h1 k h3 (ht _ hl) (fun _ h9 => by rw [h5] at h9; exact h9) (h6 a M) hd (kk (cz_K_ch hk h7))
theorem cz_putI (X : cz_X p s m args meth c cc nL own g b rt) (hM : cz_WS g b M s H locs) {ci k N idx : Nat} {C : String} {T : u_T} {v : Int32} {K : cz_M → Option α} (h : cz_lt (cz_mI M a k v) K = some res) (hF : cz_fI ci k C T N) (hk : cz_K b a ci) (hl : Cond.fieldLink own idx C (T k).2.1 (T k).2.2.1 ∈ lw_gd) (hd : decode cc pc = .ok (.putfield idx, 3))
    (kk : ∀ (M : cz_M) (H : Heap) (locs : List Loc), K M = some res → cz_WS g b M s H locs → W p l e R s m args below meth c H locs 0 0 Q (F0 m (pc + 3) ls rest)) : W p l e R s m args below meth c H locs 0 0 Q (F0 m pc ls (.int v :: .ref a :: rest)) := by
  obtain ⟨h1, h2, h3, h4, h5, h6, h7, h8, h9, h10, ⟨ty0, h11⟩, h12⟩ := hF
  obtain ⟨hx, hb, -, ho, ht, hK, -⟩ := X
  refine va_put hx hb ht h4 ty0 h11 h12 ho hK hM.1 (cz_wl_D g.1 b M) hM.2.2 (a - b) (by rw [cz_wl_get hk, cz_cel_obj h2]) h1 k h3 (ht _ hl) (fun _ h9 => by rw [h5] at h9; exact h9) h6 h7 rfl rfl (h10 a M) hd (fun H1 locs1 q1 q2 q3 => ?_)
  refine kk _ H1 locs1 h ⟨?_, hM.2.1, q3⟩
  rw [cz_wl_set hk (M' := cz_mI M a k v) (by rw [cz_cel_obj h2, h9]) (fun x kd hx => cz_cel_I hx)] at q1
  exact q1
theorem cz_putL (X : cz_X p s m args meth c cc nL own g b rt) (hM : cz_WS g b M s H locs) {N idx : Nat} {C : String} {T : u_T} {v : Int64} {K : cz_M → Option α} (h : cz_lt (cz_mL M a v) K = some res) (hF : cz_fL C T N) (hk : cz_K b a 1) (hl : Cond.fieldLink own idx C (T 2).2.1 (T 2).2.2.1 ∈ lw_gd) (hd : decode cc pc = .ok (.putfield idx, 3))
    (kk : ∀ (M : cz_M) (H : Heap) (locs : List Loc), K M = some res → cz_WS g b M s H locs → W p l e R s m args below meth c H locs 0 0 Q (F0 m (pc + 3) ls rest)) : W p l e R s m args below meth c H locs 0 0 Q (F0 m pc ls (.long v :: .ref a :: rest)) := by
  obtain ⟨h1, h3, h4, h5, h6, h7, ⟨ty0, h11⟩, h12⟩ := hF
  obtain ⟨hx, hb, -, ho, ht, hK, -⟩ := X
  refine va_put hx hb ht h4 ty0 h11 h12 ho hK hM.1 (cz_wl_D g.1 b M) hM.2.2 (a - b) (by rw [cz_wl_get hk, cz_cel_obj (by decide)]) h1 2 h3 (ht _ hl) (fun _ h9 => by rw [h5] at h9; exact h9) h6 h7 rfl rfl (by simp [cz_fs]) hd (fun H1 locs1 q1 q2 q3 => ?_)
  refine kk _ H1 locs1 h ⟨?_, hM.2.1, q3⟩
  rw [cz_wl_set hk (M' := cz_mL M a v) (by rw [cz_cel_obj (by decide)]; simp [cz_fs, cz_mL]) (fun x kd hx => cz_cel_L hx)] at q1
  exact q1
theorem cz_iald {n : Nat} (X : cz_X p s m args meth c cc nL own g b rt) (hM : cz_WS g b M s H locs) {i : Int32} {K : Option α} (h : cz_gd (cz_ib i n) K = some res) (hk : cz_K b a (n + 100)) (hn : n < 4900) (hd : decode cc pc = .ok (.iaload, 1))
    (kk : K = some res → W p l e R s m args below meth c H locs 0 0 Q (F0 m (pc + 1) ls (.int (M.1 a i.toNatClampNeg) :: rest))) : W p l e R s m args below meth c H locs 0 0 Q (F0 m pc ls (.int i :: .ref a :: rest)) := by
  obtain ⟨hi, hK⟩ := cz_gd_t h
  obtain ⟨hx, hb, -, ho, ht, hKK, -⟩ := X
  exact va_iald hx hb hKK hM.1 (a - b) 0 (by rw [cz_wl_get hk, cz_cel_int hn]) rfl (cz_ib_in hi) hd (kk hK)
theorem cz_cald (X : cz_X p s m args meth c cc nL own g b rt) (hM : cz_WS g b M s H locs) {i : Int32} {K : Option α} (h : cz_gd (cz_ib i 60) K = some res) (hk : cz_K b a 7) (hd : decode cc pc = .ok (.caload, 1))
    (kk : K = some res → W p l e R s m args below meth c H locs 0 0 Q (F0 m (pc + 1) ls (.int (M.1 a i.toNatClampNeg) :: rest))) : W p l e R s m args below meth c H locs 0 0 Q (F0 m pc ls (.int i :: .ref a :: rest)) := by
  obtain ⟨hi, hK⟩ := cz_gd_t h
  obtain ⟨hx, hb, -, ho, ht, hKK, -⟩ := X
  exact va_cald hx hb hKK hM.1 (a - b) 1 (by rw [cz_wl_get hk]; rfl) rfl (cz_ib_in hi) hd (kk hK)
theorem cz_iast {n : Nat} (X : cz_X p s m args meth c cc nL own g b rt) (hM : cz_WS g b M s H locs) {i v : Int32} {K : cz_M → Option α} (h : cz_gd (cz_ib i n) (cz_lt (cz_mI M a i.toNatClampNeg v) K) = some res) (hk : cz_K b a (n + 100)) (hn : n < 4900) (hd : decode cc pc = .ok (.iastore, 1))
    (kk : ∀ (M : cz_M) (H : Heap) (locs : List Loc), K M = some res → cz_WS g b M s H locs → W p l e R s m args below meth c H locs 0 0 Q (F0 m (pc + 1) ls rest)) : W p l e R s m args below meth c H locs 0 0 Q (F0 m pc ls (.int v :: .int i :: .ref a :: rest)) := by
  obtain ⟨hi, hK⟩ := cz_gd_t h
  obtain ⟨hx, hb, -, ho, ht, hKK, -⟩ := X
  refine va_iast hx hb hKK hM.1 (cz_wl_D g.1 b M) hM.2.2 (a - b) 0 (by rw [cz_wl_get hk, cz_cel_int hn]) rfl (cz_ib_in hi) hd (fun H1 locs1 q1 q2 q3 => ?_)
  refine kk _ H1 locs1 hK ⟨?_, hM.2.1, q3⟩
  rw [cz_wl_set hk (M' := cz_mI M a i.toNatClampNeg v) (by
    rw [cz_cel_int hn]
    refine congrArg (fun z => Sum.inl (g.1 0, n, Sum.inl z)) ?_
    funext j
    simp [cz_mI, upd]) (fun x kd hx => cz_cel_I hx)] at q1
  exact q1
theorem cz_cast (X : cz_X p s m args meth c cc nL own g b rt) (hM : cz_WS g b M s H locs) {i v : Int32} {K : cz_M → Option α} (h : cz_gd (cz_ib i 60) (cz_gd (cz_hb v) (cz_lt (cz_mI M a i.toNatClampNeg v) K)) = some res) (hk : cz_K b a 7) (hd : decode cc pc = .ok (.castore, 1))
    (kk : ∀ (M : cz_M) (H : Heap) (locs : List Loc), K M = some res → cz_WS g b M s H locs → W p l e R s m args below meth c H locs 0 0 Q (F0 m (pc + 1) ls rest)) : W p l e R s m args below meth c H locs 0 0 Q (F0 m pc ls (.int v :: .int i :: .ref a :: rest)) := by
  obtain ⟨hi, hK⟩ := cz_gd_t h
  obtain ⟨hz, hK⟩ := cz_gd_t hK
  have hv : vp_nar .char v = v := by
    simp only [cz_hb, decide_eq_true_eq] at hz
    show (match narrow .char (.int v) with | .int y => y | _ => 0) = v
    rw [hz.1]
  obtain ⟨hx, hb, -, ho, ht, hKK, -⟩ := X
  refine va_cast hx hb hKK hM.1 (cz_wl_D g.1 b M) hM.2.2 (a - b) 1 (by rw [cz_wl_get hk]; rfl) rfl (cz_ib_in hi) hd (fun H1 locs1 q1 q2 q3 => ?_)
  refine kk _ H1 locs1 hK ⟨?_, hM.2.1, q3⟩
  rw [hv] at q1
  rw [cz_wl_set hk (M' := cz_mI M a i.toNatClampNeg v) (by
    show _ = Sum.inl (g.1 1, 60, Sum.inl _)
    refine congrArg (fun z => Sum.inl (g.1 1, 60, Sum.inl z)) ?_
    funext j
    simp [cz_mI, upd]) (fun x kd hx => cz_cel_I hx)] at q1
  exact q1
theorem cz_aald {kd n t0 kc : Nat} {cN : String} {δ : Nat → Nat} (X : cz_X p s m args meth c cc nL own g b rt) (hM : cz_WS g b M s H locs) {i : Int32} {K : Option α} (h : cz_gd (cz_ib i n) K = some res) (hk : cz_K b a kd) (he : cz_cel g.1 a kd M = .inl (g.1 t0, n, .inr (.inr (.inr (.inr (fun j => some (a + δ j))))))) (ht0 : (cz_tys g.1)[t0]? = some (g.1 t0, .object cN)) (hch : ∀ o, o < 461 → cz_kd o = kd → ∀ j, j < n → o + δ j < 461 ∧ cz_kd (o + δ j) = kc) (hd : decode cc pc = .ok (.aaload, 1))
    (kk : K = some res → cz_K b (a + δ i.toNatClampNeg) kc → W p l e R s m args below meth c H locs 0 0 Q (F0 m (pc + 1) ls (.ref (a + δ i.toNatClampNeg) :: rest))) : W p l e R s m args below meth c H locs 0 0 Q (F0 m pc ls (.int i :: .ref a :: rest)) := by
  obtain ⟨hi, hK⟩ := cz_gd_t h
  obtain ⟨hx, hb, -, ho, ht, hKK, -⟩ := X
  exact va_aldq (f := fun j => some (a + δ j)) hx hb hKK hM.1 (a - b) t0 (by rw [cz_wl_get hk, he]) ht0 (cz_ib_in hi) hd (kk hK (cz_K_ch hk (fun o h1 h2 => hch o h1 h2 _ (cz_ib_lt hi))))
theorem cz_ch0 : ∀ o, o < 461 → cz_kd o = 10 → ∀ j, j < 4 → o + (7 + j) < 461 ∧ cz_kd (o + (7 + j)) = 0 := by decide +kernel
theorem cz_ch1 : ∀ o, o < 461 → cz_kd o = 11 → ∀ j, j < 40 → o + (9 + j) < 461 ∧ cz_kd (o + (9 + j)) = 1 := by decide +kernel
theorem cz_ch2 : ∀ o, o < 461 → cz_kd o = 12 → ∀ j, j < 2 → o + (48 + 2 * j) < 461 ∧ cz_kd (o + (48 + 2 * j)) = 3 := by decide +kernel
theorem cz_aald0 (X : cz_X p s m args meth c cc nL own g b rt) (hM : cz_WS g b M s H locs) {i : Int32} {K : Option α} (h : cz_gd (cz_ib i 4) K = some res) (hk : cz_K b a 10) (hd : decode cc pc = .ok (.aaload, 1))
    (kk : K = some res → cz_K b (a + (7 + i.toNatClampNeg)) 0 → W p l e R s m args below meth c H locs 0 0 Q (F0 m (pc + 1) ls (.ref (a + (7 + i.toNatClampNeg)) :: rest))) : W p l e R s m args below meth c H locs 0 0 Q (F0 m pc ls (.int i :: .ref a :: rest)) :=
  cz_aald (δ := fun j => 7 + j) (t0 := 3) (cN := RX0) X hM h hk (by simp only [cz_cel]; simp [Nat.add_assoc]) rfl cz_ch0 hd kk
theorem cz_aald1 (X : cz_X p s m args meth c cc nL own g b rt) (hM : cz_WS g b M s H locs) {i : Int32} {K : Option α} (h : cz_gd (cz_ib i 40) K = some res) (hk : cz_K b a 11) (hd : decode cc pc = .ok (.aaload, 1))
    (kk : K = some res → cz_K b (a + (9 + i.toNatClampNeg)) 1 → W p l e R s m args below meth c H locs 0 0 Q (F0 m (pc + 1) ls (.ref (a + (9 + i.toNatClampNeg)) :: rest))) : W p l e R s m args below meth c H locs 0 0 Q (F0 m pc ls (.int i :: .ref a :: rest)) :=
  cz_aald (δ := fun j => 9 + j) (t0 := 4) (cN := RX1) X hM h hk (by simp only [cz_cel]; simp [Nat.add_assoc]) rfl cz_ch1 hd kk
theorem cz_aald2 (X : cz_X p s m args meth c cc nL own g b rt) (hM : cz_WS g b M s H locs) {i : Int32} {K : Option α} (h : cz_gd (cz_ib i 2) K = some res) (hk : cz_K b a 12) (hd : decode cc pc = .ok (.aaload, 1))
    (kk : K = some res → cz_K b (a + (48 + 2 * i.toNatClampNeg)) 3 → W p l e R s m args below meth c H locs 0 0 Q (F0 m (pc + 1) ls (.ref (a + (48 + 2 * i.toNatClampNeg)) :: rest))) : W p l e R s m args below meth c H locs 0 0 Q (F0 m pc ls (.int i :: .ref a :: rest)) :=
  cz_aald (δ := fun j => 48 + 2 * j) (t0 := 5) (cN := RX3) X hM h hk (by simp only [cz_cel]; simp [Nat.add_assoc]) rfl cz_ch2 hd kk
theorem cz_aald3 (X : cz_X p s m args meth c cc nL own g b rt) (hM : cz_WS g b M s H locs) {i : Int32} {K : Option α} (h : cz_gd (cz_ib i 4) K = some res) (hk : cz_K b a 13) (hd : decode cc pc = .ok (.aaload, 1))
    (kk : K = some res → cz_K b (M.2.2 i.toNatClampNeg) 2 → W p l e R s m args below meth c H locs 0 0 Q (F0 m (pc + 1) ls (.ref (M.2.2 i.toNatClampNeg) :: rest))) : W p l e R s m args below meth c H locs 0 0 Q (F0 m pc ls (.int i :: .ref a :: rest)) := by
  obtain ⟨hi, hK⟩ := cz_gd_t h
  obtain ⟨hx, hb, -, ho, ht, hKK, -⟩ := X
  exact va_aldq (f := fun j => some (M.2.2 j)) (C := RX2) hx hb hKK hM.1 (a - b) 6 (by rw [cz_wl_get hk]; rfl) rfl (cz_ib_in hi) hd (kk hK (hM.2.1 _ (cz_ib_lt hi)))
/-- the one cell of kind 13 -/
theorem cz_one13 : ∀ o, o < 461 → cz_kd o = 13 → o = 115 := by decide +kernel
theorem cz_wl_setP {y : Nat → ClassId} {b a : Nat} {M M' : cz_M} {e : va_E} (h : cz_K b a 13) (he : e = cz_cel y a 13 M') (ho : ∀ x kd, kd ≠ 13 → cz_cel y x kd M' = cz_cel y x kd M) : (cz_wl y b M).set (a - b) (a, e) = cz_wl y b M' := by
  subst he
  obtain ⟨h1, h2, h3⟩ := h
  have h4 := cz_one13 (a - b) (by omega) h3
  apply List.ext_getElem?
  intro i
  by_cases hi : i < 461
  · by_cases hia : i = a - b
    · subst hia
      rw [List.getElem?_set_self (by rw [cz_wl_len]; exact hi), cz_wl_at y b M' hi, show b + (a - b) = a by omega, h3]
    · rw [List.getElem?_set_ne (Ne.symm hia), cz_wl_at y b M hi, cz_wl_at y b M' hi, ho (b + i) (cz_kd i) (fun q => hia (by rw [h4]; exact cz_one13 i hi q))]
  · rw [List.getElem?_eq_none (by rw [List.length_set, cz_wl_len]; omega), List.getElem?_eq_none (by rw [cz_wl_len]; omega)]
theorem cz_aast {w : Nat} (X : cz_X p s m args meth c cc nL own g b rt) (hM : cz_WS g b M s H locs) {i : Int32} {K : cz_M → Option α} (h : cz_gd (cz_ib i 4) (cz_lt (cz_mP M i.toNatClampNeg w) K) = some res) (hk : cz_K b a 13) (hw : cz_K b w 2) (hd : decode cc pc = .ok (.aastore, 1))
    (kk : ∀ (M : cz_M) (H : Heap) (locs : List Loc), K M = some res → cz_WS g b M s H locs → W p l e R s m args below meth c H locs 0 0 Q (F0 m (pc + 1) ls rest)) : W p l e R s m args below meth c H locs 0 0 Q (F0 m pc ls (.ref w :: .int i :: .ref a :: rest)) := by
  obtain ⟨hi, hK⟩ := cz_gd_t h
  obtain ⟨hx, hb, -, ho, ht, hKK, -⟩ := X
  refine va_astq (r := (RX2, TX2, 9)) hx hb hKK hM.1 (cz_wl_D g.1 b M) hM.2.2 (a - b) 6 (w - b) 2 (n := 4) (f := fun j => some (M.2.2 j)) (by rw [cz_wl_get hk]; rfl) rfl (by rw [cz_wl_get hw, cz_cel_obj (by decide)]) rfl (cz_ib_in hi) hd (fun H1 locs1 q1 q2 q3 => ?_)
  refine kk _ H1 locs1 hK ⟨?_, ?_, q3⟩
  · rw [cz_wl_setP hk (M' := cz_mP M i.toNatClampNeg w) (by
      show _ = Sum.inl (g.1 6, 4, Sum.inr (Sum.inr (Sum.inr (Sum.inr _))))
      refine congrArg (fun z => Sum.inl (g.1 6, 4, Sum.inr (Sum.inr (Sum.inr (Sum.inr z))))) ?_
      funext j
      by_cases hj : j = i.toNatClampNeg <;> simp [cz_mP, va_up, hj]) (fun x kd hx => cz_cel_P hx)] at q1
    exact q1
  · intro j hj
    by_cases hji : j = i.toNatClampNeg
    · show cz_K b (if j = i.toNatClampNeg then w else M.2.2 j) 2
      rw [if_pos hji]; exact hw
    · show cz_K b (if j = i.toNatClampNeg then w else M.2.2 j) 2
      rw [if_neg hji]; exact hM.2.1 j hj
theorem cz_alen {n : Nat} {v : Int32} (X : cz_X p s m args meth c cc nL own g b rt) (hM : cz_WS g b M s H locs) (hk : cz_K b a (n + 100)) (hn : n < 4900) (hv : Int32.ofNat n = v) (hd : decode cc pc = .ok (.arraylength, 1))
    (kk : W p l e R s m args below meth c H locs 0 0 Q (F0 m (pc + 1) ls (.int v :: rest))) : W p l e R s m args below meth c H locs 0 0 Q (F0 m pc ls (.ref a :: rest)) := by
  obtain ⟨hx, hb, -, ho, ht, hKK, -⟩ := X
  exact va_alen hx hb hKK hM.1 (a - b) 0 (x := (n, .inl (M.1 a))) (by rw [cz_wl_get hk, cz_cel_int hn]) (ty := .int) rfl hv hd kk
theorem cz_copy {n0 n1 a0 idx : Nat} {sp dp n : Int32} (X : cz_X p s m args meth c cc nL own g b rt) (hM : cz_WS g b M s H locs) (hls : ls.size = nL) {K : cz_M → Option α} (h : cz_gd (cz_cb sp dp n n0 n1) (cz_lt (cz_mA M a (va_cpy (M.1 a0) (M.1 a) sp.toNatClampNeg dp.toNatClampNeg n.toNatClampNeg)) K) = some res) (hk0 : cz_K b a0 (n0 + 100)) (hk1 : cz_K b a (n1 + 100)) (hn0 : n0 < 4900) (hn1 : n1 < 4900)
    (hl : Cond.methodLink own idx arraycopyName ∈ lw_gd) (hfr : 1 ≤ R.frames) (hlo : (rest.map fun v => v.category).sum + (nativeFrameWords "java/lang/System" "arraycopy" 5 + 11) ≤ R.locals) (hd : decode cc pc = .ok (.invokestatic idx, 3))
    (kk : ∀ (M : cz_M) (H : Heap) (locs : List Loc), K M = some res → cz_WS g b M s H locs → W p l e R s m args below meth c H locs 0 0 Q (F0 m (pc + 3) ls rest)) : W p l e R s m args below meth c H locs 0 0 Q (F0 m pc ls (.int n :: .int dp :: .ref a :: .int sp :: .ref a0 :: rest)) := by
  obtain ⟨hi, hK⟩ := cz_gd_t h
  simp only [cz_cb, Bool.and_eq_true, decide_eq_true_eq] at hi
  obtain ⟨i1, i2, i3, i4, i5⟩ := hi
  obtain ⟨hx, hb, hml, ho, ht, hKK, -⟩ := X
  refine va_copyi hx hb (hml.trans hls.symm) ho (ht _ hl) (ht _ mn_acopy) (ht _ mt_acopy) (ht _ ini_J10) hKK hM.1 (cz_wl_D g.1 b M) hM.2.2 (a0 - b) (a - b) 0 0 (by rw [cz_wl_get hk0, cz_cel_int hn0]) (by rw [cz_wl_get hk1, cz_cel_int hn1]) rfl rfl rfl i1 i2 i3 i4 i5 (fun _ _ => rfl) hfr hlo hd (fun H1 locs1 q1 q2 q3 => ?_)
  refine kk _ H1 locs1 hK ⟨?_, hM.2.1, q3⟩
  rw [cz_wl_set hk1 (M' := cz_mA M a (va_cpy (M.1 a0) (M.1 a) sp.toNatClampNeg dp.toNatClampNeg n.toNatClampNeg)) (by
    rw [cz_cel_int hn1]
    refine congrArg (fun z => Sum.inl (g.1 0, n1, Sum.inl z)) ?_
    funext j
    simp [cz_mA]) (fun x kd hx => cz_cel_A hx)] at q1
  exact q1
theorem cz_max {idx : Nat} {x y : Int32} (X : cz_X p s m args meth c cc nL own g b rt) (hls : ls.size = nL) (hl : Cond.methodLink own idx Lib.Math.max.name ∈ lw_gd) (hfr : 1 ≤ R.frames) (hlo : (rest.map fun v => v.category).sum + 13 ≤ R.locals) (hd : decode cc pc = .ok (.invokestatic idx, 3))
    (kk : W p l e R s m args below meth c H locs 0 0 Q (F0 m (pc + 3) ls (.int (if x < y then y else x) :: rest))) : W p l e R s m args below meth c H locs 0 0 Q (F0 m pc ls (.int y :: .int x :: rest)) := by
  obtain ⟨hx, hb, hml, ho, ht, -⟩ := X
  exact va_mmax hx hb (hml.trans hls.symm) ho (ht _ hl) (ht _ mt_max) (ht _ ini_J9) (ht _ mc_max) hfr hlo (Nat.zero_le _) (Nat.zero_le _) hd kk
theorem cz_stL {idx : Nat} (X : cz_X p s m args meth c cc nL own g b rt) (hM : cz_WS g b M s H locs) (hl : Cond.fieldLink own idx RX4 "LEAST_VALUES" "[I" ∈ lw_gd) (hd : decode cc pc = .ok (.getstatic idx, 3))
    (kk : ∀ t : Nat, va_T .int t 3 (fun j => .int (if j = 0 then 1 else if j = 1 then 0 else 1)) (fun q => b ≤ q) s s.heap → W p l e R s m args below meth c H locs 0 0 Q (F0 m (pc + 3) ls (.ref t :: rest))) : W p l e R s m args below meth c H locs 0 0 Q (F0 m pc ls rest) := by
  obtain ⟨hx, hb, hml, ho, ht, hKK, ⟨⟨t, h1, h2⟩, -⟩, -⟩ := X
  exact va_gets hx hb h1 (cz_Sw hM.2.2) ho (ht _ hl) (fun _ h9 => h9) hd (kk t h2)
theorem cz_stM {idx : Nat} (X : cz_X p s m args meth c cc nL own g b rt) (hM : cz_WS g b M s H locs) (hl : Cond.fieldLink own idx RX4 "MOST_VALUES" "[I" ∈ lw_gd) (hd : decode cc pc = .ok (.getstatic idx, 3))
    (kk : ∀ t : Nat, va_T .int t 3 (fun j => .int (if j = 0 then 9 else if j = 1 then 8 else 5)) (fun q => b ≤ q) s s.heap → W p l e R s m args below meth c H locs 0 0 Q (F0 m (pc + 3) ls (.ref t :: rest))) : W p l e R s m args below meth c H locs 0 0 Q (F0 m pc ls rest) := by
  obtain ⟨hx, hb, hml, ho, ht, hKK, ⟨-, ⟨t, h1, h2⟩⟩, -⟩ := X
  exact va_gets hx hb h1 (cz_Sw hM.2.2) ho (ht _ hl) (fun _ h9 => h9) hd (kk t h2)
theorem cz_stld {t : Nat} {f : Nat → Int32} (X : cz_X p s m args meth c cc nL own g b rt) (hM : cz_WS g b M s H locs) (hT : va_T .int t 3 (fun j => .int (f j)) (fun q => b ≤ q) s s.heap) {i : Int32} {K : Option α} (h : cz_gd (cz_ib i 3) K = some res) (hd : decode cc pc = .ok (.iaload, 1))
    (kk : K = some res → W p l e R s m args below meth c H locs 0 0 Q (F0 m (pc + 1) ls (.int (f i.toNatClampNeg) :: rest))) : W p l e R s m args below meth c H locs 0 0 Q (F0 m pc ls (.int i :: .ref t :: rest)) := by
  obtain ⟨hi, hK⟩ := cz_gd_t h
  obtain ⟨hx, hb, -⟩ := X
  exact va_ti hx hb hT (cz_Sw hM.2.2) (cz_ib_in hi) (v := .int (f i.toNatClampNeg)) rfl hd (kk hK)
theorem cz_nmi {v : Int32} {K : Int32 → Option α} (h : cz_lt v K = some res) (kk : ∀ v : Int32, K v = some res → W p l e R s m args below meth c H locs 0 0 Q (F0 m pc ls (.int v :: rest))) : W p l e R s m args below meth c H locs 0 0 Q (F0 m pc ls (.int v :: rest)) := kk v h
theorem cz_nml {v : Int64} {K : Int64 → Option α} (h : cz_lt v K = some res) (kk : ∀ v : Int64, K v = some res → W p l e R s m args below meth c H locs 0 0 Q (F0 m pc ls (.long v :: rest))) : W p l e R s m args below meth c H locs 0 0 Q (F0 m pc ls (.long v :: rest)) := kk v h
theorem cz_nmr {v kc : Nat} {K : Nat → Option α} (h : cz_lt v K = some res) (hk : cz_K b v kc) (kk : ∀ v : Nat, K v = some res → cz_K b v kc → W p l e R s m args below meth c H locs 0 0 Q (F0 m pc ls (.ref v :: rest))) : W p l e R s m args below meth c H locs 0 0 Q (F0 m pc ls (.ref v :: rest)) := kk v h hk
/-! returns -/
theorem cz_reti {v r0 : Int32} {M0 : cz_M} {ty : FieldType} (X : cz_X p s m args meth c cc nL own g b (some ty)) (hM : cz_WS g b M s H locs) (h : some (v, M) = some (r0, M0)) (hn : narrow ty (.int v) = .int v) (hd : decode cc pc = .ok (.ireturn, 1)) : W p l e R s m args below meth c H locs 0 0 (MQ below (cz_Q g b (some (.int r0)) M0) args s 0 0 (cz_Ar b)) (F0 m pc ls [.int v]) := by
  cases h
  obtain ⟨hx, hb, hml, ho, ht, hKK, hst, hr, hlk⟩ := X
  exact W.zret hx hb hr hn (fun t ht hW => ⟨⟨rfl, va_K.moved hW.alike hKK, by rw [ht]; exact hM.1, hM.2.1, hst.go hW.alike (by rw [ht]; exact hM.2.2.2.1)⟩, hM.2.2.F ht⟩) hM.2.2.2.2 hd hlk
theorem cz_retp {v r0 : Int32} {ty : FieldType} (X : cz_X p s m args meth c cc nL own g b (some ty)) (hM : cz_WS g b M s H locs) (h : some v = some r0) (hn : narrow ty (.int v) = .int v) (hd : decode cc pc = .ok (.ireturn, 1)) : W p l e R s m args below meth c H locs 0 0 (MQ below (cz_Q g b (some (.int r0)) M) args s 0 0 (cz_Ar b)) (F0 m pc ls [.int v]) := by
  cases h
  exact cz_reti X hM rfl hn hd
theorem cz_retv {M0 : cz_M} (X : cz_X p s m args meth c cc nL own g b none) (hM : cz_WS g b M s H locs) (h : some M = some M0) (hd : decode cc pc = .ok (.return_, 1)) : W p l e R s m args below meth c H locs 0 0 (MQ below (cz_Q g b none M0) args s 0 0 (cz_Ar b)) (F0 m pc ls []) := by
  cases h
  obtain ⟨hx, hb, hml, ho, ht, hKK, hst, hr, hlk⟩ := X
  exact W.vret hx hb hr (fun t ht hW => ⟨⟨rfl, va_K.moved hW.alike hKK, by rw [ht]; exact hM.1, hM.2.1, hst.go hW.alike (by rw [ht]; exact hM.2.2.2.1)⟩, hM.2.2.F ht⟩) hM.2.2.2.2 hd hlk
/-- a reference, or null, is the answer -/
theorem cz_retq {v r0 : Option Nat} {M0 : cz_M} {cN : String} (X : cz_X p s m args meth c cc nL own g b (some (.object cN))) (hM : cz_WS g b M s H locs) (h : some (v, M) = some (r0, M0)) (hd : decode cc pc = .ok (.areturn, 1)) : W p l e R s m args below meth c H locs 0 0 (MQ below (cz_Q g b (some (va_rf r0)) M0) args s 0 0 (cz_Ar b)) (F0 m pc ls [va_rf v]) := by
  cases h
  obtain ⟨hx, hb, hml, ho, ht, hKK, hst, hr, hlk⟩ := X
  exact W.aret hx hb hr (Or.inl ⟨_, rfl⟩) (va_rf_or _) (fun t ht hW => ⟨⟨rfl, va_K.moved hW.alike hKK, by rw [ht]; exact hM.1, hM.2.1, hst.go hW.alike (by rw [ht]; exact hM.2.2.2.1)⟩, hM.2.2.F ht⟩) hM.2.2.2.2 hd hlk
/-! calls -/
theorem cz_blind {av : List Value} : FrameBlind (va_Pc av (fun U => cz_WW g b M U)) := fun a U gg mk q => ⟨q.1, va_K.moved (u := U) (U := U.calling gg mk a) (Vm.Alike.refl U.vm) q.2.1, q.2.2.1, q.2.2.2.1, cz_ST.go q.2.2.2.2 (Vm.Alike.refl U.vm) (fun _ _ _ => rfl)⟩
theorem cz_pre (X : cz_X p s m args meth c cc nL own g b rt) (hM : cz_WS g b M s H locs) (U : State) (hU : U.heap = H) (hW : s.WarmedH U.vm) : cz_WW g b M U := by
  obtain ⟨hx, hb, hml, ho, ht, hKK, hst, hr, hlk⟩ := X
  exact ⟨va_K.moved hW.alike hKK, by rw [hU]; exact hM.1, hM.2.1, hst.go hW.alike (by rw [hU]; exact hM.2.2.2.1)⟩
theorem cz_back {v : Option Value} {M1 : cz_M} {st0 : List Value} {a0 : Array Value} (hr : va_Run p l e R s m args below meth c H locs 0 0 0 0 (F0 m pc ls st0) rest (cz_Q g b v M1 a0) (cz_Ar b)) (hM : cz_WS g b M s H locs)
    (kk : ∀ (H1 : Heap) (locs1 : List Loc), cz_WS g b M1 s H1 locs1 → W p l e R s m args below meth c H1 locs1 0 0 Q (F0 m (pc + 3) ls (v.toList ++ rest))) : W p l e R s m args below meth c H locs 0 0 Q (F0 m pc ls st0) := by
  intro T hT X
  obtain ⟨v', st₀, t, T', L, h0, X', hL, e1, e2, ⟨⟨hv, hK1, hP1, hp1, -⟩, hz, hk⟩, st⟩ := hr T hT X
  cases hv
  rw [h0] at hz hk
  obtain ⟨hS1, hS2, hS3⟩ := hM.2.2
  obtain ⟨t2, a1, b1⟩ := kk T'.heap (locs ++ L) ⟨by rw [e1]; exact hP1, hp1, Nat.le_trans hS1 (by rw [e1]; exact hz), fun q h1 h2 => by rw [e1, hk q (Nat.lt_of_lt_of_le h1 hS1) h2]; exact hS2 q h1 h2, fun q hq => by
      rcases List.mem_append.mp hq with h | h
      · exact hS3 q h
      · exact hL q h⟩ T' rfl X'
  exact ⟨t2, st t2 a1, b1⟩
def cz_MV (y : MethodName) (cc : ByteArray) (maxL : Nat) (ret : Option FieldType) (C : String) (n : Nat) : Prop := Cond.instanceMethod y ∈ lw_gd ∧ Cond.selects C y y ∈ lw_gd ∧ Cond.code y cc maxL ret ∈ lw_gd ∧ Cond.initialized C ∈ lw_gd ∧ (y.cls = C ∧ y.cls ≠ "java/lang/invoke/MethodHandle" ∧ y.cls ≠ "java/lang/invoke/VarHandle" ∧ (parseMethodDescriptor y.desc).map (fun d => d.parameters.length) = some n)
def cz_MS (y : MethodName) (cc : ByteArray) (maxL : Nat) (ret : Option FieldType) (n : Nat) : Prop := Cond.static y ∈ lw_gd ∧ Cond.code y cc maxL ret ∈ lw_gd ∧ Cond.initialized y.cls ∈ lw_gd ∧ (y.cls ≠ "java/lang/invoke/MethodHandle" ∧ y.cls ≠ "java/lang/invoke/VarHandle" ∧ (parseMethodDescriptor y.desc).map (fun d => d.parameters.length) = some n)
theorem cz_inV {y : MethodName} {cc' : ByteArray} {maxL n idx : Nat} {ret : Option FieldType} {C : String} (hy : cz_MV y cc' maxL ret C n) (hl : Cond.methodLink own idx y ∈ lw_gd) : GoodIn lw_gd (wsV own idx C y (Cond.code y cc' maxL ret :: lw_gd)) := by
  obtain ⟨h1, h2, h3, h4, -⟩ := hy
  intro w hw
  have hw : w ∈ lw_gd := by
    simp only [wsV, List.cons_append, List.nil_append, List.mem_cons] at hw
    rcases hw with rfl | rfl | rfl | rfl | rfl | hw
    · exact hl
    · exact h1
    · exact h2
    · exact h4
    · exact h3
    · exact hw
  exact ⟨hw, good_of_word (gd_good hw)⟩
theorem cz_inS {y : MethodName} {cc' : ByteArray} {maxL n idx : Nat} {ret : Option FieldType} (hy : cz_MS y cc' maxL ret n) (hl : Cond.methodLink own idx y ∈ lw_gd) : GoodIn lw_gd (va_wsS own idx y (Cond.code y cc' maxL ret :: lw_gd)) := by
  obtain ⟨h1, h2, h3, -⟩ := hy
  intro w hw
  have hw : w ∈ lw_gd := by
    simp only [va_wsS, List.cons_append, List.nil_append, List.mem_cons] at hw
    rcases hw with rfl | rfl | rfl | rfl | hw
    · exact hl
    · exact h1
    · exact h3
    · exact h2
    · exact hw
  exact ⟨hw, good_of_word (gd_good hw)⟩
/-- a virtual call: whatever the answer -/
theorem cz_runV {y : MethodName} {cc' : ByteArray} {maxL n idx F N ci : Nat} {ret : Option FieldType} {C : String} {T : u_T} {N0 : Nat} {v : Option Value} {M1 : cz_M} {As st0 : List Value} (X : cz_X p s m args meth c cc nL own g b rt) (hM : cz_WS g b M s H locs) (hls : ls.size = nL) (hC : cz_C l y cc' maxL ret F N g b (.ref a :: As) M v M1) (hy : cz_MV y cc' maxL ret C n) (hci : vwCl[ci]? = some (C, T, N0)) (hc6 : ci < 6) (hk : cz_K b a ci) (hl : Cond.methodLink own idx y ∈ lw_gd)
    (hR : F + 1 ≤ R.frames ∧ 8 + (maxL + 11) + N ≤ R.locals) (hn : As.length = n) (hst : st0 = As.reverse ++ .ref a :: rest) (hro : (rest.map fun v => v.category).sum ≤ 8) (hd : decode cc pc = .ok (.invokevirtual idx, 3))
    (kk : ∀ (H1 : Heap) (locs1 : List Loc), cz_WS g b M1 s H1 locs1 → W p l e R s m args below meth c H1 locs1 0 0 Q (F0 m (pc + 3) ls (v.toList ++ rest))) : W p l e R s m args below meth c H locs 0 0 Q (F0 m pc ls st0) := by
  have X0 := X
  obtain ⟨hx, hb, hml, ho, ht, hKK, -⟩ := X
  exact cz_back (va_runV (As := As) (rest := rest) ⟨hx, hb, hml, ho, ht⟩ hC (cwV n ht (cz_inV hy hl) rfl rfl rfl hy.2.2.2.2 hR) ⟨cz_blind, va_recv hKK hM.1 hci (q0 := a - b) (by rw [cz_wl_get hk, cz_cel_obj hc6]), fun U hU hW => ⟨rfl, cz_pre X0 hM U hU hW⟩⟩ rfl hn hls hst (lv_room hro) hd ⟨Nat.zero_le _, Nat.zero_le _⟩) hM kk
theorem cz_runS {y : MethodName} {cc' : ByteArray} {maxL n idx F N : Nat} {ret : Option FieldType} {v : Option Value} {M1 : cz_M} {As st0 : List Value} (X : cz_X p s m args meth c cc nL own g b rt) (hM : cz_WS g b M s H locs) (hls : ls.size = nL) (hC : cz_C l y cc' maxL ret F N g b As M v M1) (hy : cz_MS y cc' maxL ret n) (hl : Cond.methodLink own idx y ∈ lw_gd)
    (hR : F + 1 ≤ R.frames ∧ 8 + (maxL + 11) + N ≤ R.locals) (hn : As.length = n) (hst : st0 = As.reverse ++ rest) (hro : (rest.map fun v => v.category).sum ≤ 8) (hd : decode cc pc = .ok (.invokestatic idx, 3))
    (kk : ∀ (H1 : Heap) (locs1 : List Loc), cz_WS g b M1 s H1 locs1 → W p l e R s m args below meth c H1 locs1 0 0 Q (F0 m (pc + 3) ls (v.toList ++ rest))) : W p l e R s m args below meth c H locs 0 0 Q (F0 m pc ls st0) := by
  have X0 := X
  obtain ⟨hx, hb, hml, ho, ht, hKK, -⟩ := X
  exact cz_back (va_runS (As := As) (rest := rest) ⟨hx, hb, hml, ho, ht⟩ hC (va_cwS n ht (cz_inS hy hl) rfl rfl rfl hy.2.2.2 hR) ⟨cz_blind, fun U hU hW => ⟨rfl, cz_pre X0 hM U hU hW⟩⟩ rfl hn hls hst (lv_room hro) hd ⟨Nat.zero_le _, Nat.zero_le _⟩) hM kk
theorem cz_astq {r : Option Nat} {k : Fin 4} {i : Nat} {lv lv' : List (Nat × Value)} (hexec : p.tables.exec = Jvm.exec) (hb : c.code = cc) (hdg : decode cc pc = .ok (.astore_n k, 1)) (hi : (k : Nat) = i) (h : lv_has ls nL lv) (hn : i < nL) (hl : (i, va_rf r) :: lv.filter (fun q => !(q.1 == i) && !(q.1 + 1 == i && q.2.category == 2)) = lv')
    (kk : ∀ ls' : Array Slot, lv_has ls' nL lv' → W p l e R s m args below meth c H locs 0 0 Q (F0 m (pc + 1) ls' rest)) : W p l e R s m args below meth c H locs 0 0 Q (F0 m pc ls (va_rf r :: rest)) := by
  cases r with
  | none => exact lv_astore_nN hexec hb hdg hi h hn hl kk
  | some x => exact lv_astore_n hexec hb hdg hi h hn hl kk
end CZ
theorem cz_nmL {α : Type} {res : α} {P : Prop} {v : Int32} {K : Int32 → Option α} (h : cz_lt v K = some res) (kk : ∀ y : Int32, y = v → K y = some res → P) : P := kk v rfl h
def cz_b2 {α β γ : Type} (o : Option (β × γ)) (k : β → γ → Option α) : Option α := o.bind fun z => k z.1 z.2
theorem cz_b2_t {α β γ : Type} {o : Option (β × γ)} {k : β → γ → Option α} {r : α} (h : cz_b2 o k = some r) : ∃ x y, o = some (x, y) ∧ k x y = some r := by
  cases o with
  | none => cases h
  | some v => exact ⟨v.1, v.2, rfl, h⟩
abbrev cz_on {α : Type} (o : Option Nat) (x : Option α) (f : Nat → Option α) : Option α := match o with
  | none => x
  | some q => f q
def cz_kb (b a k : Nat) : Bool := decide (b ≤ a) && (decide (a < b + 461) && decide (cz_kd (a - b) = k))
theorem cz_kb_t {b a x k : Nat} (hb : b = a) (h : cz_kb a x k = true) : cz_K b x k := by
  subst hb
  simpa [cz_kb, cz_K] using h
theorem cz_one4 : ∀ o, o < 461 → cz_kd o = 4 → o = 0 := by decide +kernel
theorem cz_base {b a : Nat} (h : cz_K b a 4) : b = a := by
  obtain ⟨h1, h2, h3⟩ := h
  have := cz_one4 (a - b) (by omega) h3
  omega
def cz_us (x y : Int32) : Int32 := (x.toUInt32 >>> (y.toUInt32 &&& Int32.toUInt32 31)).toInt32
def cz_usl (x : Int64) (y : Int32) : Int64 := (x.toUInt64 >>> (y.toInt64.toUInt64 &&& Int64.toUInt64 63)).toInt64
def cz_sl (x : Int64) (y : Int32) : Int64 := x <<< (y.toInt64 &&& 63)
def cz_chr (x : Int32) : Int32 := (x.toUInt32 % 65536).toInt32
def cz_tL (j : Nat) : Int32 := if j = 0 then 1 else if j = 1 then 0 else 1
def cz_tM (j : Nat) : Int32 := if j = 0 then 9 else if j = 1 then 8 else 5
def cz_it1 {A R : Type} (F : (A → Option R) → A → Option R) : Nat → A → Option R
  | 0 => fun _ => none
  | n + 1 => F (cz_it1 F n)
def cz_it2 {A B R : Type} (F : (A → B → Option R) → A → B → Option R) : Nat → A → B → Option R
  | 0 => fun _ _ => none
  | n + 1 => F (cz_it2 F n)
def cz_it3 {A B C R : Type} (F : (A → B → C → Option R) → A → B → C → Option R) : Nat → A → B → C → Option R
  | 0 => fun _ _ _ => none
  | n + 1 => F (cz_it3 F n)
def cz_it4 {A B C D R : Type} (F : (A → B → C → D → Option R) → A → B → C → D → Option R) : Nat → A → B → C → D → Option R
  | 0 => fun _ _ _ _ => none
  | n + 1 => F (cz_it4 F n)
