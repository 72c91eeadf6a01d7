/-! THE CLASS ALONE: what each call answers, of the state that the object stands for, and what it stands for behind it -/
abbrev cz_J (b : Nat) (M : cz_M) (A : cz_S) (hist : Nat → cz_S) (pc : Nat) (slot : Nat → cz_S) (used pad : Nat → Nat) (len : Nat) : Prop := cz_wq A hist pc slot used pad len ∧ cz_cv b M A hist pc slot used pad len
section KA
variable {b : Nat} {M : cz_M} {s : Nat → Int32} {n W : Nat} {R : Nat → List Nat} {hist : Nat → cz_S} {pc : Nat} {slot : Nat → cz_S} {used pad : Nat → Nat} {len : Nat}
theorem k_ok (J : cz_J b M (s, n, W, R) hist pc slot used pad len) : cz_ok s n W R := J.1.1.1
theorem k_W (J : cz_J b M (s, n, W, R) hist pc slot used pad len) : W ≤ 9999 := J.1.1.2
theorem k_rp (J : cz_J b M (s, n, W, R) hist pc slot used pad len) : cz_rp M (b + 1) s n R := J.2.1
theorem k_7 (J : cz_J b M (s, n, W, R) hist pc slot used pad len) : M.1 (b + 1) 7 = nI n := (k_rp J).2.1.2.trans (k_ok J).1.1.2.1
/-- a change: the class records, and then does what it does -/
theorem k_chg {A A' : cz_S} (J : cz_J b M A hist pc slot used pad len) (hok : cz_sok A') :
    ∃ M1, f_X4_remember M b = some M1 ∧ cz_srp M1 (b + 1) A ∧ cz_J b M1 A (cz_hp hist pc A) (cz_hc pc) slot used pad len ∧ ∀ M2, cz_fr (fun x => b + 1 ≤ x ∧ x < b + 1 + 57) M1 M2 → cz_srp M2 (b + 1) A' → cz_J b M2 A' (cz_hp hist pc A) (cz_hc pc) slot used pad len := by
  obtain ⟨wf, cv⟩ := J
  obtain ⟨M1, f1, cv1, e1⟩ := c_remember M b wf cv
  have wf1 := cz_wq_rec wf
  exact ⟨M1, f1, cv1.1, ⟨wf1, cv1⟩, fun M2 e2 hn2 => ⟨cz_wq_now wf1 hok, cz_cv_now wf1 e2 hn2 cv1⟩⟩
theorem k_trial {A : cz_S} {M' : cz_M} (J : cz_J b M A hist pc slot used pad len) (h : cz_fr (fun x => b + 58 ≤ x ∧ x < b + 58 + 57) M M') : cz_J b M' A hist pc slot used pad len := ⟨J.1, cz_cv_w h (fun x hx => Or.inr ⟨hx.1, by omega⟩) J.1 J.2⟩
theorem k_pass (J : cz_J b M (s, n, W, R) hist pc slot used pad len) {k : Nat} (h1 : 1 ≤ k) (h2 : k ≤ 52) (h3 : W + k ≤ 9999) :
    ∃ M2, f_X4_pass M b (nI k) = some (nI (cz_ck s n W R k), M2) ∧ cz_J b M2 ((cz_sk s n W R k).1, n, W + k, (cz_sk s n W R k).2) (cz_hp hist pc (s, n, W, R)) (cz_hc pc) slot used pad len := by
  have ok := k_ok J
  have h8 : M.1 (b + 1) 8 = nI W := (k_rp J).2.1.1.trans ok.1.1.2.2.2
  have hok' : cz_sok ((cz_sk s n W R k).1, n, W + k, (cz_sk s n W R k).2) := ⟨cz_ok_sk ok k (by omega), h3⟩
  obtain ⟨M1, f1, g1, -, hch⟩ := k_chg J hok'
  obtain ⟨M2, f2, g2, e2⟩ := c_passWeeks M1 (b + 1) ok g1 (K := k) (by omega) (by omega)
  refine ⟨M2, ?_, hch M2 e2 g2⟩
  rw [f_X4_pass, if_neg (nI_nlt h1 (by omega)), if_pos (nI_le h2 (by decide)), h8, nI_add, if_pos (nI_le h3 (by decide)), f1, Option.bind_some, f2, cz_b2_s]
theorem cz_ok_ls {k v : Nat} (hk : k < 3) (hv : v ≤ 9 ∧ (k = 1 → v ≤ 8) ∧ (k = 2 → v ≤ 5)) (ok : cz_ok s n W R) : cz_ok (upd s k (nI v)) n W R := by
  refine cz_ok_gs (fun j hj => pk_un (by omega)) ?_ (fun i hi => ?_) (fun c hc => ?_) ok
  · have h0 := ok.1.2.1
    refine ⟨?_, ?_, ?_⟩
    · by_cases h : k = 0
      · subst h; exact ⟨v, hv.1, pk_us⟩
      · rw [pk_un (Ne.symm h)]; exact h0.1
    · by_cases h : k = 1
      · subst h; exact ⟨v, hv.2.1 rfl, pk_us⟩
      · rw [pk_un (Ne.symm h)]; exact h0.2.1
    · by_cases h : k = 2
      · subst h; exact ⟨v, hv.2.2 rfl, pk_us⟩
      · rw [pk_un (Ne.symm h)]; exact h0.2.2
  · rw [pk_un (by omega)]; exact ok.1.2.2.1 i hi
  · rw [pk_un (by omega)]; exact ok.1.2.2.2.1 c hc
theorem k_lay (J : cz_J b M (s, n, W, R) hist pc slot used pad len) {k v : Nat} (hk : k < 3) (hv : v ≤ 9 ∧ (k = 1 → v ≤ 8) ∧ (k = 2 → v ≤ 5)) : ∃ M1, ((f_X4_remember M b).bind fun M9 => cz_gd (cz_ib (nI k) 3) (cz_lt (M9.1 ((b + 1) + 1) (Int32.toNatClampNeg (nI k))) fun v12 => cz_gd (cz_ib (nI k) 3) (cz_lt (cz_mI M9 ((b + 1) + 1) (Int32.toNatClampNeg (nI k)) (nI v)) fun M15 => some (v12, M15)))) = some (s k, M1) ∧ cz_J b M1 (upd s k (nI v), n, W, R) (cz_hp hist pc (s, n, W, R)) (cz_hc pc) slot used pad len := by
  have ok := k_ok J
  have hok' : cz_sok (upd s k (nI v), n, W, R) := ⟨cz_ok_ls hk hv ok, k_W J⟩
  obtain ⟨M1, f1, g1, -, hch⟩ := k_chg J hok'
  have g1 : cz_rp M1 (b + 1) s n R := g1
  have g2 : cz_srp (cz_mI M1 (b + 1 + 1) k (nI v)) (b + 1) (upd s k (nI v), n, W, R) := by
    show cz_rp _ (b + 1) (upd s k (nI v)) n R
    refine cz_rp_g (fun x hx => cz_mI_o (by omega)) rfl (fun j hj => pk_un (by omega)) (fun i hi => ?_) (fun i hi => ?_) (fun c hc f hf => ?_) (cz_ok_lw ok) g1
    · rw [cz_mI_s]
      by_cases h : i = k
      · subst h; rw [pk_us, pk_us]
      · rw [pk_un h, pk_un h]; exact g1.1 i hi
    · rw [cz_mI_o (by omega), pk_un (by omega)]; exact g1.2.2.1 i hi
    · rw [cz_mI_o (by omega), pk_un (by omega)]; exact g1.2.2.2.1 c hc f hf
  refine ⟨cz_mI M1 (b + 1 + 1) k (nI v), ?_, hch (cz_mI M1 (b + 1 + 1) k (nI v)) (cz_fr.mI ⟨by omega, by omega⟩) g2⟩
  rw [f1, Option.bind_some, cz_gdn hk (by decide), cz_lt_e, cz_gdn hk (by decide), cz_lt_e, cz_cl (by omega), g1.1 k hk]
/-- set: the least and the most values -/
def cz_lo (k : Nat) : Nat := if k = 0 then 1 else if k = 1 then 0 else 1
def cz_hi (k : Nat) : Nat := if k = 0 then 9 else if k = 1 then 8 else 5
theorem k_set (J : cz_J b M (s, n, W, R) hist pc slot used pad len) {k v : Nat} (hk : k < 4) (hv : v < 10) :
    (k < 3 ∧ cz_lo k ≤ v ∧ v ≤ cz_hi k ∧ ∃ M1, f_X4_set M b (nI k) (nI v) = some (s k, M1) ∧ cz_J b M1 (upd s k (nI v), n, W, R) (cz_hp hist pc (s, n, W, R)) (cz_hc pc) slot used pad len) ∨ (¬ (k < 3 ∧ cz_lo k ≤ v ∧ v ≤ cz_hi k) ∧ f_X4_set M b (nI k) (nI v) = some ((-2 : Int32), M)) := by
  by_cases hk3 : k < 3
  · have hL : cz_tL k = nI (cz_lo k) := by
      rcases (show k = 0 ∨ k = 1 ∨ k = 2 by omega) with rfl | rfl | rfl <;> rfl
    have hM : cz_tM k = nI (cz_hi k) := by
      rcases (show k = 0 ∨ k = 1 ∨ k = 2 by omega) with rfl | rfl | rfl <;> rfl
    have hh : cz_lo k ≤ 1 ∧ cz_hi k ≤ 9 ∧ (k = 1 → cz_hi k ≤ 8) ∧ (k = 2 → cz_hi k ≤ 5) := by
      rcases (show k = 0 ∨ k = 1 ∨ k = 2 by omega) with rfl | rfl | rfl <;> decide
    have e : f_X4_set M b (nI k) (nI v) = if nI v < nI (cz_lo k) then some ((-2 : Int32), M) else if nI v ≤ nI (cz_hi k) then ((f_X4_remember M b).bind fun M9 => cz_gd (cz_ib (nI k) 3) (cz_lt (M9.1 ((b + 1) + 1) (Int32.toNatClampNeg (nI k))) fun v12 => cz_gd (cz_ib (nI k) 3) (cz_lt (cz_mI M9 ((b + 1) + 1) (Int32.toNatClampNeg (nI k)) (nI v)) fun M15 => some (v12, M15)))) else some ((-2 : Int32), M) := by
      rw [f_X4_set, if_neg (nI_nlt (Nat.zero_le _) (by omega)), if_pos (nI_lt hk3 (by decide)), cz_gdn hk3 (by decide), cz_cl (show k < 2 ^ 31 by omega), hL, cz_gdn hk3 (by decide), hM]
    rw [e]
    by_cases h1 : v < cz_lo k
    · exact Or.inr ⟨fun z => by omega, by rw [if_pos (nI_lt h1 (by omega))]⟩
    · rw [if_neg (nI_nlt (by omega) (by omega))]
      by_cases h2 : v ≤ cz_hi k
      · rw [if_pos (nI_le h2 (by omega))]
        exact Or.inl ⟨hk3, by omega, h2, k_lay J hk3 ⟨by omega, fun h => by have := hh.2.2.1 h; omega, fun h => by have := hh.2.2.2 h; omega⟩⟩
      · exact Or.inr ⟨fun z => by omega, by rw [if_neg (nI_ge (by omega) (by omega))]⟩
  · refine Or.inr ⟨fun z => hk3 z.1, ?_⟩
    rw [f_X4_set, if_neg (nI_nlt (Nat.zero_le _) (by omega)), if_neg (nI_nlt (by omega) (by omega))]
/-- trade -/
theorem k_trade (J : cz_J b M (s, n, W, R) hist pc slot used pad len) {i j : Nat} (hi : i < 8) (hj : j < 8) :
    (¬ s (5 + i) = s (5 + j) ∧ ∃ M1, f_X4_trade M b (nI i) (nI j) = some (s (5 + j), M1) ∧ cz_J b M1 (cz_tr s i j, n, W, R) (cz_hp hist pc (s, n, W, R)) (cz_hc pc) slot used pad len) ∨ (s (5 + i) = s (5 + j) ∧ f_X4_trade M b (nI i) (nI j) = some ((-5 : Int32), M)) := by
  have ok := k_ok J
  have hr := (k_rp J).2.2.1
  have hri : M.1 (b + 1 + 3) i = s (5 + i) := hr i hi
  have hrj : M.1 (b + 1 + 3) j = s (5 + j) := hr j hj
  rw [f_X4_trade, if_neg (nI_nlt (Nat.zero_le _) (by omega)), if_neg (nI_ge hi (by decide)), if_neg (nI_nlt (Nat.zero_le _) (by omega)), if_pos (nI_lt hj (by decide)), cz_gdn hi (by decide), cz_gdn hj (by decide), cz_cl (by omega), cz_cl (by omega), hri, hrj]
  by_cases heq : s (5 + i) = s (5 + j)
  · rw [if_pos heq]
    exact Or.inr ⟨heq, rfl⟩
  · rw [if_neg heq]
    have hij : i ≠ j := fun z => heq (by rw [z])
    have hok' : cz_sok (cz_tr s i j, n, W, R) := ⟨cz_ok_tr hi hj ok, k_W J⟩
    obtain ⟨M1, f1, g1, -, hch⟩ := k_chg J hok'
    obtain ⟨M2, f2, g2, e2⟩ := c_trade hi hj hij ok g1
    refine Or.inl ⟨heq, M2, ?_, hch M2 e2 g2⟩
    have hv : M2.1 (b + 1 + 3) i = s (5 + j) := by
      have h5 := g2.2.2.1 i hi
      rw [h5, cz_tr_r, if_neg hij, if_pos rfl]
    rw [f1, Option.bind_some, f2, Option.bind_some, cz_gdn hi (by decide), hv]
theorem k_trade8 {i : Nat} (hi : i < 8) : f_X4_trade M b (nI i) (nI 8) = some ((-1 : Int32), M) := by
  rw [f_X4_trade, if_neg (nI_nlt (Nat.zero_le _) (by omega)), if_neg (nI_ge hi (by decide)), if_neg (nI_nlt (Nat.zero_le _) (by decide)), if_neg (nI_nlt (Nat.le_refl _) (by decide))]
/-- wipe -/
theorem k_wipe {A : cz_S} (J : cz_J b M A hist pc slot used pad len) : f_X4_wipe M b = some (nI len, cz_mI M b 7 (nI 0)) ∧ cz_J b (cz_mI M b 7 (nI 0)) A hist pc slot used pad 0 :=
  ⟨by rw [f_X4_wipe, J.2.2.2.2.2.2.1]; rfl, ⟨J.1.1, J.1.2.1, J.1.2.2.1, by omega, fun k hk => by omega⟩, cz_cv_0 J.1 J.2⟩
end KA
