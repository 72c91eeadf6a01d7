/-! the class alone: strike, burn, put, read -/
section KC
variable {b : Nat} {M : cz_M} {s : Nat → Int32} {n W : Nat} {R : Nat → List Nat} {hist : Nat → cz_S} {pc : Nat} {slot : Nat → cz_S} {used pad : Nat → Nat} {len : Nat}
theorem cz_bs_32 {T : Nat} (hT : T < 2 ^ 26) : cz_bs T 26 ≤ 32 := by
  rw [cz_bs_26 hT]
  have h1 := cz_pc_le (T % 256)
  have h2 := cz_pc_le (T / 256 % 256)
  have h3 := cz_pc_le (T / 65536 % 256)
  have h4 := cz_pc_le (T / 16777216)
  omega
theorem k_strike (J : cz_J b M (s, n, W, R) hist pc slot used pad len) {c w : Nat} (hc : c < 4) (hw : w < 26) :
    ∃ S T M1, S < 2 ^ 26 ∧ T < 2 ^ 26 ∧ f_X4_strike M b (nI c) (nI w) = some (nI (cz_bs T 26), M1) ∧ cz_J b M1 (upd s (13 + 4 * c) (nI T), n, W, R) (cz_hp hist pc (s, n, W, R)) (cz_hc pc) slot used pad len := by
  have ok := k_ok J
  obtain ⟨S, hS, hSe⟩ := ok.1.2.2.2.1 c hc
  have hS' : S ^^^ 2 ^ w < 2 ^ 26 := Nat.xor_lt_two_pow hS (Nat.pow_lt_pow_right (by decide) hw)
  have hval : nI S ^^^ (nI 1 <<< (nI w &&& nI 31)) = nI (S ^^^ 2 ^ w) := by rw [cz_shl1 w hw, cz_xorN]
  generalize hT : S ^^^ 2 ^ w = T at hS' hval
  have hok' : cz_sok (upd s (13 + 4 * c) (nI T), n, W, R) := by
    show cz_ok (upd s (13 + 4 * c) (nI T)) n W R ∧ W ≤ 9999
    refine ⟨cz_ok_gs (fun j hj => pk_un (by omega)) ?_ (fun k hk => ?_) (fun d hd => ?_) ok, k_W J⟩
    · rw [pk_un (by omega), pk_un (by omega), pk_un (by omega)]; exact ok.1.2.1
    · rw [pk_un (by omega)]; exact ok.1.2.2.1 k hk
    · by_cases h : d = c
      · subst h; exact ⟨T, hS', pk_us⟩
      · rw [pk_un (by omega)]; exact ok.1.2.2.2.1 d hd
  obtain ⟨M1, f1, g1, -, hch⟩ := k_chg J hok'
  have g1 : cz_rp M1 (b + 1) s n R := g1
  have g10 : M1.1 (b + 1 + 2 + (7 + c)) 0 = nI S := (g1.2.2.2.1 c hc 0 (by decide)).trans hSe
  have g2 : cz_srp (cz_mI M1 (b + 1 + 2 + (7 + c)) 0 (nI T)) (b + 1) (upd s (13 + 4 * c) (nI T), n, W, R) := by
    show cz_rp _ (b + 1) (upd s (13 + 4 * c) (nI T)) n R
    refine cz_rp_g (M := M1) (fun z hz => cz_mI_o (by omega)) rfl (fun k hk => pk_un (by omega)) (fun k hk => ?_) (fun k hk => ?_) (fun d hd f hf => ?_) (cz_ok_lw ok) g1
    · rw [cz_mI_o (by omega), pk_un (by omega)]; exact g1.1 k hk
    · rw [cz_mI_o (by omega), pk_un (by omega)]; exact g1.2.2.1 k hk
    · by_cases h : d = c
      · subst h
        rw [cz_mI_s]
        by_cases hf0 : f = 0
        · subst hf0; rw [pk_us]; exact pk_us.symm
        · rw [pk_un hf0, pk_un (by omega)]; exact g1.2.2.2.1 d hd f hf
      · rw [cz_mI_o (by omega), pk_un (by omega)]; exact g1.2.2.2.1 d hd f hf
  refine ⟨S, T, cz_mI M1 (b + 1 + 2 + (7 + c)) 0 (nI T), hS, hS', ?_, hch (cz_mI M1 (b + 1 + 2 + (7 + c)) 0 (nI T)) (cz_fr.mI ⟨by omega, by omega⟩) g2⟩
  rw [f_X4_strike, if_neg (nI_nlt (Nat.zero_le _) (by omega)), if_neg (nI_ge hc (by decide)), if_neg (nI_nlt (Nat.zero_le _) (by omega)), if_pos (nI_lt hw (by decide)), f1, Option.bind_some, cz_gdn hc (by decide), cz_lt_e, cz_cl (by omega), g10, hval, cz_lt_e, cz_mI_s, pk_us, c_bits26 hS', Option.bind_some]
theorem k_strike4 (y : Int32) : f_X4_strike M b (nI 4) y = some ((-1 : Int32), M) := by
  rw [f_X4_strike, if_neg (nI_nlt (Nat.zero_le _) (by decide)), if_pos (nI_le (Nat.le_refl _) (by decide))]
/-- burn -/
theorem k_burn (J : cz_J b M (s, n, W, R) hist pc slot used pad len) {r p : Nat} (hr : r < 2) (hp : p < (R r).length) :
    ∃ v M1, v ≤ W ∧ f_X4_burn M b (nI (R r)[p]) = some (nI v, M1) ∧ cz_J b M1 (cz_bn s (R r)[p] r p (R r).length, n, W, cz_bR R r p) (cz_hp hist pc (s, n, W, R)) (cz_hc pc) slot used pad len := by
  have ok := k_ok J
  have hn : n ≤ 40 := ok.1.1.1
  have ro := ok.1.2.2.2.2.1 r hr
  have hl := ro.2.1
  have h5 := ro.2.2.2.2 (R r)[p] (List.getElem_mem hp)
  have hi := h5.1
  have hi40 : (R r)[p] < 40 := by omega
  have okb : cz_sok (cz_bn s (R r)[p] r p (R r).length, n, W, cz_bR R r p) := ⟨cz_ok_bn ok hr hp, k_W J⟩
  obtain ⟨M1, f1, g1, -, hch⟩ := k_chg J okb
  obtain ⟨M2, f2, g2, e2⟩ := c_burnWaiting M1 (b + 1) ok g1 hr hp
  obtain ⟨v, hv, hve⟩ := (ok.1.2.2.2.2.2.1 _ hi).2.2.2.2.1
  have o3 : cz_bn s (R r)[p] r p (R r).length 3 = s 3 := cz_bn_o hl (by omega) (by omega) (by omega) (by omega)
  have o33 : cz_bn s (R r)[p] r p (R r).length (111 + 11 * (R r)[p] + 3) = s (111 + 11 * (R r)[p] + 3) := cz_bn_o hl (by omega) (by omega) (by omega) (by omega)
  refine ⟨W - v, M2, Nat.sub_le _ _, ?_, hch M2 e2 g2⟩
  rw [f_X4_burn, (c_hasLetter (k_7 J)).1 _ hi hn rfl, Option.bind_some, if_neg (by decide), cz_gdn hi40 (by decide), cz_cl (by omega), cz_rl5 ok hi ((k_rp J).2.2.2.2.2 _ hi), if_pos h5.2.2, f1, Option.bind_some, f2, Option.bind_some, cz_gdn hi40 (by decide), g2.2.1.1, (g2.2.2.2.2.2 _ hi).2.2.2.1, o3, o33, ok.1.1.2.2.2, hve, cz_subN hv]
theorem k_burn5 (J : cz_J b M (s, n, W, R) hist pc slot used pad len) {i : Nat} (hi : i < n) (h0 : s (111 + 11 * i + 2) ≠ nI 0) : f_X4_burn M b (nI i) = some ((-5 : Int32), M) := by
  have ok := k_ok J
  have hn : n ≤ 40 := ok.1.1.1
  rw [f_X4_burn, (c_hasLetter (k_7 J)).1 _ hi hn rfl, Option.bind_some, if_neg (by decide), cz_gdn (by omega) (by decide), cz_cl (by omega), cz_rl5 ok hi ((k_rp J).2.2.2.2.2 i hi), if_neg h0]
theorem k_burn1 (J : cz_J b M (s, n, W, R) hist pc slot used pad len) : f_X4_burn M b (nI n) = some ((-1 : Int32), M) := by
  rw [f_X4_burn, (c_hasLetter (k_7 J)).2 (Or.inr (Int32.le_refl _)), Option.bind_some, if_pos rfl]
/-- the pad changes -/
theorem k_pad {A : cz_S} {M' : cz_M} {pad' : Nat → Nat} {len' : Nat} (J : cz_J b M A hist pc slot used pad len) (h : cz_fr (fun x => x = b ∨ x = b + 118) M M') (h6 : M'.1 b 6 = M.1 b 6) (h60 : len' ≤ 60) (hr : ∀ k, k < len' → 33 ≤ pad' k ∧ pad' k ≤ 126) (h7 : M'.1 b 7 = nI len') (hp : ∀ k, k < len' → M'.1 (b + 118) k = nI (pad' k)) : cz_J b M' A hist pc slot used pad' len' := by
  obtain ⟨wf, c1, c2, ⟨π, hp1, hp2⟩, c4, c5, c6, c7⟩ := J
  have hpc := wf.2.1.1
  refine ⟨⟨wf.1, wf.2.1, wf.2.2.1, h60, hr⟩, cz_srp_w (fun x h1 h2 => h.1 x (by omega)) wf.1.1.1.1.1 c1, h6.trans c2, ⟨π, by rw [h.2]; exact hp1, hp2⟩, fun i hi => ?_, fun i hi => ?_, h7, hp⟩
  · rw [h.2]
    have hpi := hp1 i (by omega)
    exact cz_srp_w (fun x h1 h2 => h.1 x (by rw [hpi.2] at h1; omega)) (wf.2.1.2 i hi).1.1.1.1 (c4 i hi)
  · rw [(h.1 (b + 117) (by omega)).1]
    exact ⟨(c5 i hi).1, fun hu => cz_srp_w (fun x h1 h2 => h.1 x (by omega)) ((wf.2.2.1 i hi).2 hu).1.1.1.1 ((c5 i hi).2 hu)⟩
/-- one character is put -/
theorem k_put {A : cz_S} (J : cz_J b M A hist pc slot used pad len) {c : Nat} (h33 : 33 ≤ c) (h126 : c ≤ 126) (h60 : len + 1 ≤ 60) :
    ∃ M1, f_X4_put M b (cz_L c) = some (nI (len + 1), M1) ∧ cz_J b M1 A hist pc slot used (fun k => if k = len then c else pad k) (len + 1) := by
  have c6 : M.1 b 7 = nI len := J.2.2.2.2.2.2.1
  have hN : c < 2 ^ 64 := by omega
  have hby : cz_by c 0 = c := by unfold cz_by; rw [Nat.mul_zero, Nat.pow_zero, Nat.div_one]; omega
  have hcl := c_lengthOf (N := c) (L := 1) hN (by decide) (fun k hk => by
    rw [show k = 0 by omega, Nat.mul_zero, Nat.pow_zero, Nat.div_one]; omega) (fun k h1 h2 => by
    refine Nat.div_eq_of_lt ?_
    have h3 : (2 : Nat) ^ 8 ≤ 2 ^ (8 * k) := Nat.pow_le_pow_right (by decide) (by omega)
    have h4 : (2 : Nat) ^ 8 = 256 := by decide
    omega)
  have hg : cz_gc c 1 := fun k hk => by
    rw [show k = 0 by omega, hby]
    exact ⟨h33, h126⟩
  obtain ⟨M1, f1, e1, a6, a7, a8⟩ := c_putL (M := M) (b := b) (N := c) (L := 1) hN (by decide) h60 c6 J.2.2.2.2.2.2.2
  have hpp : ∀ k, k < len + 1 → cz_pp pad len c 1 k = if k = len then c else pad k := fun k hk => by
    unfold cz_pp
    by_cases h : k = len
    · rw [if_neg (by omega), if_pos h, h, show len + 1 - 1 - len = 0 by omega, hby]
    · rw [if_pos (by omega), if_neg h]
  refine ⟨M1, ?_, k_pad J e1 a6 h60 (fun k hk => ?_) a7 (fun k hk => by rw [a8 k hk, hpp k hk])⟩
  · rw [f_X4_put, hcl.1 hg, Option.bind_some, if_neg (by decide), c6, nI_add, if_pos (nI_le h60 (by decide)), cz_lt_e]
    exact f1
  · by_cases h : k = len
    · rw [if_pos h]; exact ⟨h33, h126⟩
    · rw [if_neg h]; exact J.1.2.2.2.2 k (by omega)
/-- a pad with one letter is read -/
theorem k_read (J : cz_J b M (s, n, W, R) hist pc slot used pad len) (hfp : cz_fp pad len len 0 0 = (-6 : Int32)) (hv : cz_vl pad len 1 0) (h40 : n + 1 ≤ 40) :
    ∃ M1, f_X4_read M b = some (nI (n + 1), M1) ∧ cz_J b M1 (cz_ls pad len 0 (s, n, W, R)) (cz_hp hist pc (s, n, W, R)) (cz_hc pc) slot used pad 0 := by
  have hl : len ≤ 60 := J.1.2.2.2.1
  have hc : ∀ k, k < len → pad k < 128 := fun k hk => by have := (J.1.2.2.2.2 k hk).2; omega
  have c6 := J.2.2.2.2.2.2.1
  have c7 := J.2.2.2.2.2.2.2
  have f4 := c_faultOfPad hl c6 c7 hc
  have fm := c_lettersOfPad hl c6 c7 hc hv
  obtain ⟨M1, f1, cv1, e1⟩ := c_remember M b J.1 J.2
  have wf1 := cz_wq_rec J.1
  obtain ⟨M2, f2, g2, e2⟩ := c_lettersW hl 1 0 M1 (s, n, W, R) none 4096 hv (Nat.zero_le _) (by omega) J.1.1 h40 cv1.2.2.2.2.2.1 cv1.2.2.2.2.2.2 cv1.1
  have okS := cz_lS_ok (pad := pad) 1 0 (s, n, W, R) hv (Nat.zero_le _) J.1.1 h40
  have cv2 := cz_cv_now wf1 e2 g2 cv1
  have wf2 := cz_wq_now wf1 okS
  have cv3 := cz_cv_0 wf2 cv2
  have v1 : (cz_mI M2 b 7 (nI 0)).1 (b + 1) 7 = nI (n + 1) := cv3.1.2.1.2.trans okS.1.1.1.2.1
  refine ⟨cz_mI M2 b 7 (nI 0), ?_, ⟨wf2.1, wf2.2.1, wf2.2.2.1, by omega, fun k hk => by omega⟩, cv3⟩
  rw [f_X4_read, f4, Option.bind_some, hfp, if_pos rfl, fm, Option.bind_some, k_7 J, nI_add, if_pos (nI_le h40 (by decide)), f1, Option.bind_some, f_X4_writeLettersOfPad, f2, Option.bind_some, cz_lt_e, v1]
end KC
