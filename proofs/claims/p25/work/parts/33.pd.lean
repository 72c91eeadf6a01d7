/-! the class lets fates happen -/
theorem cz_rl_c {M M' : cz_M} {q j : Nat} {s s' : Nat → Int32} (h1 : M'.1 q = M.1 q) (h2 : M'.2.1 q = M.2.1 q) (hs : ∀ f, f < 11 → s' (111 + 11 * j + f) = s (111 + 11 * j + f)) (h3 : s' 3 = s 3) (hw : cz_lw s j) (rl : cz_rl M q s j) : cz_rl M' q s' j := by
  obtain ⟨l, hl1, hl8, hl⟩ := hw.1
  have h0 : s' (111 + 11 * j) = s (111 + 11 * j) := hs 0 (by decide)
  have hd : ∀ k, k < l → (fun k => 97 + cz_dig s' j k) k = (fun k => 97 + cz_dig s j k) k := fun k hk => by
    dsimp only
    unfold cz_dig
    rw [hs (9 + k / 4) (by omega)]
  have hn : cz_no s' (111 + 11 * j + 8) = l := cz_no_e ((hs 8 (by decide)).trans hl) (by omega)
  have hn2 : cz_no s (111 + 11 * j + 8) = l := cz_no_e hl (by omega)
  unfold cz_rl at rl ⊢
  rw [h1, h2, h0, hs 1 (by decide), hs 2 (by decide), hs 3 (by decide), hs 4 (by decide), hs 5 (by decide), hs 6 (by decide), hs 7 (by decide), hs 8 (by decide), h3, hn, cz_wN_congr hd]
  rw [hn2] at rl
  exact rl
/-- what of a block changes, when the letter i and the censor c do -/
theorem cz_rp_ic {M M' : cz_M} {p n i c : Nat} {s s' : Nat → Int32} {R : Nat → List Nat} (rp : cz_rp M p s n R) (hc : c < 4) (hn : n ≤ 40) (hi : i < n) (hlw : ∀ j, j < n → cz_lw s j)
    (hM : ∀ x, x ≠ p + 4 + (9 + i) → x ≠ p + 2 + (7 + c) → M'.1 x = M.1 x) (hM2 : M'.2 = M.2) (hs : ∀ j, (j < 13 + 4 * c ∨ 13 + 4 * c + 3 < j) → (j < 111 + 11 * i ∨ 111 + 11 * i + 11 ≤ j) → s' j = s j)
    (hC : ∀ f, f < 4 → M'.1 (p + 2 + (7 + c)) f = s' (13 + 4 * c + f)) (hI : cz_rl M' (p + 4 + (9 + i)) s' i) : cz_rp M' p s' n R := by
  obtain ⟨r1, ⟨r2, r3⟩, r4, r5, r6, r7⟩ := rp
  refine ⟨fun k hk => ?_, ⟨?_, ?_⟩, fun k hk => ?_, fun x hx f hf => ?_, fun r hr => ?_, fun j hj => ?_⟩
  · rw [hM _ (by omega) (by omega), hs _ (by omega) (by omega)]; exact r1 k hk
  · rw [hM _ (by omega) (by omega), hs _ (by omega) (by omega)]; exact r2
  · rw [hM _ (by omega) (by omega), hs _ (by omega) (by omega)]; exact r3
  · rw [hM _ (by omega) (by omega), hs _ (by omega) (by omega)]; exact r4 k hk
  · by_cases hxc : x = c
    · subst hxc; exact hC f hf
    · rw [hM _ (by omega) (by omega), hs _ (by omega) (by omega)]; exact r5 x hx f hf
  · unfold cz_rr
    rw [hM _ (by omega) (by omega), hM _ (by omega) (by omega)]
    exact r6 r hr
  · by_cases hji : j = i
    · subst hji; exact hI
    · exact cz_rl_c (hM _ (by omega) (by omega)) (by rw [hM2]) (fun f hf => hs _ (by omega) (by omega)) (hs _ (by omega) (by omega)) (hlw j hj) (r7 j hj)
/-- digits stay -/
theorem cz_rl_w {s s' : Nat → Int32} {i : Nat} {w : Int64} (hw : cz_lw s i) (h8 : s' (111 + 11 * i + 8) = s (111 + 11 * i + 8)) (h9 : s' (111 + 11 * i + 9) = s (111 + 11 * i + 9)) (h10 : s' (111 + 11 * i + 10) = s (111 + 11 * i + 10)) (h : w = cz_L (cz_wN (fun k => 97 + cz_dig s i k) (cz_no s (111 + 11 * i + 8)))) : w = cz_L (cz_wN (fun k => 97 + cz_dig s' i k) (cz_no s' (111 + 11 * i + 8))) := by
  obtain ⟨l, hl1, hl8, hl⟩ := hw.1
  have hn : cz_no s' (111 + 11 * i + 8) = l := cz_no_e (h8.trans hl) (by omega)
  have hn2 : cz_no s (111 + 11 * i + 8) = l := cz_no_e hl (by omega)
  rw [hn2] at h
  rw [hn, h]
  congr 1
  refine cz_wN_congr (fun k hk => ?_)
  unfold cz_dig
  rcases (show k / 4 = 0 ∨ k / 4 = 1 by omega) with h0 | h0
  · rw [h0]; rw [show 111 + 11 * i + (9 + 0) = 111 + 11 * i + 9 from rfl, h9]
  · rw [h0]; rw [show 111 + 11 * i + (9 + 1) = 111 + 11 * i + 10 from rfl, h10]
set_option maxHeartbeats 2000000 in
theorem c_let {M : cz_M} {p n i c S : Nat} {s : Nat → Int32} {R : Nat → List Nat} (rp : cz_rp M p s n R) (hc : c < 4) (hn : n ≤ 40) (hi : i < n) (hlw : ∀ j, j < n → cz_lw s j) (hS : s (13 + 4 * c) = nI S) (hS2 : S < 2 ^ 26) :
    ∃ M', f_X2_letThrough M p (p + 4 + (9 + i)) (nI c) = some M' ∧ cz_rp M' p (cz_th s c i) n R ∧ (∀ j, M'.1 (p + 4 + (9 + j)) 10 = M.1 (p + 4 + (9 + j)) 10) ∧ cz_fr (fun x => p + 9 ≤ x ∧ x < p + 53) M M' := by
  have rl := rp.2.2.2.2.2 i hi
  have hC0 : ∀ f, f < 4 → M.1 (p + 2 + (7 + c)) f = s (13 + 4 * c + f) := fun f hf => rp.2.2.2.1 c hc f hf
  have hset : M.1 (p + 2 + (7 + c)) 0 = nI S := (hC0 0 (by decide)).trans hS
  have hne : p + 2 + (7 + c) ≠ p + 4 + (9 + i) := by omega
  have hpq : p ≠ p + 4 + (9 + i) := by omega
  rw [f_X2_letThrough, cz_gdn hc (by decide), cz_cl (by omega), hset, c_places rl (hlw i hi) hS hS2, Option.bind_some, cz_lt_e, cz_lt_e, cz_lt_e, cz_lt_e, cz_gdn hc (by decide), cz_lt_e, cz_gdn hc (by decide), f_X1_struckCount]
  simp (disch := omega) only [cz_mI_s, cz_mI_o, pk_us, pk_un]
  rw [c_bits8 _ (cz_ms_256 (hlw i hi))]
  simp only [Option.bind_some, cz_lt_e]
  refine ⟨_, rfl, ?_, fun j => ?_, ?_⟩
  · obtain ⟨e0, e1, e3, e4, e5, e6, e6b, e7, e8, e9, e11⟩ := rl
    refine cz_rp_ic rp hc hn hi hlw (fun x h1 h2 => ?_) rfl (fun j h1 h2 => ?_) (fun f hf => ?_) ?_
    · rw [cz_mI_o h2, cz_mI_o h2, cz_mI_o h1, cz_mI_o h1, cz_mI_o h1, cz_mI_o h1]
    · unfold cz_th
      simp (disch := omega) only [pk_un]
    · have hf4 : f = 0 ∨ f = 1 ∨ f = 2 ∨ f = 3 := by omega
      have k0 := hC0 0 (by decide)
      have k1 := hC0 1 (by decide)
      have k2 := hC0 2 (by decide)
      have k3 := hC0 3 (by decide)
      unfold cz_th
      rcases hf4 with rfl | rfl | rfl | rfl
      · simp (disch := omega) only [cz_mI_s, cz_mI_o, pk_us, pk_un]; exact k0
      · simp (disch := omega) only [cz_mI_s, cz_mI_o, pk_us, pk_un]; rw [k1]
      · simp (disch := omega) only [cz_mI_s, cz_mI_o, pk_us, pk_un]; rw [k2]
      · simp (disch := omega) only [cz_mI_s, cz_mI_o, pk_us, pk_un]; exact k3
    · have t2 : cz_th s c i (111 + 11 * i + 2) = nI 3 := by unfold cz_th; simp (disch := omega) only [pk_us, pk_un]
      have t5 : cz_th s c i (111 + 11 * i + 5) = nI (cz_ms s c i) := by unfold cz_th; simp (disch := omega) only [pk_us, pk_un]
      have t7 : cz_th s c i (111 + 11 * i + 7) = nI c := by unfold cz_th; simp (disch := omega) only [pk_us, pk_un]
      have to : ∀ f, f < 11 → f ≠ 2 → f ≠ 5 → f ≠ 7 → cz_th s c i (111 + 11 * i + f) = s (111 + 11 * i + f) := fun f h1 h2 h3 h4 => by unfold cz_th; simp (disch := omega) only [pk_un]
      have t0 : cz_th s c i (111 + 11 * i) = s (111 + 11 * i) := to 0 (by decide) (by decide) (by decide) (by decide)
      have t33 : cz_th s c i 3 = s 3 := by unfold cz_th; simp (disch := omega) only [pk_un]
      refine ⟨?_, ?_, ?_, ?_, ?_, fun h => ?_, fun _ => ?_, ?_, ?_, ?_, ?_⟩
      · rw [t0]; simp (disch := omega) only [cz_mI_s, cz_mI_o, pk_us, pk_un]; exact e0
      · rw [to 1 (by decide) (by decide) (by decide) (by decide)]; simp (disch := omega) only [cz_mI_s, cz_mI_o, pk_us, pk_un]; exact e1
      · rw [to 8 (by decide) (by decide) (by decide) (by decide)]; simp (disch := omega) only [cz_mI_s, cz_mI_o, pk_us, pk_un]; exact e3
      · rw [to 3 (by decide) (by decide) (by decide) (by decide)]; simp (disch := omega) only [cz_mI_s, cz_mI_o, pk_us, pk_un]; exact e4
      · rw [t2, if_pos rfl]; simp (disch := omega) only [cz_mI_s, cz_mI_o, pk_us, pk_un]
      · rw [t2] at h; exact absurd h (by decide)
      · rw [t33, to 3 (by decide) (by decide) (by decide) (by decide)]; simp (disch := omega) only [cz_mI_s, cz_mI_o, pk_us, pk_un]; rw [rp.2.1.1, e4]
      · rw [to 6 (by decide) (by decide) (by decide) (by decide)]; simp (disch := omega) only [cz_mI_s, cz_mI_o, pk_us, pk_un]; exact e7
      · rw [t5]; simp (disch := omega) only [cz_mI_s, cz_mI_o, pk_us, pk_un]
      · rw [t7]; simp (disch := omega) only [cz_mI_s, cz_mI_o, pk_us, pk_un]
      · exact cz_rl_w (hlw i hi) (to 8 (by decide) (by decide) (by decide) (by decide)) (to 9 (by decide) (by decide) (by decide) (by decide)) (to 10 (by decide) (by decide) (by decide) (by decide)) e11
  · by_cases hji : j = i
    · subst hji; simp (disch := omega) only [cz_mI_s, cz_mI_o, pk_us, pk_un]
    · by_cases hjc : p + 4 + (9 + j) = p + 2 + (7 + c)
      · rw [hjc]; simp (disch := omega) only [cz_mI_s, cz_mI_o, pk_us, pk_un]
      · simp (disch := omega) only [cz_mI_s, cz_mI_o, pk_us, pk_un]
  · have d1 : p + 9 ≤ p + 4 + (9 + i) ∧ p + 4 + (9 + i) < p + 53 := by omega
    have d2 : p + 9 ≤ p + 2 + (7 + c) ∧ p + 2 + (7 + c) < p + 53 := by omega
    exact ((((((cz_fr.mI (D := fun x => p + 9 ≤ x ∧ x < p + 53) d1).tr (cz_fr.mI d1)).tr (cz_fr.mI d1)).tr (cz_fr.mI d1)).tr (cz_fr.mI d2))).tr (cz_fr.mI d2)
set_option maxHeartbeats 2000000 in
theorem c_turn {M : cz_M} {p n i c t : Nat} {s : Nat → Int32} {R : Nat → List Nat} (rp : cz_rp M p s n R) (hc : c < 4) (hn : n ≤ 40) (hi : i < n) (hlw : ∀ j, j < n → cz_lw s j) (h0 : s (111 + 11 * i + 2) = nI 0) (ht : t = 4 ∨ t = 5) (hM : M.1 (p + 4 + (9 + i)) 10 = nI t) :
    ∃ M', f_X2_turnBack M p (p + 4 + (9 + i)) (nI c) = some M' ∧ cz_rp M' p (cz_tu s c i (if t = 4 then 0 else 2)) n R ∧ (∀ j, M'.1 (p + 4 + (9 + j)) 10 = M.1 (p + 4 + (9 + j)) 10) ∧ cz_fr (fun x => p + 9 ≤ x ∧ x < p + 53) M M' := by
  have rl := rp.2.2.2.2.2 i hi
  have hC0 : ∀ f, f < 4 → M.1 (p + 2 + (7 + c)) f = s (13 + 4 * c + f) := fun f hf => rp.2.2.2.1 c hc f hf
  have hne : p + 2 + (7 + c) ≠ p + 4 + (9 + i) := by omega
  have d1 : p + 9 ≤ p + 4 + (9 + i) ∧ p + 4 + (9 + i) < p + 53 := by omega
  have d2 : p + 9 ≤ p + 2 + (7 + c) ∧ p + 2 + (7 + c) < p + 53 := by omega
  have k0 := hC0 0 (by decide)
  have k1 := hC0 1 (by decide)
  have k2 := hC0 2 (by decide)
  have k3 := hC0 3 (by decide)
  have to : ∀ v f, f < 11 → f ≠ 2 → f ≠ 6 → cz_tu s c i v (111 + 11 * i + f) = s (111 + 11 * i + f) := fun v f h1 h2 h3 => by unfold cz_tu; simp (disch := omega) only [pk_un]
  have t0 : ∀ v, cz_tu s c i v (111 + 11 * i) = s (111 + 11 * i) := fun v => to v 0 (by decide) (by decide) (by decide)
  have t2 : ∀ v, cz_tu s c i v (111 + 11 * i + 2) = nI v := fun v => by unfold cz_tu; simp (disch := omega) only [pk_us, pk_un]
  have t6 : ∀ v, cz_tu s c i v (111 + 11 * i + 6) = s (111 + 11 * i + 6) + nI 1 := fun v => by unfold cz_tu; simp (disch := omega) only [pk_us, pk_un]
  obtain ⟨e0, e1, e3, e4, e5, e6, e6b, e7, e8, e9, e11⟩ := rl
  have n01 : nI 0 ≠ nI 1 := by decide
  have n03 : nI 0 ≠ nI 3 := by decide
  have n21 : nI 2 ≠ nI 1 := by decide
  have n23 : nI 2 ≠ nI 3 := by decide
  rw [f_X2_turnBack, cz_lt_e]
  simp (disch := omega) only [cz_mI_s, cz_mI_o, pk_us, pk_un]
  rw [hM]
  rcases ht with rfl | rfl
  · rw [if_neg (by decide), if_pos rfl, cz_gdn hc (by decide), cz_cl (by omega), cz_lt_e, cz_gdn hc (by decide), cz_lt_e]
    simp (disch := omega) only [cz_mI_s, cz_mI_o, pk_us, pk_un]
    refine ⟨_, rfl, ?_, fun j => ?_, (cz_fr.mI (D := fun x => p + 9 ≤ x ∧ x < p + 53) d1).tr ((cz_fr.mI d2).tr (cz_fr.mI d2))⟩
    · refine cz_rp_ic rp hc hn hi hlw (fun x h1 h2 => ?_) rfl (fun j h1 h2 => ?_) (fun f hf => ?_) ?_
      · rw [cz_mI_o h2, cz_mI_o h2, cz_mI_o h1]
      · unfold cz_tu
        simp (disch := omega) only [pk_un]
      · have hf4 : f = 0 ∨ f = 1 ∨ f = 2 ∨ f = 3 := by omega
        unfold cz_tu
        rcases hf4 with rfl | rfl | rfl | rfl
        · simp (disch := omega) only [cz_mI_s, cz_mI_o, pk_us, pk_un]; exact k0
        · simp (disch := omega) only [cz_mI_s, cz_mI_o, pk_us, pk_un]; rw [k1]
        · simp (disch := omega) only [cz_mI_s, cz_mI_o, pk_us, pk_un]; exact k2
        · simp (disch := omega) only [cz_mI_s, cz_mI_o, pk_us, pk_un]; rw [k3]
      · refine ⟨?_, ?_, ?_, ?_, ?_, fun h => ?_, fun h => ?_, ?_, ?_, ?_, ?_⟩
        · rw [t0]; simp (disch := omega) only [cz_mI_s, cz_mI_o, pk_us, pk_un]; exact e0
        · rw [to _ 1 (by decide) (by decide) (by decide)]; simp (disch := omega) only [cz_mI_s, cz_mI_o, pk_us, pk_un]; exact e1
        · rw [to _ 8 (by decide) (by decide) (by decide)]; simp (disch := omega) only [cz_mI_s, cz_mI_o, pk_us, pk_un]; exact e3
        · rw [to _ 3 (by decide) (by decide) (by decide)]; simp (disch := omega) only [cz_mI_s, cz_mI_o, pk_us, pk_un]; exact e4
        · rw [t2, if_neg n03]; simp (disch := omega) only [cz_mI_s, cz_mI_o, pk_us, pk_un]; rw [e5, h0, if_neg n03]
        · rw [t2] at h; exact absurd h n01
        · rw [t2] at h; exact absurd h n03
        · rw [t6]; simp (disch := omega) only [cz_mI_s, cz_mI_o, pk_us, pk_un]; rw [e7]
        · rw [to _ 5 (by decide) (by decide) (by decide)]; simp (disch := omega) only [cz_mI_s, cz_mI_o, pk_us, pk_un]; exact e8
        · rw [to _ 7 (by decide) (by decide) (by decide)]; simp (disch := omega) only [cz_mI_s, cz_mI_o, pk_us, pk_un]; exact e9
        · exact cz_rl_w (hlw i hi) (to _ 8 (by decide) (by decide) (by decide)) (to _ 9 (by decide) (by decide) (by decide)) (to _ 10 (by decide) (by decide) (by decide)) e11
    · by_cases hji : j = i
      · subst hji; simp (disch := omega) only [cz_mI_s, cz_mI_o, pk_us, pk_un]
      · by_cases hjc : p + 4 + (9 + j) = p + 2 + (7 + c)
        · rw [hjc]; simp (disch := omega) only [cz_mI_s, cz_mI_o, pk_us, pk_un]
        · simp (disch := omega) only [cz_mI_s, cz_mI_o, pk_us, pk_un]
  · rw [if_pos rfl, if_neg (by decide), cz_lt_e, cz_gdn hc (by decide), cz_cl (by omega), cz_lt_e, cz_gdn hc (by decide), cz_lt_e]
    simp (disch := omega) only [cz_mI_s, cz_mI_o, pk_us, pk_un]
    refine ⟨_, rfl, ?_, fun j => ?_, (cz_fr.mI (D := fun x => p + 9 ≤ x ∧ x < p + 53) d1).tr ((cz_fr.mI d1).tr ((cz_fr.mI d2).tr (cz_fr.mI d2)))⟩
    · refine cz_rp_ic rp hc hn hi hlw (fun x h1 h2 => ?_) rfl (fun j h1 h2 => ?_) (fun f hf => ?_) ?_
      · rw [cz_mI_o h2, cz_mI_o h2, cz_mI_o h1, cz_mI_o h1]
      · unfold cz_tu
        simp (disch := omega) only [pk_un]
      · have hf4 : f = 0 ∨ f = 1 ∨ f = 2 ∨ f = 3 := by omega
        unfold cz_tu
        rcases hf4 with rfl | rfl | rfl | rfl
        · simp (disch := omega) only [cz_mI_s, cz_mI_o, pk_us, pk_un]; exact k0
        · simp (disch := omega) only [cz_mI_s, cz_mI_o, pk_us, pk_un]; rw [k1]
        · simp (disch := omega) only [cz_mI_s, cz_mI_o, pk_us, pk_un]; exact k2
        · simp (disch := omega) only [cz_mI_s, cz_mI_o, pk_us, pk_un]; rw [k3]
      · refine ⟨?_, ?_, ?_, ?_, ?_, fun h => ?_, fun h => ?_, ?_, ?_, ?_, ?_⟩
        · rw [t0]; simp (disch := omega) only [cz_mI_s, cz_mI_o, pk_us, pk_un]; exact e0
        · rw [to _ 1 (by decide) (by decide) (by decide)]; simp (disch := omega) only [cz_mI_s, cz_mI_o, pk_us, pk_un]; exact e1
        · rw [to _ 8 (by decide) (by decide) (by decide)]; simp (disch := omega) only [cz_mI_s, cz_mI_o, pk_us, pk_un]; exact e3
        · rw [to _ 3 (by decide) (by decide) (by decide)]; simp (disch := omega) only [cz_mI_s, cz_mI_o, pk_us, pk_un]; exact e4
        · rw [t2, if_neg n23]; simp (disch := omega) only [cz_mI_s, cz_mI_o, pk_us, pk_un]
        · rw [t2] at h; exact absurd h n21
        · rw [t2] at h; exact absurd h n23
        · rw [t6]; simp (disch := omega) only [cz_mI_s, cz_mI_o, pk_us, pk_un]; rw [e7]
        · rw [to _ 5 (by decide) (by decide) (by decide)]; simp (disch := omega) only [cz_mI_s, cz_mI_o, pk_us, pk_un]; exact e8
        · rw [to _ 7 (by decide) (by decide) (by decide)]; simp (disch := omega) only [cz_mI_s, cz_mI_o, pk_us, pk_un]; exact e9
        · exact cz_rl_w (hlw i hi) (to _ 8 (by decide) (by decide) (by decide)) (to _ 9 (by decide) (by decide) (by decide)) (to _ 10 (by decide) (by decide) (by decide)) e11
    · by_cases hji : j = i
      · subst hji; simp (disch := omega) only [cz_mI_s, cz_mI_o, pk_us, pk_un]
      · by_cases hjc : p + 4 + (9 + j) = p + 2 + (7 + c)
        · rw [hjc]; simp (disch := omega) only [cz_mI_s, cz_mI_o, pk_us, pk_un]
        · simp (disch := omega) only [cz_mI_s, cz_mI_o, pk_us, pk_un]
/-- how many have been let through -/
theorem cz_cn_u {s s' : Nat → Int32} {i : Nat} (h : ∀ j, j ≠ i → s' (111 + 11 * j + 2) = s (111 + 11 * j + 2)) (hi : s (111 + 11 * i + 2) ≠ nI 3) : ∀ n, cz_cn s' n = cz_cn s n + (if i < n ∧ s' (111 + 11 * i + 2) = nI 3 then 1 else 0)
  | 0 => by rw [if_neg (by omega)]; rfl
  | n + 1 => by
    rw [cz_cn, cz_cn, cz_cn_u h hi n]
    by_cases hin : n = i
    · subst hin
      rw [if_neg (fun z => absurd z.1 (by omega)), if_neg hi]
      by_cases h3 : s' (111 + 11 * n + 2) = nI 3
      · rw [if_pos h3, if_pos ⟨by omega, h3⟩]
      · rw [if_neg h3, if_neg (fun z => h3 z.2)]
    · rw [h n hin]
      have e : (if i < n + 1 ∧ s' (111 + 11 * i + 2) = nI 3 then 1 else 0) = if i < n ∧ s' (111 + 11 * i + 2) = nI 3 then 1 else 0 := by
        by_cases h3 : i < n ∧ s' (111 + 11 * i + 2) = nI 3
        · rw [if_pos h3, if_pos ⟨by omega, h3.2⟩]
        · rw [if_neg h3, if_neg (fun z => h3 ⟨by omega, z.2⟩)]
      rw [e]
      omega
