/-! fates: what becomes of a letter is known as the week begins -/
def cz_th (s : Nat → Int32) (c i : Nat) : Nat → Int32 :=
  upd (upd (upd (upd (upd s (13 + 4 * c + 1) (s (13 + 4 * c + 1) + nI 1)) (111 + 11 * i + 2) (nI 3)) (111 + 11 * i + 5) (nI (cz_ms s c i))) (111 + 11 * i + 7) (nI c)) (13 + 4 * c + 2) (s (13 + 4 * c + 2) + nI (cz_pc (cz_ms s c i)))
def cz_tu (s : Nat → Int32) (c i v : Nat) : Nat → Int32 :=
  upd (upd (upd (upd s (13 + 4 * c + 1) (s (13 + 4 * c + 1) + nI 1)) (111 + 11 * i + 6) (s (111 + 11 * i + 6) + nI 1)) (13 + 4 * c + 3) (s (13 + 4 * c + 3) + nI 1)) (111 + 11 * i + 2) (nI v)
/-- the fate t happens to the letter i -/
def cz_ap (s : Nat → Int32) (c t i : Nat) : Nat → Int32 := if t = 0 then cz_th s c i else if t = 4 then cz_tu s c i 0 else if t = 5 then cz_tu s c i 2 else s
/-- the fate of a letter that is read -/
def cz_ft (s : Nat → Int32) (c i : Nat) : Nat := if s 1 < nI (cz_pc (cz_ms s c i)) then (if s (111 + 11 * i + 6) + nI 1 < s 2 then 4 else 5) else 0
theorem cz_ft_c (s : Nat → Int32) (c i : Nat) : cz_ft s c i = 0 ∨ cz_ft s c i = 4 ∨ cz_ft s c i = 5 := by
  unfold cz_ft
  split
  · split
    · exact Or.inr (Or.inl rfl)
    · exact Or.inr (Or.inr rfl)
  · exact Or.inl rfl
theorem cz_rd_ap (s : Nat → Int32) (c i : Nat) : cz_rd s c i (cz_ms s c i) = cz_ap s c (cz_ft s c i) i := by
  unfold cz_rd
  rw [pk_un (show (1 : Nat) ≠ 13 + 4 * c + 1 by omega)]
  unfold cz_ap cz_ft
  by_cases h : s 1 < nI (cz_pc (cz_ms s c i))
  · rw [if_pos h, if_pos h]
    by_cases h2 : s (111 + 11 * i + 6) + nI 1 < s 2
    · rw [if_pos h2, if_pos h2, if_neg (by decide), if_pos rfl]
      rfl
    · rw [if_neg h2, if_neg h2, if_neg (by decide), if_neg (by decide), if_pos rfl]
      rfl
  · rw [if_neg h, if_neg h, if_pos rfl]
    rfl
/-- a letter's places behind its fate -/
def cz_tl (s : Nat → Int32) (c t i f : Nat) : Int32 :=
  if t = 0 then (if f = 2 then nI 3 else if f = 5 then nI (cz_ms s c i) else if f = 7 then nI c else s (111 + 11 * i + f))
  else if t = 4 then (if f = 2 then nI 0 else if f = 6 then s (111 + 11 * i + 6) + nI 1 else s (111 + 11 * i + f))
  else if t = 5 then (if f = 2 then nI 2 else if f = 6 then s (111 + 11 * i + 6) + nI 1 else s (111 + 11 * i + f))
  else s (111 + 11 * i + f)
theorem cz_upd_i {s : Nat → Int32} {k x : Nat} {v : Int32} : upd s k v x = if x = k then v else s x := by
  by_cases h : x = k
  · subst h; rw [pk_us, if_pos rfl]
  · rw [pk_un h, if_neg h]
theorem cz_ap_i {s : Nat → Int32} {c t i f : Nat} (hc : c < 4) (hf : f < 11) : cz_ap s c t i (111 + 11 * i + f) = cz_tl s c t i f := by
  have e2 : (111 + 11 * i + f = 111 + 11 * i + 2) ↔ f = 2 := by omega
  have e5 : (111 + 11 * i + f = 111 + 11 * i + 5) ↔ f = 5 := by omega
  have e6 : (111 + 11 * i + f = 111 + 11 * i + 6) ↔ f = 6 := by omega
  have e7 : (111 + 11 * i + f = 111 + 11 * i + 7) ↔ f = 7 := by omega
  have a1 : ¬ 111 + 11 * i + f = 13 + 4 * c + 1 := by omega
  have a2 : ¬ 111 + 11 * i + f = 13 + 4 * c + 2 := by omega
  have a3 : ¬ 111 + 11 * i + f = 13 + 4 * c + 3 := by omega
  unfold cz_ap cz_tl
  by_cases h0 : t = 0
  · rw [if_pos h0, if_pos h0]
    unfold cz_th
    simp only [cz_upd_i, e2, e5, e7, a1, a2, if_false]
    by_cases h2 : f = 2
    · subst h2; simp
    · by_cases h5 : f = 5
      · subst h5; simp
      · simp [h2, h5]
  · rw [if_neg h0, if_neg h0]
    by_cases h4 : t = 4
    · rw [if_pos h4, if_pos h4]
      unfold cz_tu
      simp only [cz_upd_i, e2, e6, a1, a3, if_false]
    · rw [if_neg h4, if_neg h4]
      by_cases h5 : t = 5
      · rw [if_pos h5, if_pos h5]
        unfold cz_tu
        simp only [cz_upd_i, e2, e6, a1, a3, if_false]
      · rw [if_neg h5, if_neg h5]
theorem cz_ap_o {s : Nat → Int32} {c t i j : Nat} (h : j < 13 + 4 * c ∨ 13 + 4 * c + 3 < j) (h2 : j < 111 + 11 * i ∨ 111 + 11 * i + 11 ≤ j) : cz_ap s c t i j = s j := by
  unfold cz_ap cz_th cz_tu
  repeat' split
  all_goals simp (disch := omega) only [pk_un]
theorem cz_ap_ne {s : Nat → Int32} {c t i j f : Nat} (hc : c < 4) (hf : f < 11) (h : j ≠ i) : cz_ap s c t i (111 + 11 * j + f) = s (111 + 11 * j + f) := cz_ap_o (by omega) (by omega)
theorem cz_tl_congr {s s' : Nat → Int32} {c t i f : Nat} (hf : f < 11) (h : ∀ f, f < 11 → s (111 + 11 * i + f) = s' (111 + 11 * i + f)) (hm : cz_ms s c i = cz_ms s' c i) : cz_tl s c t i f = cz_tl s' c t i f := by
  unfold cz_tl
  rw [h f hf, h 6 (by decide), hm]
/-- how many of a row can be read -/
def cz_nb (s w : Nat → Int32) : List Nat → Nat
  | [] => 0
  | i :: l => (if cz_bar s w i then 0 else 1) + cz_nb s w l
theorem cz_nb_snoc (s w : Nat → Int32) (i : Nat) : ∀ l, cz_nb s w (l ++ [i]) = cz_nb s w l + (if cz_bar s w i then 0 else 1)
  | [] => by simp [cz_nb]
  | k :: l => by
    rw [List.cons_append, cz_nb, cz_nb_snoc s w i l, cz_nb]
    omega
/-- the fate of the letter at the place k of the row -/
def cz_fk (s w : Nat → Int32) (c rdm : Nat) (L : List Nat) (k : Nat) : Nat :=
  if cz_bar s w (L.getD k 0) then 2 else if cz_nb s w (L.take k) < rdm then cz_ft s c (L.getD k 0) else 3
theorem cz_gD {L : List Nat} {k : Nat} (h : k < L.length) : L.getD k 0 = L[k] := by
  rw [List.getD_eq_getElem?_getD, List.getElem?_eq_getElem h]
  rfl
theorem cz_fk_c (s w : Nat → Int32) (c rdm : Nat) (L : List Nat) (k : Nat) : cz_fk s w c rdm L k = 0 ∨ cz_fk s w c rdm L k = 2 ∨ cz_fk s w c rdm L k = 3 ∨ cz_fk s w c rdm L k = 4 ∨ cz_fk s w c rdm L k = 5 := by
  unfold cz_fk
  split
  · omega
  · split
    · have := cz_ft_c s c (L.getD k 0)
      omega
    · omega
theorem cz_nd {L : List Nat} (h : L.Nodup) {k m : Nat} (hk : k < L.length) (hm : m < L.length) (he : L[k] = L[m]) : k = m := by
  have hp := List.pairwise_iff_getElem.mp h
  rcases Nat.lt_trichotomy k m with h1 | h1 | h1
  · exact absurd he (hp k m hk hm h1)
  · exact h1
  · exact absurd he.symm (hp m k hm hk h1)
theorem cz_nt {L : List Nat} (h : L.Nodup) {k : Nat} (hk : k < L.length) : L[k] ∉ L.take k := by
  intro hm
  obtain ⟨m, hm1, hm2⟩ := List.mem_iff_getElem.mp hm
  rw [List.length_take] at hm1
  rw [List.getElem_take] at hm2
  have := cz_nd h (by omega) hk hm2
  omega
set_option maxHeartbeats 1000000 in
theorem cz_go_st {w s u : Nat → Int32} {c rdm : Nat} {L : List Nat} (hc : c < 4) (hnd : L.Nodup) (hlw : ∀ i ∈ L, cz_lw s i) : ∀ k, k ≤ L.length →
    ((cz_go w c rdm (L.take k) (0, s, u)).1 = min rdm (cz_nb s w (L.take k)) ∧ (∀ j, j ∉ L.take k → (∀ f, f < 11 → (cz_go w c rdm (L.take k) (0, s, u)).2.1 (111 + 11 * j + f) = s (111 + 11 * j + f)) ∧ (cz_go w c rdm (L.take k) (0, s, u)).2.2 j = u j)
    ∧ (∀ m (hm : m < L.length), m < k → (∀ f, f < 11 → (cz_go w c rdm (L.take k) (0, s, u)).2.1 (111 + 11 * L[m] + f) = cz_tl s c (cz_fk s w c rdm L m) L[m] f) ∧ (cz_go w c rdm (L.take k) (0, s, u)).2.2 L[m] = if cz_fk s w c rdm L m = 2 ∨ cz_fk s w c rdm L m = 3 then u L[m] else nI 1)
    ∧ (∀ hk : k < L.length, (cz_go w c rdm (L.take (k + 1)) (0, s, u)).2.1 = cz_ap (cz_go w c rdm (L.take k) (0, s, u)).2.1 c (cz_fk s w c rdm L k) L[k])) := by
  have hstep : ∀ k (hk : k < L.length), (cz_go w c rdm (L.take k) (0, s, u)).1 = min rdm (cz_nb s w (L.take k)) → (∀ j, j ∉ L.take k → (∀ f, f < 11 → (cz_go w c rdm (L.take k) (0, s, u)).2.1 (111 + 11 * j + f) = s (111 + 11 * j + f)) ∧ (cz_go w c rdm (L.take k) (0, s, u)).2.2 j = u j) →
      (cz_go w c rdm (L.take (k + 1)) (0, s, u)) = (min rdm (cz_nb s w (L.take (k + 1))), cz_ap (cz_go w c rdm (L.take k) (0, s, u)).2.1 c (cz_fk s w c rdm L k) L[k], if cz_fk s w c rdm L k = 2 ∨ cz_fk s w c rdm L k = 3 then (cz_go w c rdm (L.take k) (0, s, u)).2.2 else upd (cz_go w c rdm (L.take k) (0, s, u)).2.2 L[k] (nI 1)) := by
    intro k hk h1 h2
    have hkp : ∀ j, cz_kp j → (cz_go w c rdm (L.take k) (0, s, u)).2.1 j = s j := fun j hj => cz_go_kp hc hj (L.take k) (0, s, u)
    have h3 := (h2 L[k] (cz_nt hnd hk)).1 6 (by decide)
    rw [cz_take hk, cz_go_snoc, cz_nb_snoc]
    generalize hp : cz_go w c rdm (L.take k) (0, s, u) = p at h1 hkp h3 ⊢
    obtain ⟨q, s2, u2⟩ := p
    dsimp only at h1 hkp h3 ⊢
    subst h1
    have hb : cz_bar s2 w L[k] ↔ cz_bar s w L[k] := cz_bar_eq hkp _
    have hms : cz_ms s2 c L[k] = cz_ms s c L[k] := (cz_ms_eq (fun j hj => (hkp j hj).symm) hc (by obtain ⟨l, _, hl8, hl⟩ := (hlw L[k] (List.getElem_mem hk)).1; rw [hl, cz_cl (by omega)]; exact hl8)).symm
    have hft : cz_ft s2 c L[k] = cz_ft s c L[k] := by
      unfold cz_ft
      rw [hms, h3, hkp 1 (by unfold cz_kp; omega), hkp 2 (by unfold cz_kp; omega)]
    unfold cz_s1 cz_fk
    rw [cz_gD hk]
    dsimp only
    by_cases hbb : cz_bar s w L[k]
    · rw [if_neg (fun z => z.2 (hb.mpr hbb)), if_pos hbb, if_pos hbb, if_pos (Or.inl rfl)]
      rfl
    · rw [if_neg hbb, if_neg hbb]
      by_cases hq : cz_nb s w (L.take k) < rdm
      · rw [if_pos ⟨by omega, fun z => hbb (hb.mp z)⟩, if_pos hq, cz_rd_ap, hft, if_neg (by have := cz_ft_c s c L[k]; omega)]
        congr 1
        omega
      · rw [if_neg (fun z => by have := z.1; omega), if_neg hq, if_pos (Or.inr rfl)]
        have : min rdm (cz_nb s w (L.take k)) = min rdm (cz_nb s w (L.take k) + 1) := by omega
        rw [this]
        rfl
  intro k
  induction k with
  | zero =>
    intro hk
    have g1 : (cz_go w c rdm (L.take 0) (0, s, u)).1 = min rdm (cz_nb s w (L.take 0)) := by simp [cz_go, cz_nb]
    have g2 : ∀ j, j ∉ L.take 0 → (∀ f, f < 11 → (cz_go w c rdm (L.take 0) (0, s, u)).2.1 (111 + 11 * j + f) = s (111 + 11 * j + f)) ∧ (cz_go w c rdm (L.take 0) (0, s, u)).2.2 j = u j := fun j hj => ⟨fun f hf => by simp [cz_go], by simp [cz_go]⟩
    exact ⟨g1, g2, fun m hm h => by omega, fun hk => by rw [hstep 0 hk g1 g2]⟩
  | succ k ih =>
    intro hk
    obtain ⟨i1, i2, i3, i4⟩ := ih (by omega)
    have hs := hstep k hk i1 i2
    have hkp : ∀ j, cz_kp j → (cz_go w c rdm (L.take k) (0, s, u)).2.1 j = s j := fun j hj => cz_go_kp hc hj (L.take k) (0, s, u)
    have g1 : (cz_go w c rdm (L.take (k + 1)) (0, s, u)).1 = min rdm (cz_nb s w (L.take (k + 1))) := by rw [hs]
    have g2 : ∀ j, j ∉ L.take (k + 1) → (∀ f, f < 11 → (cz_go w c rdm (L.take (k + 1)) (0, s, u)).2.1 (111 + 11 * j + f) = s (111 + 11 * j + f)) ∧ (cz_go w c rdm (L.take (k + 1)) (0, s, u)).2.2 j = u j := fun j hj => by
      rw [hs]
      rw [cz_take hk, List.mem_append, List.mem_singleton] at hj
      have hj1 : j ∉ L.take k := fun z => hj (Or.inl z)
      have hj2 : j ≠ L[k] := fun z => hj (Or.inr z)
      refine ⟨fun f hf => ?_, ?_⟩
      · exact (cz_ap_ne hc hf hj2).trans ((i2 j hj1).1 f hf)
      · dsimp only
        split
        · exact (i2 j hj1).2
        · rw [pk_un hj2]; exact (i2 j hj1).2
    refine ⟨g1, g2, fun m hm h => ?_, fun hk2 => by rw [hstep (k + 1) hk2 g1 g2]⟩
    rw [hs]
    by_cases hmk : m = k
    · subst hmk
      have i2k := i2 L[m] (cz_nt hnd hm)
      refine ⟨fun f hf => ?_, ?_⟩
      · refine (cz_ap_i hc hf).trans (cz_tl_congr hf i2k.1 ?_)
        exact (cz_ms_eq (fun j hj => (hkp j hj).symm) hc (by obtain ⟨l, _, hl8, hl⟩ := (hlw L[m] (List.getElem_mem hm)).1; rw [hl, cz_cl (by omega)]; exact hl8)).symm
      · dsimp only
        split
        · exact i2k.2
        · rw [pk_us]
    · have hne : L[m] ≠ L[k] := fun z => hmk (cz_nd hnd hm (by omega) z)
      have i3m := i3 m hm (by omega)
      refine ⟨fun f hf => ?_, ?_⟩
      · exact (cz_ap_ne hc hf hne).trans (i3m.1 f hf)
      · dsimp only
        rw [← i3m.2]
        split
        · rfl
        · rw [pk_un hne]
