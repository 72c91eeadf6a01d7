/-! the class writes a letter, and all of them -/
theorem c_letterW {M : cz_M} {b len p : Nat} {pad : Nat → Nat} {A : cz_S} (x1 : Option Nat) (K : Option Nat → Int32 → cz_M → Option cz_M) (hl : len ≤ 60) (hp : p ≤ len) (h3 : 3 ≤ cz_rt pad len p) (h : cz_sok A) (hn : A.2.1 < 40) (h7 : M.1 b 7 = nI len) (hpad : ∀ k, k < len → M.1 (b + 118) k = nI (pad k)) (rp : cz_srp M (b + 1) A) (fuel : Nat) :
    ∃ M' q, cz_it3 (f_X4_writeLettersOfPad_L4 b K) (fuel + cz_rt pad len p) x1 (nI p) M = cz_it3 (f_X4_writeLettersOfPad_L4 b K) fuel (some q) (nI (p + cz_rt pad len p)) M' ∧ cz_srp M' (b + 1) (cz_ls pad len p A) ∧ cz_fr (fun x => b + 1 ≤ x ∧ x < b + 1 + 57) M M' := by
  obtain ⟨s, n, W, R⟩ := A
  have hn : n < 40 := hn
  obtain ⟨ok, hW9⟩ := id h
  have ok : cz_ok s n W R := ok
  have rp : cz_rp M (b + 1) s n R := rp
  obtain ⟨k1, k2, k3, k4, k5⟩ := cz_rt_ch hp h3
  obtain ⟨pm1, pm8⟩ := cz_pm_8 h3
  have hr := cz_pr_2 pad p
  obtain ⟨l1, l2, l3, l4, l5⟩ := ok.1.2.2.2.2.1 (cz_pr pad p) hr
  have hln : (R (cz_pr pad p)).length ≤ n := cz_nodup_le n _ l4 (fun i hi => (l5 i hi).1)
  have hl40 : (R (cz_pr pad p)).length < 40 := by omega
  obtain ⟨p1, ⟨p2, p3⟩, p4, p5, p6, p7⟩ := rp
  have hp7 : M.1 (b + 1) 7 = nI n := p3.trans ok.1.1.2.1
  -- the digit
  obtain ⟨M1, f1, ⟨g0, g1, g3, g4, g5, g7, g8, g9⟩, gw, gp, e1⟩ := c_begin (M := M) (p := b + 1) (x := nI (pad p - 48)) hn hp7
  have st1 := c_wr_digit x1 K (cz_it3 (f_X4_writeLettersOfPad_L4 b K) (fuel + cz_pm pad len p + 1)) hl h7 (show p < len by omega) (hpad p (by omega)) k1 f1
  -- the way
  have q7 : M1.1 b 7 = nI len := by rw [(e1.1 b (by omega)).1]; exact h7
  have qpad : ∀ k, k < len → M1.1 (b + 118) k = nI (pad k) := fun k hk => by rw [(e1.1 _ (by omega)).1]; exact hpad k hk
  have qp7 : M1.1 (b + 1) 7 = nI (n + 1) := by rw [gp, pk_us]
  have qrr : cz_rr M1 (b + 1 + 5 + (48 + 2 * cz_pr pad p)) (R (cz_pr pad p)) := cz_rr_fr e1 (by omega) (by omega) (p6 _ hr)
  obtain ⟨M2, f2, s1, s2, s3, e2⟩ := c_send (M := M1) (p := b + 1) (r := cz_pr pad p) hn hr qp7 qrr hl40
  have st2 := c_wr_way (m := M1) (m' := M2) (some (b + 1 + 4 + (9 + n))) K (cz_it3 (f_X4_writeLettersOfPad_L4 b K) (fuel + cz_pm pad len p)) hl q7 (show p + 1 < len by omega) (qpad _ (by omega)) k2 f2
  -- the words
  have u7 : M2.1 b 7 = nI len := by rw [(e2.1 b (by omega)).1]; exact q7
  have upad : ∀ k, k < len → M2.1 (b + 118) k = nI (pad k) := fun k hk => by rw [(e2.1 _ (by omega)).1]; exact qpad k hk
  obtain ⟨M3, f3, w1, w2, e3⟩ := c_words_r (b := b) (q := b + 1 + 4 + (9 + n)) K hl hp h3 (c_kb1 hn) (by omega) (by omega) fuel (cz_pm pad len p) 0 M2 (by omega) u7 upad (by rw [s1, pk_un (by decide)]; exact g3) (by rw [s2]; exact gw)
  have erun : cz_it3 (f_X4_writeLettersOfPad_L4 b K) (fuel + cz_rt pad len p) x1 (nI p) M = cz_it3 (f_X4_writeLettersOfPad_L4 b K) fuel (some (b + 1 + 4 + (9 + n))) (nI (p + cz_rt pad len p)) M3 := by
    have ep : cz_rt pad len p = cz_pm pad len p + 1 + 1 := by unfold cz_pm; omega
    have e0 : fuel + cz_rt pad len p = fuel + cz_pm pad len p + 1 + 1 := by omega
    rw [e0]
    refine st1.trans (st2.trans (f3.trans ?_))
    rw [show p + 2 + 0 + cz_pm pad len p = p + cz_rt pad len p by omega]
  have e123 : cz_fr (fun x => x = b + 1 ∨ x = b + 1 + 4 + (9 + n) ∨ x = b + 1 + 5 + (48 + 2 * cz_pr pad p) ∨ x = b + 1 + 5 + (48 + 2 * cz_pr pad p) + 1) M M3 := ((e1.mono (fun x hx => by omega)).tr (e2.mono (fun x hx => by omega))).tr (e3.mono (fun x hx => by omega))
  refine ⟨M3, _, erun, ?_, e123.mono (fun x hx => by omega)⟩
  -- the state
  have hf := fun f (h : f < 11) => cz_wr_f (s := s) (n := n) (t := cz_pt pad p) (m := cz_pm pad len p) (u := cz_hr (cz_pw pad p) (min (cz_pm pad len p) 4) 0) (v := cz_hr (cz_pw pad p) (cz_pm pad len p - 4) 4) hr hl40 f h
  have ho := fun j => cz_wr_o (s := s) (n := n) (t := cz_pt pad p) (r := cz_pr pad p) (m := cz_pm pad len p) (u := cz_hr (cz_pw pad p) (min (cz_pm pad len p) 4) 0) (v := cz_hr (cz_pw pad p) (cz_pm pad len p - 4) 4) (l := (R (cz_pr pad p)).length) (j := j)
  have hdg := cz_dig_wr (n := n) (t := cz_pt pad p) (l := (R (cz_pr pad p)).length) (s := s) hr hl40 hp h3
  have mp : M3.1 (b + 1) = upd (M.1 (b + 1)) 7 (nI (n + 1)) := by rw [(e3.1 _ (by omega)).1, (e2.1 _ (by omega)).1, gp]
  show cz_rp M3 (b + 1) (cz_wr s n (cz_pt pad p) (cz_pr pad p) (cz_pm pad len p) (cz_hr (cz_pw pad p) (min (cz_pm pad len p) 4) 0) (cz_hr (cz_pw pad p) (cz_pm pad len p - 4) 4) (R (cz_pr pad p)).length) (n + 1) (cz_Ra R (cz_pr pad p) n)
  refine ⟨fun k hk => ?_, ⟨?_, ?_⟩, fun k hk => ?_, fun c hc f hf => ?_, fun x hx => ?_, fun i hi => ?_⟩
  · rw [(e123.1 _ (by omega)).1, ho _ (by omega) (by omega) (by omega) (by omega)]; exact p1 k hk
  · rw [mp, pk_un (by decide), ho _ (by omega) (by omega) (by omega) (by omega)]; exact p2
  · rw [mp, pk_us, cz_wr_4]
  · rw [(e123.1 _ (by omega)).1, ho _ (by omega) (by omega) (by omega) (by omega)]; exact p4 k hk
  · rw [(e123.1 _ (by omega)).1, ho _ (by omega) (by omega) (by omega) (by omega)]; exact p5 c hc f hf
  · by_cases hxr : x = cz_pr pad p
    · rw [hxr, cz_Ra_e]
      exact cz_rr_fr e3 (by omega) (by omega) s3
    · rw [cz_Ra_n hxr]
      exact cz_rr_fr e123 (by omega) (by omega) (p6 x hx)
  · by_cases hin : i = n
    · subst hin
      have hf0 := hf 0 (by decide)
      rw [Nat.add_zero] at hf0
      have em : ∀ k, k ≠ 1 → k ≠ 3 → M3.1 (b + 1 + 4 + (9 + i)) k = M1.1 (b + 1 + 4 + (9 + i)) k := fun k h1 h3 => by rw [w1, pk_un h3, s1, pk_un h1]
      unfold cz_rl
      rw [hf0, hf 1 (by decide), hf 2 (by decide), hf 3 (by decide), hf 4 (by decide), hf 5 (by decide), hf 6 (by decide), hf 7 (by decide), hf 8 (by decide), em 0 (by decide) (by decide), em 4 (by decide) (by decide), em 5 (by decide) (by decide), em 7 (by decide) (by decide), em 8 (by decide) (by decide), em 9 (by decide) (by decide)]
      refine ⟨g0, ?_, ?_, g4.trans p2, g5, fun z => absurd (show nI 0 = nI 1 from z) (by decide), fun z => absurd (show nI 0 = nI 3 from z) (by decide), g7, g8, g9, ?_⟩
      · rw [w1, pk_un (by decide), s1, pk_us]; rfl
      · rw [w1, pk_us, Nat.zero_add]; rfl
      · rw [w2, Nat.zero_add, cz_no_e (hf 8 (by decide)) (by omega)]
        congr 1
        refine cz_wN_congr (fun k hk => ?_)
        show 97 + cz_pw pad p k = 97 + cz_dig _ i k
        rw [hdg k hk]
    · refine cz_rl_c (e123.1 _ (by omega)).1 (e123.1 _ (by omega)).2 (fun f hf => ho _ (by omega) (by omega) (by omega) (by omega)) (ho 3 (by omega) (by omega) (by omega) (by omega)) (cz_ok_lw ok i (by omega)) (p7 i (by omega))
theorem cz_lS_ok {pad : Nat → Nat} {len : Nat} : ∀ (K p : Nat) (A : cz_S), cz_vl pad len K p → p ≤ len → cz_sok A → A.2.1 + K ≤ 40 → cz_sok (cz_lS pad len K p A)
  | 0, _, _, _, _, h, _ => h
  | K + 1, p, A, hv, hp, h, hn => by
    obtain ⟨h3, hv⟩ := hv
    have h1 := cz_ls_ok (pad := pad) h (by omega) hp h3
    rw [cz_lS]
    rcases hv with ⟨-, rfl⟩ | ⟨hlt, -, hv⟩
    · exact h1
    · exact cz_lS_ok K _ _ hv (by omega) h1 (by have e1 : (cz_ls pad len p A).2.1 = A.2.1 + 1 := rfl; omega)
theorem c_lettersW {b len : Nat} {pad : Nat → Nat} (hl : len ≤ 60) :
    ∀ (K p : Nat) (M : cz_M) (A : cz_S) (x1 : Option Nat) (fuel : Nat), cz_vl pad len K p → p ≤ len → len - p < fuel → cz_sok A → A.2.1 + K ≤ 40 → M.1 b 7 = nI len → (∀ k, k < len → M.1 (b + 118) k = nI (pad k)) → cz_srp M (b + 1) A →
      ∃ M', cz_it3 (f_X4_writeLettersOfPad_L4 b (fun x31 x32 M33 => some M33)) fuel x1 (nI p) M = some M' ∧ cz_srp M' (b + 1) (cz_lS pad len K p A) ∧ cz_fr (fun x => b + 1 ≤ x ∧ x < b + 1 + 57) M M'
  | 0, _, _, _, _, _, hv, _, _, _, _, _, _, _ => absurd hv (fun z => z)
  | K + 1, p, M, A, x1, fuel, hv, hp, hf, h, hn, h7, hpad, rp => by
    obtain ⟨h3, hv⟩ := hv
    have hle := cz_rt_le (pad := pad) hp
    obtain ⟨f0, rfl⟩ : ∃ f0, fuel = f0 + 1 + cz_rt pad len p := ⟨fuel - 1 - cz_rt pad len p, by omega⟩
    obtain ⟨M1, q, f1, g1, e1⟩ := c_letterW x1 (fun x31 x32 M33 => some M33) hl hp h3 h (by omega) h7 hpad rp (f0 + 1)
    rw [f1, cz_lS]
    have h7' : M1.1 b 7 = nI len := by rw [(e1.1 b (by omega)).1]; exact h7
    have hpad' : ∀ k, k < len → M1.1 (b + 118) k = nI (pad k) := fun k hk => by rw [(e1.1 _ (by omega)).1]; exact hpad k hk
    rcases hv with ⟨hend, rfl⟩ | ⟨hlt, h44, hv⟩
    · refine ⟨M1, ?_, g1, e1⟩
      show f_X4_writeLettersOfPad_L4 b (fun x31 x32 M33 => some M33) (cz_it3 (f_X4_writeLettersOfPad_L4 b (fun x31 x32 M33 => some M33)) f0) (some q) (nI (p + cz_rt pad len p)) M1 = _
      rw [f_X4_writeLettersOfPad_L4, h7', if_pos (nI_le (by omega) (by omega))]
    · have st := c_wr_comma (m := M1) (some q) (fun x31 x32 M33 => some M33) (cz_it3 (f_X4_writeLettersOfPad_L4 b (fun x31 x32 M33 => some M33)) f0) hl h7' hlt (by rw [hpad' _ hlt, h44])
      obtain ⟨M2, f2, g2, e2⟩ := c_lettersW hl K (p + cz_rt pad len p + 1) M1 (cz_ls pad len p A) (some q) f0 hv (by omega) (by omega) (cz_ls_ok h (by omega) hp h3) (by have e1 : (cz_ls pad len p A).2.1 = A.2.1 + 1 := rfl; omega) h7' hpad' g1
      exact ⟨M2, st.trans f2, g2, e1.tr e2⟩
/-! how many letters the pad holds -/
theorem c_skip {M : cz_M} {b len : Nat} {pad : Nat → Nat} (K : Int32 → Int32 → Option Int32) (hl : len ≤ 60) (h7 : M.1 b 7 = nI len) (hpad : ∀ k, k < len → M.1 (b + 118) k = nI (pad k)) (hc : ∀ k, k < len → pad k < 128) (x : Int32) (fuel : Nat) :
    ∀ (e k : Nat), k + e ≤ len → (∀ i, k ≤ i → i < k + e → pad i ≠ 44) → cz_it2 (f_X4_lettersOfPad_L4 b M K) (fuel + e) x (nI k) = cz_it2 (f_X4_lettersOfPad_L4 b M K) fuel x (nI (k + e))
  | 0, _, _, _ => rfl
  | e + 1, k, he, hn => by
    have ih := c_skip K hl h7 hpad hc x fuel e (k + 1) (by omega) (fun i i1 i2 => hn i (by omega) (by omega))
    have hck := hc k (by omega)
    have hne : ¬ nI (pad k) = nI 44 := fun z => hn k (Nat.le_refl _) (by omega) (cz_nI_inj (by omega) (by omega) z)
    show f_X4_lettersOfPad_L4 b M K (cz_it2 (f_X4_lettersOfPad_L4 b M K) (fuel + e)) x (nI k) = _
    rw [f_X4_lettersOfPad_L4, h7, if_neg (nI_ge (by omega) (by omega)), cz_gdn (by omega) (by decide), cz_cl (by omega), hpad k (by omega), if_neg hne, cz_lt_e, nI_add, ih, show k + 1 + e = k + (e + 1) by omega]
theorem c_many {M : cz_M} {b len : Nat} {pad : Nat → Nat} (hl : len ≤ 60) (h7 : M.1 b 7 = nI len) (hpad : ∀ k, k < len → M.1 (b + 118) k = nI (pad k)) (hc : ∀ k, k < len → pad k < 128) :
    ∀ (K p x fuel : Nat), cz_vl pad len K p → p ≤ len → len - p < fuel → cz_it2 (f_X4_lettersOfPad_L4 b M (fun x10 x11 => some x10)) fuel (nI (x + 1)) (nI p) = some (nI (x + K))
  | 0, _, _, _, hv, _, _ => absurd hv (fun z => z)
  | K + 1, p, x, fuel, hv, hp, hf => by
    obtain ⟨h3, hv⟩ := hv
    obtain ⟨k1, k2, k3, k4, k5⟩ := cz_rt_ch hp h3
    obtain ⟨f0, rfl⟩ : ∃ f0, fuel = f0 + 1 + cz_rt pad len p := ⟨fuel - 1 - cz_rt pad len p, by omega⟩
    rw [c_skip (fun x10 x11 => some x10) hl h7 hpad hc (nI (x + 1)) (f0 + 1) (cz_rt pad len p) p k4 (fun i i1 i2 => by
      by_cases e0 : i = p
      · subst e0; omega
      · by_cases e1 : i = p + 1
        · subst e1; omega
        · have := k3 (i - p) (by omega) (by omega)
          rw [show p + (i - p) = i by omega] at this
          omega)]
    show f_X4_lettersOfPad_L4 b M (fun x10 x11 => some x10) (cz_it2 (f_X4_lettersOfPad_L4 b M (fun x10 x11 => some x10)) f0) (nI (x + 1)) (nI (p + cz_rt pad len p)) = _
    rcases hv with ⟨hend, rfl⟩ | ⟨hlt, h44, hv⟩
    · rw [f_X4_lettersOfPad_L4, h7, if_pos (nI_le (by omega) (by omega))]
    · rw [f_X4_lettersOfPad_L4, h7, if_neg (nI_ge hlt (by omega)), cz_gdn (by omega) (by decide), cz_cl (by omega), hpad _ hlt, if_pos (by rw [h44]), cz_lt_e, cz_lt_e, nI_add, nI_add]
      have ih := c_many hl h7 hpad hc K (p + cz_rt pad len p + 1) (x + 1) f0 hv (by omega) (by omega)
      rw [ih]
      congr 2
      omega
theorem c_lettersOfPad {M : cz_M} {b len K : Nat} {pad : Nat → Nat} (hl : len ≤ 60) (h7 : M.1 b 7 = nI len) (hpad : ∀ k, k < len → M.1 (b + 118) k = nI (pad k)) (hc : ∀ k, k < len → pad k < 128) (hv : cz_vl pad len K 0) : f_X4_lettersOfPad M b = some (nI K) := by
  rw [f_X4_lettersOfPad]
  have h := c_many hl h7 hpad hc K 0 0 4096 hv (Nat.zero_le _) (by omega)
  rw [Nat.zero_add, Nat.zero_add] at h
  exact h
