/-! what if: trials, and back -/
theorem m_putBack (M : cz_M) (a : Nat) : ∃ M', f_X5_putBack M a = some M' ∧ (∀ k, k < 551 → M'.1 (a + 1) k = M.1 (a + 2) k) ∧ cz_fr (fun x => x = a + 1) M M' := by
  obtain ⟨s', hI, h⟩ := cz_for2 (F := f_X5_putBack_L2 a (fun x7 M8 => some M8)) (fun k (s : cz_M) => (∀ j, j < k → s.1 (a + 1) j = M.1 (a + 2) j) ∧ cz_fr (fun x => x = a + 1) M s) (fun s => some s) 551
    (fun k s hk hI => by
      refine ⟨cz_mI s (a + 1) k (s.1 (a + 2) k), fun rec => ?_, fun j hj => ?_, hI.2.tr (cz_fr.mI rfl)⟩
      · rw [f_X5_putBack_L2]
        simp only [cz_lt_e]
        rw [if_neg (nI_ge hk (by decide)), cz_gdn hk (by decide), cz_gdn hk (by decide), cz_cl (by omega), nI_add]
      · rw [cz_mI_1]
        by_cases h : j = k
        · subst h
          rw [if_pos ⟨rfl, rfl⟩, (hI.2.1 (a + 2) (by omega)).1]
        · rw [if_neg (by omega)]
          exact hI.1 j (by omega))
    (fun s hI rec => by
      rw [f_X5_putBack_L2, if_pos (nI_le (Nat.le_refl _) (by decide))]) 551 0 M 4096 rfl (by decide) ⟨fun j hj => by omega, cz_fr.rf⟩
  exact ⟨s', h, hI⟩
theorem cz_trial {b : Nat} {M M' : cz_M} {D : Nat → Prop} {now : cz_S} {hist : Nat → cz_S} {pc : Nat} {slot : Nat → cz_S} {used pad : Nat → Nat} {len : Nat} (wf : cz_wq now hist pc slot used pad len) (cv : cz_cv b M now hist pc slot used pad len) (rv : cz_rv (b + 461) M now hist pc slot used pad len) (h : cz_fr D M M') (hD : ∀ x, D x → (b + 58 ≤ x ∧ x < b + 115) ∨ x = b + 461 + 1 ∨ x = b + 461 + 2 ∨ x = b + 461 + 7 ∨ x = b + 461 + 8 ∨ x = b + 461 + 9) (hs : ∀ k, k < 551 → M'.1 (b + 461 + 1) k = now.1 k) (hf : cz_fg M' (b + 461)) : cz_iv b M' := by
  have cv1 := cz_cv_w h (fun x hx => by have := hD x hx; omega) wf cv
  have hx : ∀ x, (x = b + 461 ∨ x = b + 461 + 3 ∨ x = b + 461 + 4 ∨ x = b + 461 + 5 ∨ x = b + 461 + 6) → M'.1 x = M.1 x := fun x hx => (h.1 x (fun z => by have := hD x z; omega)).1
  obtain ⟨v1, v2, v3, v4, v5, v6, v7⟩ := rv
  refine ⟨(M'.1 (b + 461 + 1), now.2), hist, pc, slot, used, pad, len, ⟨⟨cz_ok_551 hs wf.1.1, wf.1.2⟩, wf.2⟩, ⟨cz_rp_551 hs wf.1.1 cv1.1, cv1.2⟩, ⟨rfl, ?_, ?_, ?_, ?_, ?_, hf⟩⟩
  · rw [hx _ (by omega)]; exact v2
  · rw [hx _ (by omega)]; exact v3
  · rw [hx _ (by omega), hx _ (by omega)]; exact v4
  · rw [hx _ (by omega)]; exact v5
  · rw [hx _ (by omega)]; exact v6
theorem c_hasLetter {M : cz_M} {p n : Nat} {x : Int32} (h7 : M.1 p 7 = nI n) : (∀ i, i < n → n ≤ 40 → x = nI i → f_X2_hasLetter M p x = some (nI 1)) ∧ ((x < 0 ∨ nI n ≤ x) → f_X2_hasLetter M p x = some (nI 0)) := by
  refine ⟨fun i hi hn hx => ?_, fun hx => ?_⟩
  · subst hx
    rw [f_X2_hasLetter, if_neg (nI_nlt (Nat.zero_le _) (by omega)), h7, if_neg (nI_ge hi (by omega))]
  · rw [f_X2_hasLetter, h7]
    by_cases h0 : x < nI 0
    · rw [if_pos h0]
    · rw [if_neg h0]
      rcases hx with hx | hx
      · exact absurd (by rw [cz_l0] at hx; exact hx) h0
      · rw [if_pos hx]
/-- how far a loop goes -/
def cz_un (f : Nat → Bool) : Nat → Nat → Nat
  | 0, k => k
  | d + 1, k => if f k = true then cz_un f d (k + 1) else k
theorem cz_wh {A R : Type} {F : (Int32 → A → Option R) → Int32 → A → Option R} (I : Nat → A → Prop) (r : Int32 → A → Option R) (f : Nat → Bool) (N : Nat)
    (hs : ∀ k m, k < N → I k m → f k = true → ∃ m', (∀ rec, F rec (nI k) m = rec (nI (k + 1)) m') ∧ I (k + 1) m') (he : ∀ k m, k < N → I k m → ¬ f k = true → ∀ rec, F rec (nI k) m = r (nI k) m) (hN : ∀ m, I N m → ∀ rec, F rec (nI N) m = r (nI N) m) :
    ∀ (d k : Nat) (m : A) (fuel : Nat), k + d = N → d < fuel → I k m → ∃ m', I (cz_un f d k) m' ∧ cz_it2 F fuel (nI k) m = r (nI (cz_un f d k)) m' := by
  intro d
  induction d with
  | zero =>
    intro k m fuel hk hf hI
    obtain rfl : k = N := by omega
    obtain ⟨g, rfl⟩ : ∃ g, fuel = g + 1 := ⟨fuel - 1, by omega⟩
    exact ⟨m, hI, hN m hI _⟩
  | succ d ih =>
    intro k m fuel hk hf hI
    obtain ⟨g, rfl⟩ : ∃ g, fuel = g + 1 := ⟨fuel - 1, by omega⟩
    rw [cz_un]
    by_cases hfk : f k = true
    · rw [if_pos hfk]
      obtain ⟨m', h1, h2⟩ := hs k m (by omega) hI hfk
      obtain ⟨m'', h3, h4⟩ := ih (k + 1) m' g (by omega) (by omega) h2
      exact ⟨m'', h3, (h1 _).trans h4⟩
    · rw [if_neg hfk]
      exact ⟨m, hI, he k m (by omega) hI hfk _⟩
theorem cz_un_le (f : Nat → Bool) : ∀ d k, cz_un f d k ≤ k + d
  | 0, k => Nat.le_refl _
  | d + 1, k => by
    rw [cz_un]
    split
    · have := cz_un_le f d (k + 1); omega
    · omega
theorem o_untilCome (M : cz_M) (b : Nat) (x : Int32) (iv : cz_iv b M) : ∃ v M1 M2, f_X4_untilCome M b x = some (v, M1) ∧ f_X5_untilCome M1 (b + 461) x = some (v, M2) ∧ cz_iv b M2 := by
  obtain ⟨now, hist, pc, slot, used, pad, len, wf, cv, rv⟩ := id iv
  obtain ⟨s, n, W, R⟩ := now
  obtain ⟨ok, hW9⟩ := wf.1
  have ok : cz_ok s n W R := ok
  have hW9 : W ≤ 9999 := hW9
  have hn : n ≤ 40 := ok.1.1.1
  have hs4 : s 4 = nI n := ok.1.1.2.1
  have hv1 : M.1 (b + 461 + 1) = s := rv.1
  have h7 : M.1 (b + 1) 7 = nI n := cv.1.2.1.2.trans hs4
  have hL := m_isLetter (M := M) (a := b + 461) (n := n) (by rw [hv1]; exact hs4) hn x
  rcases hL with ⟨i, hi, rfl, hL⟩ | ⟨hout, hL⟩
  · obtain ⟨M6, f6, g6, e6⟩ := cz_sA (M := M) (a := b + 58) (a1 := b + 1) (by omega) wf.1 cv.1
    have g6 : cz_rp M6 (b + 58) s n R := g6
    -- the class
    obtain ⟨M7, ⟨g7, e7⟩, h7'⟩ := cz_wh (F := f_X4_untilCome_L36 b (b + 58 + 4 + (9 + i)) (fun x19 M20 => if (M20.1 (b + 58 + 4 + (9 + i)) 5) = (nI 1) then (some (x19, M20)) else (some ((-6 : Int32), M20)))) (fun k m => cz_rp m (b + 58) (cz_sk s n W R k).1 n (cz_sk s n W R k).2 ∧ cz_fr (fun x => b + 58 ≤ x ∧ x < b + 58 + 57) M m) (fun x m => if (m.1 (b + 58 + 4 + (9 + i)) 5) = (nI 1) then (some (x, m)) else (some ((-6 : Int32), m))) (fun k => decide ((cz_sk s n W R k).1 (111 + 11 * i + 2) = nI 0)) 100
      (fun k m hk ⟨i1, i2⟩ hf => by
        have okk := cz_ok_sk ok k (by omega)
        have hf := of_decide_eq_true hf
        obtain ⟨m2, a1, a2, a3⟩ := c_passWeek m (b + 58) okk i1
        refine ⟨m2, fun rec => ?_, a2, i2.tr a3⟩
        rw [f_X4_untilCome_L36, if_neg (nI_ge hk (by decide)), cz_rl5 okk hi (i1.2.2.2.2.2 i hi), if_pos hf, a1, cz_b2_s, cz_lt_e, nI_add])
      (fun k m hk ⟨i1, i2⟩ hf rec => by
        have okk := cz_ok_sk ok k (by omega)
        rw [f_X4_untilCome_L36, if_neg (nI_ge hk (by decide)), cz_rl5 okk hi (i1.2.2.2.2.2 i hi), if_neg (fun z => hf (decide_eq_true z))])
      (fun m hI rec => by rw [f_X4_untilCome_L36, if_pos (nI_le (Nat.le_refl _) (by decide))]) 100 0 M6 4096 (by omega) (by omega) ⟨g6, e6⟩
    generalize hK : cz_un (fun k => decide ((cz_sk s n W R k).1 (111 + 11 * i + 2) = nI 0)) 100 0 = K at g7 h7'
    have hK100 : K ≤ 100 := by rw [← hK]; exact cz_un_le _ 100 0
    have okK := cz_ok_sk ok K (by omega)
    rw [cz_rl5 okK hi (g7.2.2.2.2.2 i hi)] at h7'
    -- the reference
    have v7 : cz_fg M7 (b + 461) := cz_fg_fr e7 (by omega) (by omega) rv.2.2.2.2.2.2
    have s7 : M7.1 (b + 461 + 1) = s := by rw [(e7.1 _ (by omega)).1]; exact hv1
    have hL7 : f_X5_isLetter M7 (b + 461) (nI i) = some (nI 1) := by
      rcases m_isLetter (M := M7) (a := b + 461) (n := n) (by rw [s7]; exact hs4) hn (nI i) with ⟨_, _, _, hz⟩ | ⟨hz, _⟩
      · exact hz
      · rcases hz with hz | hz
        · exact absurd hz (nI_pos (by omega))
        · exact absurd hz (nI_ge hi (by omega))
    obtain ⟨M8, f8, g8, e8⟩ := m_putAside M7 (b + 461)
    have s8 : M8.1 (b + 461 + 1) = s := by rw [(e8.1 _ (by omega)).1]; exact s7
    obtain ⟨M9, ⟨g9, q9, e9⟩, h9⟩ := cz_wh (F := f_X5_untilCome_L16 (b + 461) (nI i) (fun x11 M12 => (f_X5_of M12 (b + 461) (nI i) (nI 2)).bind fun v13 => if v13 = (nI 1) then ((f_X5_putBack M12 (b + 461)).bind fun M17 => if (nI 1) = nI 0 then (some ((-6 : Int32), M17)) else (some (x11, M17))) else ((f_X5_putBack M12 (b + 461)).bind fun M15 => if (nI 0) = nI 0 then (some ((-6 : Int32), M15)) else (some (x11, M15))))) (fun k m => m.1 (b + 461 + 1) = (cz_sk s n W R k).1 ∧ cz_fg m (b + 461) ∧ cz_fr (fun x => x = b + 461 + 1 ∨ x = b + 461 + 7 ∨ x = b + 461 + 8 ∨ x = b + 461 + 9) M8 m) (fun x m => (f_X5_of m (b + 461) (nI i) (nI 2)).bind fun v13 => if v13 = (nI 1) then ((f_X5_putBack m (b + 461)).bind fun M17 => if (nI 1) = nI 0 then (some ((-6 : Int32), M17)) else (some (x, M17))) else ((f_X5_putBack m (b + 461)).bind fun M15 => if (nI 0) = nI 0 then (some ((-6 : Int32), M15)) else (some (x, M15)))) (fun k => decide ((cz_sk s n W R k).1 (111 + 11 * i + 2) = nI 0)) 100
      (fun k m hk ⟨i1, i2, i3⟩ hf => by
        have okk := cz_ok_sk ok k (by omega)
        have hf := of_decide_eq_true hf
        obtain ⟨m2, a1, a2, -, -, a5, a6, a7⟩ := m_week m (b + 461) (n := n) (W := W + k) (R := (cz_sk s n W R k).2) (by rw [i1]; exact okk) i2.1 i2.2
        rw [i1] at a2
        refine ⟨m2, fun rec => ?_, a2, ⟨a5, a6⟩, i3.tr a7⟩
        rw [f_X5_untilCome_L16, m_of m _ (by omega) (by decide), Option.bind_some, i1, if_pos hf, if_neg (nI_ge hk (by decide)), a1, cz_b2_s, cz_lt_e, nI_add])
      (fun k m hk ⟨i1, i2, i3⟩ hf rec => by
        rw [f_X5_untilCome_L16, m_of m _ (by omega) (by decide), Option.bind_some, i1, if_neg (fun z => hf (decide_eq_true z))])
      (fun m hI rec => by
        rw [f_X5_untilCome_L16, m_of m _ (by omega) (by decide), Option.bind_some, if_pos (nI_le (Nat.le_refl _) (by decide)), Option.bind_some]
        split <;> rfl) 100 0 M8 4096 (by omega) (by omega) ⟨s8, cz_fg_fr e8 (by omega) (by omega) v7, cz_fr.rf⟩
    rw [hK] at g9 h9
    obtain ⟨M10, f10, g10, e10⟩ := m_putBack M9 (b + 461)
    have hback : ∀ k, k < 551 → M10.1 (b + 461 + 1) k = s k := fun k hk => by
      rw [g10 k hk, (e9.1 (b + 461 + 2) (by omega)).1, g8 k hk, s7]
    have iv10 : cz_iv b M10 := by
      have e : cz_fr (fun x => (b + 58 ≤ x ∧ x < b + 115) ∨ x = b + 461 + 1 ∨ x = b + 461 + 2 ∨ x = b + 461 + 7 ∨ x = b + 461 + 8 ∨ x = b + 461 + 9) M M10 := (((e7.mono (fun x hx => by omega)).tr (e8.mono (fun x hx => by omega))).tr (e9.mono (fun x hx => by omega))).tr (e10.mono (fun x hx => by omega))
      exact cz_trial wf cv rv e (fun x hx => hx) hback (cz_fg_fr e10 (by omega) (by omega) q9)
    have hX4 : f_X4_untilCome M b (nI i) = if (cz_sk s n W R K).1 (111 + 11 * i + 2) = nI 1 then some (nI K, M7) else some ((-6 : Int32), M7) := by
      rw [f_X4_untilCome, (c_hasLetter h7).1 i hi hn rfl, Option.bind_some, if_neg (by decide), f6, Option.bind_some, cz_gdn (by omega) (by decide), cz_lt_e, cz_cl (by omega)]
      exact h7'
    have hX5 : f_X5_untilCome M7 (b + 461) (nI i) = if (cz_sk s n W R K).1 (111 + 11 * i + 2) = nI 1 then some (nI K, M10) else some ((-6 : Int32), M10) := by
      rw [f_X5_untilCome, hL7, Option.bind_some, if_neg (by decide), f8, Option.bind_some]
      refine h9.trans ?_
      rw [m_of M9 _ (by omega) (by decide), Option.bind_some, g9, f10, Option.bind_some, Option.bind_some, if_neg (show nI 1 ≠ nI 0 by decide), if_pos rfl]
    by_cases h1 : (cz_sk s n W R K).1 (111 + 11 * i + 2) = nI 1
    · exact ⟨nI K, M7, M10, by rw [hX4, if_pos h1], by rw [hX5, if_pos h1], iv10⟩
    · exact ⟨_, M7, M10, by rw [hX4, if_neg h1], by rw [hX5, if_neg h1], iv10⟩
  · refine ⟨_, M, M, by rw [f_X4_untilCome, (c_hasLetter h7).2 hout, Option.bind_some, if_pos rfl], by rw [f_X5_untilCome, hL, Option.bind_some, if_pos rfl], iv⟩
