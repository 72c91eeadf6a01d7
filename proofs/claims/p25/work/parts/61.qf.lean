/-! loops whose continuation is free -/
theorem cz_for4 {A B C R : Type} {F : (A → B → Int32 → C → Option R) → (A → B → Int32 → C → Option R) → A → B → Int32 → C → Option R} (I : Nat → A → B → C → Prop) (N : Nat)
    (hs : ∀ k a b c, k < N → I k a b c → ∃ a' b' c', (∀ K rec, F K rec a b (nI k) c = rec a' b' (nI (k + 1)) c') ∧ I (k + 1) a' b' c') (he : ∀ a b c, I N a b c → ∀ K rec, F K rec a b (nI N) c = K a b (nI N) c) :
    ∀ (d k : Nat) (a : A) (b : B) (c : C) (fuel : Nat), k + d = N → d < fuel → I k a b c → ∃ a' b' c', I N a' b' c' ∧ ∀ K, cz_it4 (F K) fuel a b (nI k) c = K a' b' (nI N) c' := by
  intro d
  induction d with
  | zero =>
    intro k a b c fuel hk hf hI
    obtain rfl : k = N := by omega
    obtain ⟨f, rfl⟩ : ∃ f, fuel = f + 1 := ⟨fuel - 1, by omega⟩
    exact ⟨a, b, c, hI, fun K => he a b c hI K _⟩
  | succ d ih =>
    intro k a b c fuel hk hf hI
    obtain ⟨f, rfl⟩ : ∃ f, fuel = f + 1 := ⟨fuel - 1, by omega⟩
    obtain ⟨a', b', c', h1, h2⟩ := hs k a b c (by omega) hI
    obtain ⟨a'', b'', c'', h3, h4⟩ := ih (k + 1) a' b' c' f (by omega) (by omega) h2
    exact ⟨a'', b'', c'', h3, fun K => (h1 K _).trans (h4 K)⟩
/-! a trade of shifts, as a state -/
def cz_tr (s : Nat → Int32) (i j : Nat) : Nat → Int32 := upd (upd s (5 + i) (s (5 + j))) (5 + j) (s (5 + i))
theorem cz_tr_o {s : Nat → Int32} {i j k : Nat} (hi : i < 8) (hj : j < 8) (hk : k < 5 ∨ 13 ≤ k) : cz_tr s i j k = s k := by
  unfold cz_tr
  rw [pk_un (by omega), pk_un (by omega)]
theorem cz_tr_r {s : Nat → Int32} {i j k : Nat} : cz_tr s i j (5 + k) = if k = j then s (5 + i) else if k = i then s (5 + j) else s (5 + k) := by
  unfold cz_tr
  by_cases h1 : k = j
  · subst h1; rw [if_pos rfl, pk_us]
  · rw [if_neg h1, pk_un (by omega)]
    by_cases h2 : k = i
    · subst h2; rw [if_pos rfl, pk_us]
    · rw [if_neg h2, pk_un (by omega)]
theorem cz_tr_id {s : Nat → Int32} {i j : Nat} (h : s (5 + i) = s (5 + j)) : cz_tr s i j = s := by
  funext k
  unfold cz_tr
  by_cases h1 : k = 5 + j
  · subst h1; rw [pk_us, h]
  · rw [pk_un h1]
    by_cases h2 : k = 5 + i
    · subst h2; rw [pk_us, h]
    · rw [pk_un h2]
theorem cz_ok_tr {s : Nat → Int32} {n W i j : Nat} {R : Nat → List Nat} (hi : i < 8) (hj : j < 8) (ok : cz_ok s n W R) : cz_ok (cz_tr s i j) n W R := by
  refine cz_ok_gs (fun k hk => cz_tr_o hi hj (by omega)) ?_ (fun k hk => ?_) (fun c hc => ?_) ok
  · rw [cz_tr_o hi hj (by omega), cz_tr_o hi hj (by omega), cz_tr_o hi hj (by omega)]; exact ok.1.2.1
  · rw [cz_tr_r]
    split
    · exact ok.1.2.2.1 i hi
    · split
      · exact ok.1.2.2.1 j hj
      · exact ok.1.2.2.1 k hk
  · rw [cz_tr_o hi hj (by omega)]; exact ok.1.2.2.2.1 c hc
theorem c_trade {M : cz_M} {p n W i j : Nat} {s : Nat → Int32} {R : Nat → List Nat} (hi : i < 8) (hj : j < 8) (hij : i ≠ j) (ok : cz_ok s n W R) (rp : cz_rp M p s n R) : ∃ M', f_X2_tradeShifts M p (nI i) (nI j) = some M' ∧ cz_rp M' p (cz_tr s i j) n R ∧ cz_fr (fun x => p ≤ x ∧ x < p + 57) M M' := by
  have hri : M.1 (p + 3) i = s (5 + i) := rp.2.2.1 i hi
  have hrj : M.1 (p + 3) j = s (5 + j) := rp.2.2.1 j hj
  have d3 : p ≤ p + 3 ∧ p + 3 < p + 57 := by omega
  refine ⟨cz_mI (cz_mI M (p + 3) i (s (5 + j))) (p + 3) j (s (5 + i)), ?_, ?_, (cz_fr.mI (D := fun x => p ≤ x ∧ x < p + 57) d3).tr (cz_fr.mI d3)⟩
  · rw [f_X2_tradeShifts, cz_gdn hi (by decide), cz_cl (show i < 2 ^ 31 by omega), cz_cl (show j < 2 ^ 31 by omega), cz_lt_e, cz_gdn hj (by decide), cz_gdn hi (by decide), cz_lt_e, cz_gdn hj (by decide), cz_lt_e, hri, hrj]
  · refine cz_rp_g (M := M) (fun z hz => by rw [cz_mI_o (by omega), cz_mI_o (by omega)]) rfl (fun k hk => cz_tr_o hi hj (by omega)) (fun k hk => ?_) (fun k hk => ?_) (fun c hc f hf => ?_) (cz_ok_lw ok) rp
    · rw [cz_mI_o (by omega), cz_mI_o (by omega), cz_tr_o hi hj (by omega)]; exact rp.1 k hk
    · rw [cz_tr_r, cz_mI_s, cz_mI_s]
      by_cases h1 : k = j
      · subst h1; rw [if_pos rfl, pk_us]
      · rw [if_neg h1, pk_un h1]
        by_cases h2 : k = i
        · subst h2; rw [if_pos rfl, pk_us]
        · rw [if_neg h2, pk_un h2]; exact rp.2.2.1 k hk
    · rw [cz_mI_o (by omega), cz_mI_o (by omega), cz_tr_o hi hj (by omega)]; exact rp.2.2.2.1 c hc f hf
theorem cz_ct_le (s : Nat → Int32) (t : Nat) : ∀ n, cz_ct s t n ≤ n
  | 0 => Nat.le_refl _
  | n + 1 => by
    have := cz_ct_le s t n
    rw [cz_ct]
    split <;> omega
theorem cz_ck_le {s : Nat → Int32} {n W : Nat} {R : Nat → List Nat} (ok : cz_ok s n W R) {k : Nat} (h : W + k < 2 ^ 20) : cz_ck s n W R k ≤ 40 := by
  have h1 := cz_ct_sk ok k h
  have h2 := cz_ct_le (cz_sk s n W R k).1 1 n
  have := ok.1.1.1
  omega
/-! the search -/
def cz_bi (c : Nat → Nat → Nat) (i : Nat) : Nat → Nat × Int32 → Nat × Int32
  | 0, q => q
  | k + 1, q => if c i (i + 1 + k) ≤ (cz_bi c i k q).1 then cz_bi c i k q else (c i (i + 1 + k), nI (8 * i + (i + 1 + k)))
def cz_bo (c : Nat → Nat → Nat) : Nat → Nat × Int32 → Nat × Int32
  | 0, q => q
  | k + 1, q => cz_bi c k (7 - k) (cz_bo c k q)
theorem cz_bi_40 {c : Nat → Nat → Nat} {i : Nat} {q : Nat × Int32} (hc : ∀ j, i < j → j < 8 → c i j ≤ 40) (hq : q.1 ≤ 40) : ∀ k, i + 1 + k ≤ 8 → (cz_bi c i k q).1 ≤ 40
  | 0, _ => hq
  | k + 1, h => by
    have := cz_bi_40 hc hq k (by omega)
    rw [cz_bi]
    split
    · exact this
    · exact hc _ (by omega) (by omega)
theorem cz_bo_40 {c : Nat → Nat → Nat} {q : Nat × Int32} (hc : ∀ i j, i < j → j < 8 → c i j ≤ 40) (hq : q.1 ≤ 40) : ∀ k, k ≤ 8 → (cz_bo c k q).1 ≤ 40
  | 0, _ => hq
  | k + 1, h => cz_bi_40 (hc k) (cz_bo_40 hc hq k (by omega)) _ (by omega)
