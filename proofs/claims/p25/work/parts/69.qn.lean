/-! texts: a letter that is written -/
theorem cz_rt_ch {pad : Nat → Nat} {len p : Nat} (hp : p ≤ len) (h3 : 3 ≤ cz_rt pad len p) : (48 ≤ pad p ∧ pad p ≤ 52) ∧ (pad (p + 1) = 62 ∨ pad (p + 1) = 60) ∧ (∀ i, 2 ≤ i → i < cz_rt pad len p → 97 ≤ pad (p + i) ∧ pad (p + i) ≤ 122) ∧ p + cz_rt pad len p ≤ len ∧ cz_rt pad len p ≤ 10 := by
  have hle := cz_rt_le (pad := pad) hp
  have h10 := cz_rt_10 pad len p
  have hnx : ∀ i, i < cz_rt pad len p → cz_nx pad len (p + i) = pad (p + i) := fun i hi => by
    unfold cz_nx
    rw [if_pos (by omega)]
  have e0 := hnx 0 (by omega)
  have e1 := hnx 1 (by omega)
  rw [Nat.add_zero] at e0
  have hr : cz_rt pad len p = if 48 ≤ cz_nx pad len p ∧ cz_nx pad len p ≤ 52 then (if cz_nx pad len (p + 1) = 62 ∨ cz_nx pad len (p + 1) = 60 then cz_un (cz_wd pad len p) 8 2 else 1) else 0 := rfl
  by_cases h1 : 48 ≤ cz_nx pad len p ∧ cz_nx pad len p ≤ 52
  · rw [if_pos h1] at hr
    by_cases h2 : cz_nx pad len (p + 1) = 62 ∨ cz_nx pad len (p + 1) = 60
    · rw [if_pos h2] at hr
      obtain ⟨u1, u2, u3, u4⟩ := cz_un_sp (cz_wd pad len p) 8 2
      rw [e0] at h1
      rw [e1] at h2
      refine ⟨h1, h2, fun i i1 i2 => ?_, hle, h10⟩
      have := of_decide_eq_true (u3 i i1 (by rw [← hr]; exact i2))
      rw [hnx i i2] at this
      exact this
    · rw [if_neg h2] at hr; omega
  · rw [if_neg h1] at hr; omega
/-- words as a number of digits -/
def cz_hr (w : Nat → Nat) : Nat → Nat → Nat
  | 0, _ => 0
  | d + 1, k => w k + 26 * cz_hr w d (k + 1)
theorem cz_hr_lt {w : Nat → Nat} : ∀ d k, (∀ i, k ≤ i → i < k + d → w i < 26) → cz_hr w d k < 26 ^ d
  | 0, k, _ => by rw [cz_hr]; decide
  | d + 1, k, h => by
    have h1 := cz_hr_lt d (k + 1) (fun i i1 i2 => h i (by omega) (by omega))
    have h2 := h k (Nat.le_refl _) (by omega)
    rw [cz_hr, Nat.pow_succ]
    omega
theorem cz_hr_dig {w : Nat → Nat} : ∀ d k i, (∀ i, k ≤ i → i < k + d → w i < 26) → i < d → cz_hr w d k / 26 ^ i % 26 = w (k + i)
  | 0, _, i, _, hi => by omega
  | d + 1, k, 0, h, _ => by
    have h2 := h k (Nat.le_refl _) (by omega)
    simp only [cz_hr, Nat.pow_zero, Nat.div_one, Nat.add_zero]
    omega
  | d + 1, k, i + 1, h, hi => by
    have h2 := h k (Nat.le_refl _) (by omega)
    have ih := cz_hr_dig d (k + 1) i (fun j j1 j2 => h j (by omega) (by omega)) (by omega)
    rw [cz_hr, Nat.pow_succ, Nat.mul_comm (26 ^ i) 26, ← Nat.div_div_eq_div_mul, show (w k + 26 * cz_hr w d (k + 1)) / 26 = cz_hr w d (k + 1) by omega, ih]
    congr 1
    omega
/-- the state behind a letter that was written -/
def cz_wr (s : Nat → Int32) (n t r m u v l : Nat) : Nat → Int32 := fun j => if j = 29 + r then nI (l + 1) else if j = 31 + 40 * r + l then nI n else if j = 4 then nI (n + 1) else if 111 + 11 * n ≤ j ∧ j < 111 + 11 * n + 11 then (if j = 111 + 11 * n then nI t else if j = 111 + 11 * n + 1 then nI r else if j = 111 + 11 * n + 3 then s 3 else if j = 111 + 11 * n + 4 then (-6 : Int32) else if j = 111 + 11 * n + 7 then (-6 : Int32) else if j = 111 + 11 * n + 8 then nI m else if j = 111 + 11 * n + 9 then nI u else if j = 111 + 11 * n + 10 then nI v else nI 0) else s j
theorem cz_wr_o {s : Nat → Int32} {n t r m u v l j : Nat} (h1 : j ≠ 29 + r) (h2 : j ≠ 31 + 40 * r + l) (h3 : j ≠ 4) (h4 : j < 111 + 11 * n ∨ 111 + 11 * n + 11 ≤ j) : cz_wr s n t r m u v l j = s j := by
  unfold cz_wr
  rw [if_neg h1, if_neg h2, if_neg h3, if_neg (by omega)]
theorem cz_wr_f {s : Nat → Int32} {n t r m u v l : Nat} (hr : r < 2) (hl : l < 40) (f : Nat) (hf : f < 11) : cz_wr s n t r m u v l (111 + 11 * n + f) = (if f = 0 then nI t else if f = 1 then nI r else if f = 3 then s 3 else if f = 4 then (-6 : Int32) else if f = 7 then (-6 : Int32) else if f = 8 then nI m else if f = 9 then nI u else if f = 10 then nI v else nI 0) := by
  unfold cz_wr
  rw [if_neg (by omega), if_neg (by omega), if_neg (by omega), if_pos (by omega)]
  have e : ∀ g, (111 + 11 * n + f = 111 + 11 * n + g) = (f = g) := fun g => propext ⟨fun z => by omega, fun z => by omega⟩
  have e0 : (111 + 11 * n + f = 111 + 11 * n) = (f = 0) := propext ⟨fun z => by omega, fun z => by omega⟩
  simp only [e, e0]
theorem cz_wr_r {s : Nat → Int32} {n t r m u v l : Nat} : cz_wr s n t r m u v l (29 + r) = nI (l + 1) := by
  unfold cz_wr
  rw [if_pos rfl]
theorem cz_wr_n {s : Nat → Int32} {n t r m u v l : Nat} (hr : r < 2) : cz_wr s n t r m u v l (31 + 40 * r + l) = nI n := by
  unfold cz_wr
  rw [if_neg (by omega), if_pos rfl]
theorem cz_wr_4 {s : Nat → Int32} {n t r m u v l : Nat} : cz_wr s n t r m u v l 4 = nI (n + 1) := by
  unfold cz_wr
  rw [if_neg (by omega), if_neg (by omega), if_pos rfl]
theorem cz_nodup_le : ∀ (n : Nat) (L : List Nat), L.Nodup → (∀ i ∈ L, i < n) → L.length ≤ n
  | 0, L, _, h => by
    cases L with
    | nil => exact Nat.le_refl _
    | cons a L => exact absurd (h a List.mem_cons_self) (by omega)
  | n + 1, L, hnd, h => by
    by_cases hn : n ∈ L
    · have h1 := cz_nodup_le n (L.erase n) (hnd.erase n) (fun i hi => by
        have h2 := (List.Nodup.mem_erase_iff hnd).mp hi
        have := h i h2.2
        omega)
      rw [List.length_erase_of_mem hn] at h1
      omega
    · have h1 := cz_nodup_le n L hnd (fun i hi => by
        have := h i hi
        by_cases hin : i = n
        · subst hin; exact absurd hi hn
        · omega)
      omega
def cz_Ra (R : Nat → List Nat) (r n : Nat) : Nat → List Nat := fun x => if x = r then R r ++ [n] else R x
theorem cz_Ra_e {R : Nat → List Nat} {r n : Nat} : cz_Ra R r n r = R r ++ [n] := if_pos rfl
theorem cz_Ra_n {R : Nat → List Nat} {r n x : Nat} (h : ¬ x = r) : cz_Ra R r n x = R x := if_neg h
theorem cz_ok_wr {s : Nat → Int32} {n W t r m u v : Nat} {R : Nat → List Nat} (ok : cz_ok s n W R) (hn : n < 40) (ht : t < 5) (hr : r < 2) (hm : 1 ≤ m) (hm8 : m ≤ 8) (hu : u < 2 ^ 31) (hv : v < 2 ^ 31) : cz_ok (cz_wr s n t r m u v (R r).length) (n + 1) W (cz_Ra R r n) := by
  obtain ⟨⟨⟨hn40, hs4, hW, hs3⟩, hset, hro, hst, hrw, hle, htc⟩, hno⟩ := ok
  obtain ⟨l1, l2, l3, l4, l5⟩ := hrw r hr
  have hln : (R r).length ≤ n := cz_nodup_le n (R r) l4 (fun i hi => (l5 i hi).1)
  have hl : (R r).length < 40 := by omega
  have hf := fun f (h : f < 11) => cz_wr_f (s := s) (n := n) (t := t) (m := m) (u := u) (v := v) hr hl f h
  have hf0 : cz_wr s n t r m u v (R r).length (111 + 11 * n) = nI t := hf 0 (by decide)
  have ho := fun j => cz_wr_o (s := s) (n := n) (t := t) (r := r) (m := m) (u := u) (v := v) (l := (R r).length) (j := j)
  have hoi : ∀ i f, i < n → f < 11 → cz_wr s n t r m u v (R r).length (111 + 11 * i + f) = s (111 + 11 * i + f) := fun i f hi hf => ho _ (by omega) (by omega) (by omega) (by omega)
  have hoi0 : ∀ i, i < n → cz_wr s n t r m u v (R r).length (111 + 11 * i) = s (111 + 11 * i) := fun i hi => hoi i 0 hi (by decide)
  refine ⟨⟨⟨by omega, cz_wr_4, hW, (ho 3 (by omega) (by omega) (by omega) (by omega)).trans hs3⟩, ?_, fun k hk => ?_, fun c hc => ?_, fun x hx => ?_, fun i hi => ?_, fun c hc => ?_⟩, fun i hi => ?_⟩
  · rw [ho 0 (by omega) (by omega) (by omega) (by omega), ho 1 (by omega) (by omega) (by omega) (by omega), ho 2 (by omega) (by omega) (by omega) (by omega)]; exact hset
  · rw [ho _ (by omega) (by omega) (by omega) (by omega)]; exact hro k hk
  · rw [ho _ (by omega) (by omega) (by omega) (by omega)]; exact hst c hc
  · by_cases hxr : x = r
    · subst hxr
      rw [cz_Ra_e]
      refine ⟨by rw [cz_wr_r, List.length_append, List.length_singleton], by rw [List.length_append, List.length_singleton]; omega, fun k hk => ?_, ?_, fun i hi => ?_⟩
      · rw [List.length_append, List.length_singleton] at hk
        by_cases hkl : k = (R x).length
        · subst hkl
          rw [cz_wr_n hr, List.getElem_append_right (Nat.le_refl _)]
          simp
        · rw [ho _ (by omega) (by omega) (by omega) (by omega), List.getElem_append_left (by omega)]
          exact l3 k (by omega)
      · refine List.nodup_append.mpr ⟨l4, by simp, fun i hi j hj => ?_⟩
        rw [List.mem_singleton] at hj
        have := (l5 i hi).1
        omega
      · rcases List.mem_append.mp hi with hi | hi
        · have h5 := l5 i hi
          exact ⟨by omega, (hoi i 1 h5.1 (by decide)).trans h5.2.1, (hoi i 2 h5.1 (by decide)).trans h5.2.2⟩
        · rw [List.mem_singleton] at hi
          subst hi
          exact ⟨by omega, hf 1 (by decide), hf 2 (by decide)⟩
    · rw [cz_Ra_n hxr]
      obtain ⟨k1, k2, k3, k4, k5⟩ := hrw x hx
      refine ⟨(ho _ (by omega) (by omega) (by omega) (by omega)).trans k1, k2, fun k hk => (ho _ (by omega) (by omega) (by omega) (by omega)).trans (k3 k hk), k4, fun i hi => ?_⟩
      have h5 := k5 i hi
      exact ⟨by omega, (hoi i 1 h5.1 (by decide)).trans h5.2.1, (hoi i 2 h5.1 (by decide)).trans h5.2.2⟩
  · by_cases hin : i = n
    · subst hin
      unfold cz_le cz_lw
      rw [hf0, hf 1 (by decide), hf 2 (by decide), hf 3 (by decide), hf 4 (by decide), hf 5 (by decide), hf 6 (by decide), hf 7 (by decide), hf 8 (by decide), hf 9 (by decide), hf 10 (by decide)]
      refine ⟨⟨⟨m, hm, hm8, rfl⟩, ⟨u, hu, rfl⟩, ⟨v, hv, rfl⟩⟩, ⟨t, ht, rfl⟩, ⟨r, hr, rfl, fun _ => ?_⟩, Or.inl rfl, ⟨W, Nat.le_refl _, hs3⟩, fun z => absurd (show nI 0 = nI 1 from z) (by decide), fun _ => rfl, ⟨0, by decide, rfl⟩, ⟨0, by decide, rfl, fun _ => by decide⟩, Or.inl rfl⟩
      rw [cz_Ra_e]
      exact List.mem_append_right _ (List.mem_singleton.mpr rfl)
    · have h := hle i (by omega)
      unfold cz_le cz_lw at h ⊢
      rw [hoi0 i (by omega), hoi i 1 (by omega) (by decide), hoi i 2 (by omega) (by decide), hoi i 3 (by omega) (by decide), hoi i 4 (by omega) (by decide), hoi i 5 (by omega) (by decide), hoi i 6 (by omega) (by decide), hoi i 7 (by omega) (by decide), hoi i 8 (by omega) (by decide), hoi i 9 (by omega) (by decide), hoi i 10 (by omega) (by decide)]
      obtain ⟨q1, q2, ⟨x, hx, q3, q4⟩, q5⟩ := h
      refine ⟨q1, q2, ⟨x, hx, q3, fun z => ?_⟩, q5⟩
      by_cases hxr : x = r
      · subst hxr
        rw [cz_Ra_e]
        exact List.mem_append_left _ (q4 z)
      · rw [cz_Ra_n hxr]; exact q4 z
  · rw [ho _ (by omega) (by omega) (by omega) (by omega)]; exact htc c hc
  · by_cases hin : i = n
    · subst hin; rw [hf 2 (by decide)]; exact (by decide : nI 0 ≠ nI 3)
    · rw [hoi i 2 (by omega) (by decide)]; exact hno i (by omega)
/-- a letter of the pad, as a step of the state -/
def cz_pt (pad : Nat → Nat) (p : Nat) : Nat := pad p - 48
def cz_pr (pad : Nat → Nat) (p : Nat) : Nat := if pad (p + 1) = 62 then 0 else 1
def cz_pw (pad : Nat → Nat) (p : Nat) : Nat → Nat := fun j => pad (p + 2 + j) - 97
def cz_pm (pad : Nat → Nat) (len p : Nat) : Nat := cz_rt pad len p - 2
def cz_ls (pad : Nat → Nat) (len p : Nat) (A : cz_S) : cz_S := (cz_wr A.1 A.2.1 (cz_pt pad p) (cz_pr pad p) (cz_pm pad len p) (cz_hr (cz_pw pad p) (min (cz_pm pad len p) 4) 0) (cz_hr (cz_pw pad p) (cz_pm pad len p - 4) 4) (A.2.2.2 (cz_pr pad p)).length, A.2.1 + 1, A.2.2.1, cz_Ra A.2.2.2 (cz_pr pad p) A.2.1)
def cz_lS (pad : Nat → Nat) (len : Nat) : Nat → Nat → cz_S → cz_S
  | 0, _, A => A
  | K + 1, p, A => cz_lS pad len K (p + cz_rt pad len p + 1) (cz_ls pad len p A)
theorem cz_pm_8 {pad : Nat → Nat} {len p : Nat} (h3 : 3 ≤ cz_rt pad len p) : 1 ≤ cz_pm pad len p ∧ cz_pm pad len p ≤ 8 := by
  have := cz_rt_10 pad len p
  unfold cz_pm
  omega
theorem cz_pr_2 (pad : Nat → Nat) (p : Nat) : cz_pr pad p < 2 := by
  unfold cz_pr
  split <;> decide
theorem cz_pw_26 {pad : Nat → Nat} {len p : Nat} (hp : p ≤ len) (h3 : 3 ≤ cz_rt pad len p) : ∀ i, i < cz_pm pad len p → cz_pw pad p i < 26 ∧ 97 + cz_pw pad p i = pad (p + 2 + i) := fun i hi => by
  have h := (cz_rt_ch hp h3).2.2.1 (2 + i) (by omega) (by unfold cz_pm at hi; omega)
  unfold cz_pw
  rw [← Nat.add_assoc] at h
  omega
theorem cz_ls_ok {pad : Nat → Nat} {len p : Nat} {A : cz_S} (h : cz_sok A) (hn : A.2.1 < 40) (hp : p ≤ len) (h3 : 3 ≤ cz_rt pad len p) : cz_sok (cz_ls pad len p A) := by
  obtain ⟨s, n, W, R⟩ := A
  obtain ⟨ok, hW⟩ := h
  have hn : n < 40 := hn
  obtain ⟨k1, k2, k3, k4, k5⟩ := cz_rt_ch hp h3
  obtain ⟨m1, m8⟩ := cz_pm_8 h3
  have hw := cz_pw_26 hp h3
  refine ⟨cz_ok_wr ok hn (by unfold cz_pt; omega) (cz_pr_2 pad p) m1 m8 ?_ ?_, hW⟩
  · have h1 := cz_hr_lt (w := cz_pw pad p) (min (cz_pm pad len p) 4) 0 (fun i _ i2 => (hw i (by omega)).1)
    exact Nat.lt_of_lt_of_le h1 (Nat.le_trans (Nat.pow_le_pow_right (by decide) (Nat.min_le_right _ _)) (by decide))
  · have h1 := cz_hr_lt (w := cz_pw pad p) (cz_pm pad len p - 4) 4 (fun i _ i2 => (hw i (by omega)).1)
    exact Nat.lt_of_lt_of_le h1 (Nat.le_trans (Nat.pow_le_pow_right (by decide) (show cz_pm pad len p - 4 ≤ 4 by omega)) (by decide))
