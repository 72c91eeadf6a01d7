/-! the censors and the roster -/
def cz_sf (s : Nat → Int32) (c : Nat) : Nat → Nat
  | 0 => 0
  | k + 1 => cz_sf s c k + (if s (5 + k) = nI c then 1 else 0)
theorem c_shiftsOf {M : cz_M} {p c : Nat} {s : Nat → Int32} (h : ∀ k, k < 8 → M.1 (p + 3) k = s (5 + k)) : f_X2_shiftsOf M p (nI c) = some (nI (cz_sf s c 8)) := by
  rw [f_X2_shiftsOf]
  obtain ⟨x, hI, h⟩ := cz_for2b (F := f_X2_shiftsOf_L4 p (nI c) M (fun x10 x11 => some x10)) (fun k (x : Int32) => x = nI (cz_sf s c k)) (fun x => some x) 8
    (fun k x hk hI => by
      subst hI
      refine ⟨nI (cz_sf s c (k + 1)), fun rec => ?_, rfl⟩
      rw [f_X2_shiftsOf_L4, if_neg (nI_ge hk (by omega)), cz_gdn hk (by decide), cz_cl (by omega), h k hk, cz_sf]
      simp only [cz_lt_e, nI_add]
      split
      · rfl
      · rfl)
    (fun x hI rec => by rw [f_X2_shiftsOf_L4, if_pos (nI_le (Nat.le_refl _) (by omega))]) 8 0 (nI 0) 4096 (by omega) (by omega) rfl
  rw [h, hI]
