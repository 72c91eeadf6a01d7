theorem cz_in1 {x : Int32} : (∃ i, i < 2 ∧ x = nI i ∧ f_X5_in x (nI 0) (nI 1) = some (nI 1)) ∨ ((x < nI 0 ∨ (¬ x < nI 0 ∧ ¬ x < nI 2)) ∧ f_X5_in x (nI 0) (nI 1) = some (nI 0)) := by
  rcases cz_rng x 2 (by decide) with ⟨k, hk, rfl⟩ | h | h
  · left
    refine ⟨k, hk, rfl, ?_⟩
    rw [m_inN (by omega) (by decide) (by decide), if_pos (by omega)]
  · right
    exact ⟨Or.inl (by rw [cz_l0] at h; exact h), m_in_out (by decide) (Or.inl h)⟩
  · right
    refine ⟨Or.inr ⟨fun z => ?_, fun z => cz_lt_not z h⟩, m_in_out (by decide) (Or.inr h)⟩
    rw [Int32.lt_iff_toInt_lt] at z
    rw [Int32.le_iff_toInt_le] at h
    have e3 : (nI 2).toInt = 2 := by decide
    have e0 : (nI 0).toInt = 0 := by decide
    omega
