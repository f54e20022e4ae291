/-! AT THE START both are alike -/
theorem m0c {i j : Nat} (h : ¬ (i = 6 ∧ j = 5)) : M0C.1 i j = 0 := if_neg h
theorem m0r {i j : Nat} (h : ¬ (i = 0 ∧ j = 15)) (h2 : ¬ (i = 1 ∧ j < 4)) : M0R.1 i j = 0 := by
  show (if i = 0 ∧ j = 15 then (-1 : Int32) else if i = 1 ∧ j < 4 then -1 else 0) = 0
  rw [if_neg h, if_neg h2]
theorem rel0 : Rel M0C M0R := by
  refine ⟨⟨0, Nat.zero_le _, m0c (by omega), m0r (by omega) (by omega), fun i hi => absurd hi (Nat.not_lt_zero _)⟩, ⟨?_, rfl⟩, fun k hk => Or.inl ⟨?_, m0c (by omega)⟩, fun k hk => Or.inl ⟨m0c (by omega), m0r (by omega) (by omega)⟩, L0, okL0, ⟨fun i hi => m0c (by omega), ⟨m0c (by omega), ?_⟩, fun z hz => absurd hz (Nat.not_lt_zero _), fun p hp => absurd hp (Nat.not_lt_zero _), fun a ha => absurd ha (Nat.not_lt_zero _), fun z s hz hs => m0c (by omega)⟩, ⟨m0r (by omega) (by omega), fun i hi => m0r (by omega) (by omega), fun z hz => absurd hz (Nat.not_lt_zero _), fun p w hp => absurd hp (Nat.not_lt_zero _), fun a ha => absurd ha (Nat.not_lt_zero _)⟩, Or.inl (m0c (by omega))⟩
  · rw [m0c (by omega), m0r (by omega) (by omega)]
  · show (if 1 = 0 ∧ k = 15 then (-1 : Int32) else if 1 = 1 ∧ k < 4 then -1 else 0) = m1
    rw [if_neg (by omega), if_pos ⟨rfl, hk⟩]; rfl
  · rw [show (14 + 6) = 20 from rfl, m0c (by omega)]; rfl
