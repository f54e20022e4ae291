/-! WHETHER A ROW TELLS OF SKINS AT ALL -/
theorem pieceR64 {L : Lh} {M : Mem} (hL : OkL L) (hR : RpR 0 L M) (x : Int64) : f_X11_isPiece x M = some (if 0 ≤ x.toInt ∧ x.toInt < L.1 7 then 1 else 0) := by
  have g := hL.2.2.1
  unfold f_X11_isPiece
  rw [pieces0 hR, bnd_s, in_eq, dec1 (by omega), show (0 : Int64).toInt = 0 from rfl]
  by_cases h : 0 ≤ x.toInt ∧ x.toInt < L.1 7
  · rw [if_pos h, if_pos (by omega)]
  · rw [if_neg h, if_neg (by omega)]
theorem stepR64 {L : Lh} {M : Mem} (hL : OkL L) (h0 : 0 < L.1 0) (hR : RpR 0 L M) (x : Int64) : f_X11_isStep x M = some (if 0 ≤ x.toInt ∧ x.toInt ≤ L.1 1 then 1 else 0) := by
  have g := hL.2.2.1
  unfold f_X11_isStep
  rw [lehrR hL hR, bnd_s, if_pos h0, if_neg (by decide), steps0 hR, bnd_s, in_eq, Int32.toInt_toInt64, io_toInt (by omega), show (0 : Int64).toInt = 0 from rfl]
  by_cases h : 0 ≤ x.toInt ∧ x.toInt ≤ L.1 1
  · rw [if_pos h, if_neg (by decide)]
  · rw [if_neg h, if_pos rfl]
theorem tells {L : Lh} {Mc Mr : Mem} {k n : Nat} (hN : RelN L Mc Mr) (h0 : 0 < L.1 0) (hk : k < 4) (hn : 3 * n ≤ 60) (r2 : Mr.1 2 k = io (3 * n)) (c2 : Mc.1 (103 + 2 * k) 2 = io (3 * n)) (hv : ∀ i, i < 3 * n → Mc.2 (104 + 2 * k) i = Mr.2 3 (60 * k + i)) (p2 : Int32) : (lq1 (L_X7_tellsSkins_13 (103 + 2 * k) 14 Mc) FU 0 = some 0 ∧ lq1 (L_X11_whyNot_50 (io k) p2 Mr) FU 0 = some (-2)) ∨ (lq1 (L_X7_tellsSkins_13 (103 + 2 * k) 14 Mc) FU 0 = some 1 ∧ lq1 (L_X11_whyNot_50 (io k) p2 Mr) FU 0 = some 0 ∧ ∀ t, t < n → okT L (Mc.2 (104 + 2 * k)) t) := by
  have g := hN.1.2.2.1
  have z0 : (0 : Int64).toInt = 0 := rfl
  have z1 : (100000 : Int64).toInt = 100000 := rfl
  have m7 : Mc.1 14 7 = io (L.1 7) := hN.2.1.1 7 (by omega)
  have m1' : Mc.1 14 1 = io (L.1 1) := hN.2.1.1 1 (by omega)
  have sC : ∀ t, t < n → ∀ K, (okT L (Mc.2 (104 + 2 * k)) t → L_X7_tellsSkins_13 (103 + 2 * k) 14 Mc K (io (3 * t)) = K (io (3 * (t + 1)))) ∧ (¬ okT L (Mc.2 (104 + 2 * k)) t → L_X7_tellsSkins_13 (103 + 2 * k) 14 Mc K (io (3 * t)) = some 0) := by
    intro t ht K
    have e : L_X7_tellsSkins_13 (103 + 2 * k) 14 Mc K (io (3 * t)) = if (Mc.2 (104 + 2 * k) (3 * t)).toInt < 0 then some 0 else if (L.1 7 : Int) ≤ (Mc.2 (104 + 2 * k) (3 * t)).toInt then some 0 else if (Mc.2 (104 + 2 * k) (3 * t + 1)).toInt < 0 then some 0 else if (L.1 1 : Int) < (Mc.2 (104 + 2 * k) (3 * t + 1)).toInt then some 0 else if (Mc.2 (104 + 2 * k) (3 * t + 2)).toInt < 0 then some 0 else if (Mc.2 (104 + 2 * k) (3 * t + 2)).toInt ≤ 100000 then K (io (3 * (t + 1))) else some 0 := by
      unfold L_X7_tellsSkins_13
      rw [c2, show (2 : Int32) = io 2 from rfl, show (1 : Int32) = io 1 from rfl, show (3 : Int32) = io 3 from rfl, io_add, io_add, io_add, if_neg (by rw [io_le (by omega) (by omega)]; omega), oob_f (show 3 * t < 60 by omega) (by omega), oob_f (show 3 * t + 1 < 60 by omega) (by omega), oob_f (show 3 * t + 2 < 60 by omega) (by omega), ix_io (by omega), ix_io (by omega), ix_io (by omega), (slots_rc hk).2, m7, m1']
      simp only [Bool.false_eq_true, if_false, letv_eq, lg_cmp_lt, lg_cmp_ge, lg_cmp_gt, lg_cmp_le, Int64.lt_iff_toInt_lt, Int64.le_iff_toInt_le, Int32.toInt_toInt64, z0, z1]
      rw [io_toInt (by omega), io_toInt (by omega)]
      rfl
    unfold okT
    constructor
    · rintro ⟨⟨a, b⟩, ⟨c, d⟩, e1, e2⟩
      rw [e, if_neg (by omega), if_neg (by omega), if_neg (by omega), if_neg (by omega), if_neg (by omega), if_pos e2]
    · intro h
      rw [e]
      by_cases q1 : (Mc.2 (104 + 2 * k) (3 * t)).toInt < 0
      · rw [if_pos q1]
      by_cases q2 : (L.1 7 : Int) ≤ (Mc.2 (104 + 2 * k) (3 * t)).toInt
      · rw [if_neg q1, if_pos q2]
      by_cases q3 : (Mc.2 (104 + 2 * k) (3 * t + 1)).toInt < 0
      · rw [if_neg q1, if_neg q2, if_pos q3]
      by_cases q4 : (L.1 1 : Int) < (Mc.2 (104 + 2 * k) (3 * t + 1)).toInt
      · rw [if_neg q1, if_neg q2, if_neg q3, if_pos q4]
      by_cases q5 : (Mc.2 (104 + 2 * k) (3 * t + 2)).toInt < 0
      · rw [if_neg q1, if_neg q2, if_neg q3, if_neg q4, if_pos q5]
      by_cases q6 : (Mc.2 (104 + 2 * k) (3 * t + 2)).toInt ≤ 100000
      · exact absurd ⟨⟨by omega, by omega⟩, ⟨by omega, by omega⟩, by omega, q6⟩ h
      · rw [if_neg q1, if_neg q2, if_neg q3, if_neg q4, if_neg q5, if_neg q6]
  have sR : ∀ t, t < n → ∀ K, (okT L (Mc.2 (104 + 2 * k)) t → L_X11_whyNot_50 (io k) p2 Mr K (io (3 * t)) = K (io (3 * (t + 1)))) ∧ (¬ okT L (Mc.2 (104 + 2 * k)) t → L_X11_whyNot_50 (io k) p2 Mr K (io (3 * t)) = some (-2)) := by
    intro t ht K
    have v1 := hv (3 * t) (by omega)
    have v2 := hv (3 * t + 1) (by omega)
    have v3 := hv (3 * t + 2) (by omega)
    have e : L_X11_whyNot_50 (io k) p2 Mr K (io (3 * t)) = if 0 ≤ (Mc.2 (104 + 2 * k) (3 * t)).toInt ∧ (Mc.2 (104 + 2 * k) (3 * t)).toInt < L.1 7 then (if 0 ≤ (Mc.2 (104 + 2 * k) (3 * t + 1)).toInt ∧ (Mc.2 (104 + 2 * k) (3 * t + 1)).toInt ≤ L.1 1 then (if 0 ≤ (Mc.2 (104 + 2 * k) (3 * t + 2)).toInt ∧ (Mc.2 (104 + 2 * k) (3 * t + 2)).toInt ≤ 100000 then K (io (3 * (t + 1))) else some (-2)) else some (-2)) else some (-2) := by
      unfold L_X11_whyNot_50
      rw [oob_f hk (by omega), ix_io (by omega), r2]
      simp only [Bool.false_eq_true, if_false, letv_eq]
      rw [if_neg (by rw [io_le (by omega) (by omega)]; omega), show (60 : Int32) = io 60 from rfl, show (2 : Int32) = io 2 from rfl, show (1 : Int32) = io 1 from rfl, show (3 : Int32) = io 3 from rfl, io_mul, io_add, io_add, io_add, io_add, oob_f (show 60 * k + 3 * t < 240 by omega) (by omega), oob_f (show 60 * k + 3 * t + 1 < 240 by omega) (by omega), oob_f (show 60 * k + 3 * t + 2 < 240 by omega) (by omega), ix_io (by omega), ix_io (by omega), ix_io (by omega), show 60 * k + 3 * t + 1 = 60 * k + (3 * t + 1) by omega, show 60 * k + 3 * t + 2 = 60 * k + (3 * t + 2) by omega, ← v1, ← v2, ← v3, pieceR64 hN.1 hN.2.2.1, stepR64 hN.1 h0 hN.2.2.1, in_eq, z0, z1, bnd_s, bnd_s, ite01, ite01, ite01]
      rfl
    unfold okT
    constructor
    · rintro ⟨a, b, c⟩
      rw [e, if_pos a, if_pos b, if_pos c]
    · intro h
      rw [e]
      by_cases q1 : 0 ≤ (Mc.2 (104 + 2 * k) (3 * t)).toInt ∧ (Mc.2 (104 + 2 * k) (3 * t)).toInt < L.1 7
      · by_cases q2 : 0 ≤ (Mc.2 (104 + 2 * k) (3 * t + 1)).toInt ∧ (Mc.2 (104 + 2 * k) (3 * t + 1)).toInt ≤ L.1 1
        · by_cases q3 : 0 ≤ (Mc.2 (104 + 2 * k) (3 * t + 2)).toInt ∧ (Mc.2 (104 + 2 * k) (3 * t + 2)).toInt ≤ 100000
          · exact absurd ⟨q1, q2, q3⟩ h
          · rw [if_pos q1, if_pos q2, if_neg q3]
        · rw [if_pos q1, if_neg q2]
      · rw [if_neg q1]
  rcases first_or (fun t => ¬ okT L (Mc.2 (104 + 2 * k)) t) n with h | ⟨m, hm, h, h2⟩
  · refine Or.inr ⟨?_, ?_, fun t ht => Classical.not_not.mp (h t ht)⟩
    · obtain ⟨r, rfl, hq⟩ := in1x (b := L_X7_tellsSkins_13 (103 + 2 * k) 14 Mc) (fun t x => x = io (3 * t)) (fun r => r = 1) n (x := 0) rfl (by omega) (fun t x ht hx => by
        subst hx
        exact ⟨io (3 * (t + 1)), rfl, fun K => (sC t ht K).1 (Classical.not_not.mp (h t ht))⟩) (fun x hx => by
        subst hx
        refine ⟨1, rfl, fun K => ?_⟩
        unfold L_X7_tellsSkins_13
        rw [c2, show (2 : Int32) = io 2 from rfl, io_add, if_pos (by rw [io_le (by omega) (by omega)]; omega)])
      exact hq
    · obtain ⟨r, rfl, hq⟩ := in1x (b := L_X11_whyNot_50 (io k) p2 Mr) (fun t x => x = io (3 * t)) (fun r => r = 0) n (x := 0) rfl (by omega) (fun t x ht hx => by
        subst hx
        exact ⟨io (3 * (t + 1)), rfl, fun K => (sR t ht K).1 (Classical.not_not.mp (h t ht))⟩) (fun x hx => by
        subst hx
        refine ⟨0, rfl, fun K => ?_⟩
        unfold L_X11_whyNot_50
        rw [oob_f hk (by omega), ix_io (by omega), r2]
        simp only [Bool.false_eq_true, if_false]
        rw [if_pos (by rw [io_le (by omega) (by omega)]; omega)])
      exact hq
  · refine Or.inl ⟨?_, ?_⟩
    · obtain ⟨r, rfl, hq⟩ := in1x (b := L_X7_tellsSkins_13 (103 + 2 * k) 14 Mc) (fun t x => x = io (3 * t)) (fun r => r = 0) m (x := 0) rfl (by omega) (fun t x ht hx => by
        subst hx
        exact ⟨io (3 * (t + 1)), rfl, fun K => (sC t (by omega) K).1 (Classical.not_not.mp (h2 t ht))⟩) (fun x hx => by
        subst hx
        exact ⟨0, rfl, fun K => (sC m hm K).2 h⟩)
      exact hq
    · obtain ⟨r, rfl, hq⟩ := in1x (b := L_X11_whyNot_50 (io k) p2 Mr) (fun t x => x = io (3 * t)) (fun r => r = -2) m (x := 0) rfl (by omega) (fun t x ht hx => by
        subst hx
        exact ⟨io (3 * (t + 1)), rfl, fun K => (sR t (by omega) K).1 (Classical.not_not.mp (h2 t ht))⟩) (fun x hx => by
        subst hx
        exact ⟨-2, rfl, fun K => (sR m hm K).2 h⟩)
      exact hq
theorem refuse {L : Lh} {Mc Mr : Mem} (hX : RelX Mc Mr) (hN : RelN L Mc Mr) (a pc pr : Int32) (h1 : 0 < L.1 0 → (pc = 0 ↔ pr = 0)) (h2 : L.1 0 = 0 → pc = 0) : (∃ r, r ≠ 0 ∧ f_X10_refusalOfSeen a pc Mc = some r ∧ f_X11_whyNot a pr Mr = some r) ∨ (f_X10_refusalOfSeen a pc Mc = some 0 ∧ f_X11_whyNot a pr Mr = some 0 ∧ 0 < L.1 0 ∧ pc ≠ 0 ∧ ∃ k n v T, k < 4 ∧ n ≤ 20 ∧ a = io k ∧ RoC k n v Mc ∧ RoR k n v Mr ∧ SeV v n T ∧ SeK L n T) := by
  have g := hN.1.2.2.1
  unfold f_X10_refusalOfSeen f_X11_whyNot
  rw [slotR, ite01, lehrR hN.1 hN.2.2.1, bnd_s, ite01]
  rcases below a 4 with hb | ⟨k, hk, rfl, hk2⟩
  · rw [rowC_none hb, if_neg hb]
    exact Or.inl ⟨-2, by decide, rfl, rfl⟩
  rw [rowC_some hk, if_pos (pos_io hk hk2)]
  simp only [optc]
  rcases Nat.eq_zero_or_pos (L.1 0) with hz | h0
  · rw [if_neg (show ¬ 0 < L.1 0 by omega), if_pos (h2 hz)]
    exact Or.inl ⟨-2, by decide, rfl, rfl⟩
  rw [if_pos h0]
  by_cases hp : pc = 0
  · rw [if_pos hp, if_pos ((h1 h0).mp hp)]
    exact Or.inl ⟨-2, by decide, rfl, rfl⟩
  rw [if_neg hp, if_neg (fun q => hp ((h1 h0).mpr q)), oob_f hk (by omega), ix_io hk2]
  simp only [Bool.false_eq_true, if_false]
  rcases hX.2.2.1 k hk with ⟨w1, w2⟩ | ⟨w, m, hw, hm, w1, w2, w3, w4, w5, w6⟩
  · rw [w2, w1, if_pos (show io 0 = (0 : Int32) from rfl), if_pos (show m1 = (-1 : Int32) from rfl)]
    exact Or.inl ⟨-6, by decide, rfl, rfl⟩
  rw [w3, w1, if_neg (show ¬ io 1 = (0 : Int32) by decide), if_neg (show ¬ io w = (-1 : Int32) from fun q => (io_m1 (a := w) (by omega)).mp q), w2]
  unfold f_X7_tellsSkins
  rw [w5, show io m - io m / 3 * 3 = io (m - m / 3 * 3) from by rw [show (3 : Int32) = io 3 from rfl, io_div (by omega) (by omega), io_mul, io_sub (by omega)]]
  by_cases h3 : m - m / 3 * 3 = 0
  · obtain ⟨n, rfl⟩ : ∃ n, m = 3 * n := ⟨m / 3, by omega⟩
    rw [h3, if_pos (show io 0 = (0 : Int32) from rfl), if_pos (show io 0 = (0 : Int32) from rfl)]
    rcases tells hN h0 hk hm w2 w5 w6 pr with ⟨q1, q2⟩ | ⟨q1, q2, q3⟩
    · rw [q1, q2, bnd_s, if_pos rfl]
      exact Or.inl ⟨-2, by decide, rfl, rfl⟩
    · rw [q1, q2, bnd_s, if_neg (show ¬ (1 : Int32) = 0 by decide)]
      refine Or.inr ⟨rfl, rfl, h0, hp, k, n, Mc.2 (104 + 2 * k), trO (Mc.2 (104 + 2 * k)), hk, by omega, rfl, ⟨w5, fun i _ => rfl⟩, ⟨w2, fun i hi => (w6 i hi).symm⟩, fun t ht => ?_, fun t ht => ?_⟩
      · obtain ⟨a1, a2, a3⟩ := q3 t ht
        unfold trO
        exact ⟨(Int.toNat_of_nonneg a1.1).symm, (Int.toNat_of_nonneg a2.1).symm, (Int.toNat_of_nonneg a3.1).symm⟩
      · obtain ⟨a1, a2, a3⟩ := q3 t ht
        unfold trO
        refine ⟨?_, ?_, ?_⟩
        · show (Mc.2 (104 + 2 * k) (3 * t)).toInt.toNat < L.1 7
          have := a1.2
          have := a1.1
          omega
        · show (Mc.2 (104 + 2 * k) (3 * t + 1)).toInt.toNat ≤ L.1 1
          have := a2.2
          have := a2.1
          omega
        · show (Mc.2 (104 + 2 * k) (3 * t + 2)).toInt.toNat ≤ 100000
          have := a3.2
          have := a3.1
          omega
  · have hne : ¬ io (m - m / 3 * 3) = (0 : Int32) := fun q => h3 ((io_inj (b := 0) (by omega) (by omega)).mp q)
    rw [if_neg hne, if_neg hne, bnd_s, if_pos rfl]
    exact Or.inl ⟨-2, by decide, rfl, rfl⟩
