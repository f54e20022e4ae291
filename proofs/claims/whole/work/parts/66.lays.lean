/-! WHAT IS LAID OUT for a run, on both sides -/
theorem sub80 {a : Nat} (ha : a ≤ 100000) : (io a - io 80).toInt = (a : Int) - 80 := by
  rw [Int32.toInt_sub, io_toInt (by omega), io_toInt (by omega)]
  exact Int.bmod_eq_of_le (by omega) (by omega)
theorem max80 {a : Nat} (ha : a ≤ 100000) : f_max (io a - io 80) (io 0) = io (a - 80) := by
  unfold f_max
  by_cases h : 80 ≤ a
  · rw [io_sub h, if_neg (by rw [io_lt (by omega) (by omega)]; omega)]
  · rw [if_pos (by rw [Int32.lt_iff_toInt_lt, sub80 ha, io_toInt (by omega)]; omega), show a - 80 = 0 by omega]
theorem more80 {a : Nat} (ha : a ≤ 100000) (M : Mem) : f_X11_moreOf (io 0) (io a - io 80) M = io (a - 80) := by
  unfold f_X11_moreOf
  by_cases h : 80 ≤ a
  · rw [io_sub h, if_pos (by rw [io_le (by omega) (by omega)]; omega)]
  · rw [if_neg (by rw [Int32.le_iff_toInt_le, sub80 ha, io_toInt (by omega)]; omega), show a - 80 = 0 by omega]
theorem isBit_io {x i : Nat} (hx : x < 2147483648) (hi : i < 31) (M : Mem) : f_X11_isBit (io x) (io i) M = io (if x.testBit i then 1 else 0) := by
  unfold f_X11_isBit
  simp only [lit]
  rw [io_shr hx hi]
  by_cases h : x.testBit i = true
  · simp [h]
  · simp [h]; decide
theorem airR_of {L : Lh} {M : Mem} {z s d sk tl : Nat} (hL : OkL L) (hR : RpR 0 L M) (h24 : M.1 0 24 = io d) (hd : d < 2147483648) (h26 : M.1 0 26 = io sk) (hsk : sk ≤ 7) (h12 : M.1 12 z = io tl) (htl : tl ≤ 1000) (hz : z < 7) (hs : s < 15) : f_X11_airOf (io z) (io s) M = some (io (airN (tl + hot L (L.1 8) (if z < sk then z else z + 1) s) (gst L (L.1 8) s || d.testBit s))) := by
  have hna := hL.2.2.1.2.2.2.2.2.2.2.2
  have h77 : M.1 7 7 = io (L.1 8) := hR.2.1 7 (by omega)
  have hz' : (if z < sk then z else z + 1) ≤ 8 := by split <;> omega
  have kzt : z < sk → (if z < sk then z else z + 1) = z := fun q => if_pos q
  have kzf : ¬ z < sk → (if z < sk then z else z + 1) = z + 1 := fun q => if_neg q
  generalize (if z < sk then z else z + 1) = z' at hz' kzt kzf ⊢
  unfold f_X11_airOf
  simp (disch := omega) only [oob_f, Bool.false_eq_true, if_false, ix_io, letv_eq, h12, h24, isBit_io]
  refine up3 (fun i => io (tl + hot L i z' s)) (fun i => io (if (gst L i s || d.testBit s) = true then 1 else 0)) (fun i => io i) (L.1 8) rfl (by simp [gst]) rfl (by omega) (fun i hi K => ?_) (fun K => ?_)
  · have hh := hot_le hL z' s (i + 1) (by omega)
    have hh0 := hot_le hL z' s i (by omega)
    obtain ⟨r0, r1, r2, r3⟩ := hR.2.2.2.2 i hi
    rw [show 120 * 0 + 4 * i = 4 * i by omega] at r0
    rw [show 120 * 0 + (4 * i + 1) = 4 * i + 1 by omega] at r1
    rw [show 120 * 0 + (4 * i + 2) = 4 * i + 2 by omega] at r2
    rw [show 120 * 0 + (4 * i + 3) = 4 * i + 3 by omega] at r3
    have ha := hL.2.2.2.2.2 i hi
    have e114 : ∀ v, J_X11_airOf_114 (io z) (io s) M K v (io (if (gst L i s || d.testBit s) = true then 1 else 0)) (io i) = K v (io (if (gst L (i + 1) s || d.testBit s) = true then 1 else 0)) (io (i + 1)) := by
      intro v
      unfold J_X11_airOf_114
      simp only [lit, letv_eq, io_mul, io_add]
      simp (disch := omega) only [oob_f, Bool.false_eq_true, if_false, ix_io, r0, r3, io_or]
      have eg : gst L (i + 1) s = (gst L i s || (decide (L.2.2.2 i 0 = 1) && decide (L.2.2.2 i 3 = s))) := rfl
      rw [eg]
      by_cases k1 : L.2.2.2 i 0 = 1
      · rw [if_pos (by rw [k1])]
        by_cases k3 : L.2.2.2 i 3 = s
        · rw [if_pos (by rw [k3])]
          by_cases kb : (gst L i s || d.testBit s) = true
          · simp [kb, k1, k3]
          · simp [kb, k1, k3]
        · rw [if_neg (by rw [io_inj (by omega) (by omega)]; exact k3)]
          simp [k3]
      · rw [if_neg (by rw [io_inj (by omega) (by omega)]; exact k1)]
        simp [k1]
    generalize io (if (gst L i s || d.testBit s) = true then 1 else 0) = b0 at e114 ⊢
    generalize io (if (gst L (i + 1) s || d.testBit s) = true then 1 else 0) = b1 at e114 ⊢
    have e66 : ∀ w : Nat, J_X11_airOf_66 (io z) (io s) M K (io (tl + hot L i z' s)) b0 (io i) (io w) = K (io (tl + (hot L i z' s + if L.2.2.2 i 0 = 0 ∧ io w ≠ io 0 ∧ L.2.2.2 i 3 ≤ s then L.2.2.2 i 2 else 0))) b1 (io (i + 1)) := by
      intro w
      unfold J_X11_airOf_66
      simp only [lit, letv_eq, io_mul, io_add]
      simp (disch := omega) only [oob_f, Bool.false_eq_true, if_false, ix_io, r0, r3, r2, e114, io_add]
      by_cases k0 : L.2.2.2 i 0 = 0
      · rw [if_pos (by rw [k0])]
        by_cases kw : io w = io 0
        · rw [if_pos kw, if_neg (fun q => q.2.1 kw)]; rfl
        · rw [if_neg kw]
          by_cases k3 : L.2.2.2 i 3 ≤ s
          · rw [if_neg (by rw [io_lt (by omega) (by omega)]; omega), if_pos ⟨k0, kw, k3⟩]
            simp only [Nat.add_assoc]
          · rw [if_pos (by rw [io_lt (by omega) (by omega)]; omega), if_neg (fun q => k3 q.2.2)]; rfl
      · rw [if_neg (by rw [io_inj (by omega) (by omega)]; exact k0), if_neg (fun q => k0 q.1)]; rfl
    have ez : ((actz L i = io z') ↔ (L.2.2.2 i 0 = 0 ∧ L.2.2.2 i 1 = z')) := by
      unfold actz
      rcases ha with ha | ha
      · rw [if_neg (by omega), io_inj (by have := hL.2.2.1.2.2.2.2.2.2.1; omega) (by omega)]
        exact ⟨fun q => ⟨ha.1, q⟩, fun q => q.2⟩
      · rw [if_pos ha.1, m1_io (by omega)]
        exact iff_of_false not_false (fun q => by omega)
    have fin : (if actz L i = io z' then J_X11_airOf_66 (io z) (io s) M K (io (tl + hot L i z' s)) b0 (io i) (io 1) else J_X11_airOf_66 (io z) (io s) M K (io (tl + hot L i z' s)) b0 (io i) (io 0)) = K (io (tl + hot L (i + 1) z' s)) b1 (io (i + 1)) := by
      have eh : hot L (i + 1) z' s = hot L i z' s + if L.2.2.2 i 0 = 0 ∧ L.2.2.2 i 1 = z' ∧ L.2.2.2 i 3 ≤ s then L.2.2.2 i 2 else 0 := rfl
      by_cases k : actz L i = io z'
      · rw [if_pos k, e66, eh]
        have k2 := ez.mp k
        simp only [k2.1, k2.2, true_and, show io 1 ≠ io 0 by decide, ne_eq, not_false_eq_true]
      · rw [if_neg k, e66, eh]
        have k2 := fun q => k (ez.mpr q)
        rw [if_neg (fun q => q.2.1 rfl), if_neg (fun q => k2 ⟨q.1, q.2.1⟩)]
    unfold L_X11_airOf_20
    simp only [lit, letv_eq, io_mul, io_add]
    simp (disch := omega) only [oob_f, Bool.false_eq_true, if_false, ix_io, h77, h26, r1]
    rw [if_neg (by rw [io_le (by omega) (by omega)]; omega)]
    by_cases kz : z < sk
    · rw [if_neg (by rw [io_le (by omega) (by omega)]; omega)]
      rw [kzt kz] at fin
      rw [kzt kz]
      exact fin
    · rw [if_pos (by rw [io_le (by omega) (by omega)]; omega)]
      rw [kzf kz] at fin
      rw [kzf kz]
      exact fin
  · have hh := hot_le hL z' s (L.1 8) (by omega)
    unfold L_X11_airOf_20
    simp only [lit, letv_eq]
    simp (disch := omega) only [oob_f, Bool.false_eq_true, if_false, ix_io, h77]
    rw [if_pos (by rw [io_le (by omega) (by omega)]; omega)]
    unfold airN
    by_cases kb : (gst L (L.1 8) s || d.testBit s) = true
    · rw [if_pos kb, if_pos kb, if_neg (by decide), more80 (by omega)]
    · rw [if_neg kb, if_neg kb, if_pos rfl]
/-- the reference's memory, laid out -/
def Ly (L : Lh) (M : Mem) : Prop := (M.1 0 22 = io (L.1 2) ∧ M.1 0 23 = io (L.1 4) ∧ M.1 0 24 = io 0 ∧ M.1 0 25 = io (L.1 6) ∧ M.1 0 26 = io (L.1 6)) ∧ (∀ z, z < L.1 6 → M.1 12 z = io (L.2.1 z)) ∧ ∀ p, p < L.1 7 → M.1 13 p = io (L.2.2.1 p 1) ∧ M.1 14 p = io (L.2.2.1 p 2)
theorem laysR2 {L : Lh} {M : Mem} (hL : OkL L) (hR : RpR 0 L M) : ∃ M', f_X11_lays M = some M' ∧ Ly L M' ∧ KR M M' ∧ ∀ j, 27 ≤ j → M'.1 0 j = M.1 0 j := by
  have hz7 := hL.2.2.1.2.2.2.2.2.2.1
  have hp6 := hL.2.2.1.2.2.2.2.2.2.2.1
  have n1 : M.1 7 1 = io (L.1 2) := hR.2.1 1 (by omega)
  have n3 : M.1 7 3 = io (L.1 4) := hR.2.1 3 (by omega)
  have n5 : M.1 7 5 = io (L.1 6) := hR.2.1 5 (by omega)
  have n6 : M.1 7 6 = io (L.1 7) := hR.2.1 6 (by omega)
  unfold f_X11_lays
  simp only [lit]
  simp (disch := omega) only [oob_f, Bool.false_eq_true, if_false, ix_io]
  refine letv_ex (fun M2 e2 => letv_ex (fun M4 e4 => letv_ex (fun M5 e5 => letv_ex (fun M7 e7 => letv_ex (fun M8 e8 => ?_)))))
  have hF : Fr [0] M M8 := by subst e8; subst e7; subst e5; subst e4; subst e2; exact ((((Fr.rfl.sto (by decide)).sto (by decide)).sto (by decide)).sto (by decide)).sto (by decide)
  have hK : KR M M8 := by subst e8; subst e7; subst e5; subst e4; subst e2; exact ((((KR.refl.st0 (by decide)).st0 (by decide)).st0 (by decide)).st0 (by decide)).st0 (by decide)
  have h0 : M8.1 0 22 = io (L.1 2) ∧ M8.1 0 23 = io (L.1 4) ∧ M8.1 0 24 = io 0 ∧ M8.1 0 25 = io (L.1 6) ∧ M8.1 0 26 = io (L.1 6) := by
    subst e8; subst e7; subst e5; subst e4; subst e2; simp [st, n1, n3, n5]
  have hj0 : ∀ j, 27 ≤ j → M8.1 0 j = M.1 0 j := by
    intro j hj
    have a1 : j ≠ 22 := by omega
    have a2 : j ≠ 23 := by omega
    have a3 : j ≠ 24 := by omega
    have a4 : j ≠ 25 := by omega
    have a5 : j ≠ 26 := by omega
    subst e8; subst e7; subst e5; subst e4; subst e2; simp [st, a1, a2, a3, a4, a5]
  clear e8 e7 e5 e4 e2
  obtain ⟨x, M1, ⟨hx, hz1, hF1⟩, hM1⟩ := in2 (b := L_X11_lays_45) (fun i x M1 => x = io i ∧ (∀ z, z < i → M1.1 12 z = io (L.2.1 z)) ∧ Fr [12] M8 M1) (fun _ M => lq2 (L_X11_lays_73) FU 0 M) (L.1 6) (x := io 0) (y := M8) ⟨rfl, fun q hq => absurd hq (Nat.not_lt_zero _), Fr.rfl⟩ (by omega) (fun i x M1 hi h => by
      obtain ⟨rfl, hT, hG⟩ := h
      refine ⟨io (i + 1), st M1 12 i (io (L.2.1 i)), ⟨rfl, ?_, hG.sto (by decide)⟩, fun K => ?_⟩
      · intro p hp
        by_cases e : p = i
        · subst e; simp [st]
        · have := hT p (by omega)
          simp [st, e, this]
      · have r8 : M1.1 8 i = io (L.2.1 i) := by
          rw [hG.1 8 (by decide), hF.1 8 (by decide)]
          have := hR.2.2.1 i hi
          rw [show 7 * 0 + i = i by omega] at this
          exact this
        unfold L_X11_lays_45
        simp only [lit, letv_eq]
        rw [hG.1 0 (by decide), h0.2.2.2.1, if_neg (by rw [io_le (by omega) (by omega)]; omega)]
        simp (disch := omega) only [io_add, oob_f, Bool.false_eq_true, if_false, ix_io, r8]) (fun x M1 h K => by
      obtain ⟨rfl, hT, hG⟩ := h
      unfold L_X11_lays_45
      rw [hG.1 0 (by decide), h0.2.2.2.1, if_pos (by rw [io_le (by omega) (by omega)]; omega)])
  rw [hM1]
  clear hM1
  obtain ⟨y, M2, ⟨hy, hp1, hF2⟩, hM2⟩ := in2 (b := L_X11_lays_73) (fun i x M2 => x = io i ∧ (∀ p, p < i → M2.1 13 p = io (L.2.2.1 p 1) ∧ M2.1 14 p = io (L.2.2.1 p 2)) ∧ Fr [13, 14] M1 M2) (fun _ M => some M) (L.1 7) (x := 0) (y := M1) ⟨rfl, fun q hq => absurd hq (Nat.not_lt_zero _), Fr.rfl⟩ (by omega) (fun i x M2 hi h => by
      obtain ⟨rfl, hT, hG⟩ := h
      have g : ∀ a, a ∉ [0, 12, 13, 14] → M2.1 a = M.1 a := fun a ha => by
        rw [hG.1 a (fun q => ha (by revert q; simp; omega)), hF1.1 a (fun q => ha (by revert q; simp; omega)), hF.1 a (fun q => ha (by revert q; simp; omega))]
      refine ⟨io (i + 1), st (st M2 13 i (io (L.2.2.1 i 1))) 14 i (io (L.2.2.1 i 2)), ⟨rfl, ?_, (hG.sto (by decide)).sto (by decide)⟩, fun K => ?_⟩
      · intro p hp
        by_cases e : p = i
        · subst e; simp [st]
        · have := hT p (by omega)
          simp [st, e, this]
      · have r1 : M2.1 9 (4 * i + 1) = io (L.2.2.1 i 1) := by
          rw [g 9 (by decide)]
          have := hR.2.2.2.1 i 1 hi (by omega)
          rw [show 24 * 0 + (4 * i + 1) = 4 * i + 1 by omega] at this
          exact this
        have r2 : M2.1 9 (4 * i + 2) = io (L.2.2.1 i 2) := by
          rw [g 9 (by decide)]
          have := hR.2.2.2.1 i 2 hi (by omega)
          rw [show 24 * 0 + (4 * i + 2) = 4 * i + 2 by omega] at this
          exact this
        have rp : f_X11_pieces M2 = some (io (L.1 7)) := by
          unfold f_X11_pieces
          simp only [lit]
          simp (disch := omega) only [oob_f, Bool.false_eq_true, if_false, ix_io]
          rw [g 7 (by decide), n6]
        unfold L_X11_lays_73
        rw [rp]
        simp only [lit, letv_eq, bnd_s, io_mul]
        rw [if_neg (by rw [io_le (by omega) (by omega)]; omega)]
        simp (disch := omega) only [io_add, oob_f, Bool.false_eq_true, if_false, ix_io, r1]
        have e9 : (st M2 13 i (io (L.2.2.1 i 1))).1 9 (4 * i + 2) = io (L.2.2.1 i 2) := by simp [st, r2]
        rw [e9]) (fun x M2 h K => by
      obtain ⟨rfl, hT, hG⟩ := h
      have g : ∀ a, a ∉ [0, 12, 13, 14] → M2.1 a = M.1 a := fun a ha => by
        rw [hG.1 a (fun q => ha (by revert q; simp; omega)), hF1.1 a (fun q => ha (by revert q; simp; omega)), hF.1 a (fun q => ha (by revert q; simp; omega))]
      have rp : f_X11_pieces M2 = some (io (L.1 7)) := by
        unfold f_X11_pieces
        simp only [lit]
        simp (disch := omega) only [oob_f, Bool.false_eq_true, if_false, ix_io]
        rw [g 7 (by decide), n6]
      unfold L_X11_lays_73
      rw [rp]
      simp only [bnd_s]
      rw [if_pos (by rw [io_le (by omega) (by omega)]; omega)])
  refine ⟨M2, hM2, ⟨?_, ?_, hp1⟩, (hK.fr hF1 (by decide)).fr hF2 (by decide), fun j hj => ?_⟩
  · rw [hF2.1 0 (by decide), hF1.1 0 (by decide)]; exact h0
  · rw [hF2.1 12 (by decide)]; exact hz1
  · rw [hF2.1 0 (by decide), hF1.1 0 (by decide)]; exact hj0 j hj
theorem laysR {L : Lh} {M : Mem} (hL : OkL L) (hR : RpR 0 L M) : ∃ M', f_X11_lays M = some M' ∧ Ly L M' ∧ KR M M' := by
  obtain ⟨M', a, b, c, -⟩ := laysR2 hL hR
  exact ⟨M', a, b, c⟩
/-- a run's numbers, from what is laid out -/
theorem Rn_of {L : Lh} {M : Mem} {nums : Nat → Nat} {pz : Nat → Nat → Nat} {tl : Nat → Nat} {d sk : Nat} (hL : OkL L) (hR : RpR 0 L M) (h1 : nums 1 = L.1 1) (h5 : nums 5 = L.1 5) (h7 : nums 7 = L.1 7) (h2 : M.1 0 22 = io (nums 2)) (h4 : M.1 0 23 = io (nums 4)) (h6 : M.1 0 25 = io (nums 6)) (hz : nums 6 ≤ 7) (h24 : M.1 0 24 = io d) (hd : d < 2147483648) (h26 : M.1 0 26 = io sk) (hsk : sk ≤ 7) (h12 : ∀ z, z < nums 6 → M.1 12 z = io (tl z) ∧ tl z ≤ 1000) (hp : ∀ p, p < L.1 7 → pz p 0 = L.2.2.1 p 0 ∧ M.1 13 p = io (pz p 1) ∧ M.1 14 p = io (pz p 2) ∧ pz p 3 = L.2.2.1 p 3) : Rn (mk nums pz tl (fun z s => hot L (L.1 8) (if z < sk then z else z + 1) s) (fun s => gst L (L.1 8) s || d.testBit s)) M := by
  refine ⟨⟨?_, h2, h4, ?_, h6, ?_⟩, fun p hq => ?_, fun z s hz1 hs => ?_⟩
  · show M.1 7 0 = io (nums 1)
    rw [h1]; exact hR.2.1 0 (by omega)
  · show M.1 7 4 = io (nums 5)
    rw [h5]; exact hR.2.1 4 (by omega)
  · show M.1 7 6 = io (nums 7)
    rw [h7]; exact hR.2.1 6 (by omega)
  · have hq' : p < L.1 7 := by have : p < nums 7 := hq; omega
    obtain ⟨a0, a1, a2, a3⟩ := hp p hq'
    have r0 := hR.2.2.2.1 p 0 hq' (by omega)
    have r3 := hR.2.2.2.1 p 3 hq' (by omega)
    rw [show 24 * 0 + (4 * p + 0) = 4 * p by omega] at r0
    rw [show 24 * 0 + (4 * p + 3) = 4 * p + 3 by omega] at r3
    exact ⟨by show M.1 9 (4 * p) = io (pz p 0); rw [a0]; exact r0, a1, a2, by show M.1 9 (4 * p + 3) = io (pz p 3); rw [a3]; exact r3⟩
  · have hz1' : z < nums 6 := hz1
    exact airR_of hL hR h24 hd h26 hsk (h12 z hz1').1 (h12 z hz1').2 (by omega) (by omega)
theorem mk_congr {nums : Nat → Nat} {pz : Nat → Nat → Nat} {tl : Nat → Nat} {ht ht' : Nat → Nat → Nat} {g g' : Nat → Bool} {M : Mem} (h : Rn (mk nums pz tl ht g) M) (e : ∀ z s, z < nums 6 → s < 14 → ht z s = ht' z s ∧ g s = g' s) : Rn (mk nums pz tl ht' g') M := by
  refine ⟨h.1, h.2.1, fun z s hz hs => ?_⟩
  have h2 := h.2.2 z s hz hs
  have e2 := e z s hz hs
  show f_X11_airOf (io z) (io s) M = some (io (airN (tl z + ht' z s) (g' s)))
  rw [← e2.1, ← e2.2]
  exact h2
/-- the lehr of now, laid out and run -/
theorem laysNowR {L : Lh} {M : Mem} (hL : OkL L) (h0 : 0 < L.1 0) (hR : RpR 0 L M) : ∃ M', f_X11_laysNow M = some M' ∧ Rn (cfN L) M' ∧ Rt (cfN L) (fun _ => L.1 1) M' ∧ KR M M' ∧ OkC (cfN L) := by
  have hok := hL.ok h0
  obtain ⟨M1, hM1, hy, hk⟩ := laysR hL hR
  have hR1 := hR.congr (M' := M1) (fun a ha => hk.1 a (by revert a; decide))
  have hn : Rn (cfN L) M1 := mk_congr (Rn_of (nums := L.1) (pz := L.2.2.1) (tl := L.2.1) (d := 0) (sk := L.1 6) hL hR1 rfl rfl rfl hy.1.1 hy.1.2.1 hy.1.2.2.2.1 hL.2.2.1.2.2.2.2.2.2.1 hy.1.2.2.1 (by decide) hy.1.2.2.2.2 hL.2.2.1.2.2.2.2.2.2.1 (fun z hz => ⟨hy.2.1 z hz, Nat.le_trans (hL.2.2.2.1 z hz) (by decide)⟩) (fun p hp => ⟨rfl, (hy.2.2 p hp).1, (hy.2.2 p hp).2, rfl⟩)) (fun z s hz hs => ⟨by rw [if_pos hz], by simp⟩)
  obtain ⟨M2, hM2, hT, hF⟩ := runsR hok hn
  unfold f_X11_laysNow
  rw [hM1]
  simp only [bnd_s]
  rw [hM2]
  exact ⟨M2, rfl, Rn_fr hn hF, hT, hk.fr hF (by decide), hok⟩
