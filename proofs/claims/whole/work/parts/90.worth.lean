/-! WORTH, GETS, RESTS -/
theorem copyT2 {L : Lh} {M : Mem} (hL : OkL L) (hC : RpC 14 L M) : ∃ M', f_X1_copyFrom 34 13 M = some M' ∧ RpC 35 L M' ∧ KC M M' ∧ (∀ a, a < 35 ∨ 45 < a → M'.1 a = M.1 a) ∧ M'.2 = M.2 := by
  obtain ⟨M1, e1, f1, g1, i1⟩ := beltCopy (P := 35) (Q := 14) hL triRc.1 nowRc.1 triRc.2.1 nowRc.2.1 triRc.2.2 nowRc.2.2 (by omega) hC
  exact ⟨M1, e1, f1, ⟨fun a ha => g1 a (by omega), fun a _ => by rw [i1]⟩, fun a ha => g1 a (by omega), i1⟩
def wtT (L : Lh) (b : Nat) : Nat → Nat := fun z => if b.testBit z = true then L.2.1 z else 0
theorem wtT_le {L : Lh} (hL : OkL L) (b : Nat) : ∀ y, y < L.1 6 → wtT L b y ≤ 1000 := by
  intro y hy
  have := hL.2.2.2.1 y hy
  unfold wtT
  split <;> omega
def wtV (L : Lh) (b : Nat) : Nat := pop (nvc (tlF L (wtT L b)))
theorem wtV_le (L : Lh) (b : Nat) : wtV L b ≤ 8 := pop_le _
theorem worthC {L : Lh} {M : Mem} {b : Nat} (hL : OkL L) (h0 : 0 < L.1 0) (hC : RpC 14 L M) (hb : b < 2147483648) : ∃ M', f_X9_worthOf (io b) M = some (io (wtV L b), M') ∧ KC M M' ∧ M'.1 47 = M.1 47 ∧ M'.2 = M.2 := by
  have g := hL.2.2.1
  obtain ⟨M1, e1, hC1, k1, o1, l1⟩ := copyT2 hL hC
  unfold f_X9_worthOf
  rw [e1, bnd_s]
  obtain ⟨r, ⟨r1, r2, r3⟩, hr⟩ := in2x (b := L_X9_worthOf_13 (io b)) (fun i x M2 => x = io i ∧ (∀ a, a ≠ 36 → M2.1 a = M1.1 a) ∧ (∀ z, z < i → M2.1 36 z = io (wtT L b z)) ∧ (∀ z, i ≤ z → M2.1 36 z = M1.1 36 z) ∧ KC M M2 ∧ M2.2 = M.2) (fun r => r.1 = io (wtV L b) ∧ KC M r.2 ∧ r.2.1 47 = M.1 47 ∧ r.2.2 = M.2) (L.1 6) (x := 0) (y := M1) ⟨rfl, fun _ _ => rfl, fun z hz => absurd hz (Nat.not_lt_zero _), fun _ _ => rfl, k1, l1⟩ (by omega) (fun i x M2 hi h => by
      obtain ⟨rfl, g1, g2, g3, k2, l2⟩ := h
      have h6 : M2.1 35 6 = io (L.1 6) := by rw [g1 35 (by decide)]; exact hC1.1 6 (by omega)
      by_cases c : b.testBit i = true
      · refine ⟨io (i + 1), M2, ⟨rfl, g1, fun z hz => ?_, fun z hz => g3 z (by omega), k2, l2⟩, fun K => ?_⟩
        · by_cases e : z = i
          · subst e; unfold wtT; rw [if_pos c, g3 z (by omega)]; exact hC1.2.2.1 z hi
          · exact g2 z (by omega)
        · unfold L_X9_worthOf_13
          rw [h6, if_neg (by rw [io_le (by omega) (by omega)]; omega), show (io b >>> (io i &&& 31)) &&& (1 : Int32) = io (if b.testBit i then 1 else 0) from io_shr hb (by omega), if_pos c, if_neg (by decide), show (1 : Int32) = io 1 from rfl, io_add]
      · refine ⟨io (i + 1), st M2 36 i 0, ⟨rfl, fun a ha => by rw [stne ha]; exact g1 a ha, fun z hz => ?_, fun z hz => by rw [st_rd (fun q => by omega)]; exact g3 z (by omega), k2.sto (by omega), l2⟩, fun K => ?_⟩
        · by_cases e : z = i
          · subst e; unfold wtT; rw [if_neg c]; simp [st]; rfl
          · rw [st_rd (fun q => e q.2)]; exact g2 z (by omega)
        · unfold L_X9_worthOf_13
          rw [h6, if_neg (by rw [io_le (by omega) (by omega)]; omega), show (io b >>> (io i &&& 31)) &&& (1 : Int32) = io (if b.testBit i then 1 else 0) from io_shr hb (by omega), if_neg c, if_pos (show io 0 = 0 from rfl), oob_f (show i < 7 by omega) (by omega), ix_io (by omega), show (1 : Int32) = io 1 from rfl, io_add]
          rfl) (fun x M2 h => by
      obtain ⟨rfl, g1, g2, g3, k2, l2⟩ := h
      have h6 : M2.1 35 6 = io (L.1 6) := by rw [g1 35 (by decide)]; exact hC1.1 6 (by omega)
      obtain ⟨M3, e3, f3⟩ := cntC (M := M2) (tl := wtT L b) hL h0 hC1 (wtT_le hL b) (fun a ha => g1 a (by rintro rfl; revert ha; decide)) g2
      refine ⟨(io (wtV L b), M3), ⟨rfl, k2.trans (fr49 f3), ?_, f3.2.trans l2⟩, fun K => ?_⟩
      · show M3.1 47 = M.1 47
        rw [f3.1 47 (by decide), g1 47 (by decide), o1 47 (by omega)]
      · unfold L_X9_worthOf_13
        rw [h6, if_pos (by rw [io_le (by omega) (by omega)]; omega), e3, bnd2_s]; rfl)
  exact ⟨r.2, by rw [hr, ← r1], r2, r3⟩
theorem worthR {L : Lh} {M : Mem} {b : Nat} (hL : OkL L) (h0 : 0 < L.1 0) (hR : RpR 0 L M) (hb : b < 2147483648) : ∃ M', f_X11_worthOf (io b) M = some (io (wtV L b), M') ∧ KR M M' := by
  have g := hL.2.2.1
  obtain ⟨M1, e1, hs1, k1⟩ := rLays hL hR
  unfold f_X11_worthOf
  rw [e1, bnd_s]
  have h25 : M1.1 0 25 = io (L.1 6) := hs1.1.2.2.2.1
  obtain ⟨r, ⟨r1, r2⟩, hr⟩ := in2x (b := L_X11_worthOf_6 (io b)) (fun i x M2 => x = io i ∧ (∀ a, a ≠ 12 → M2.1 a = M1.1 a) ∧ (∀ z, z < i → M2.1 12 z = io (wtT L b z)) ∧ (∀ z, i ≤ z → M2.1 12 z = M1.1 12 z) ∧ KR M M2) (fun r => r.1 = io (wtV L b) ∧ KR M r.2) (L.1 6) (x := 0) (y := M1) ⟨rfl, fun _ _ => rfl, fun z hz => absurd hz (Nat.not_lt_zero _), fun _ _ => rfl, k1⟩ (by omega) (fun i x M2 hi h => by
      obtain ⟨rfl, g1, g2, g3, k2⟩ := h
      have h6 : M2.1 0 25 = io (L.1 6) := by rw [g1 0 (by decide)]; exact h25
      have hbit : f_X11_isBit (io b) (io i) M2 = if b.testBit i = true then 1 else 0 := by
        unfold f_X11_isBit
        rw [show (io b >>> (io i &&& 31)) &&& (1 : Int32) = io (if b.testBit i then 1 else 0) from io_shr hb (by omega)]
        by_cases c : b.testBit i = true
        · rw [if_pos c, if_pos c, if_pos (show io 1 = 1 from rfl)]
        · rw [if_neg c, if_neg c, if_neg (by decide)]
      by_cases c : b.testBit i = true
      · refine ⟨io (i + 1), st M2 12 i (M2.1 12 i), ⟨rfl, fun a ha => by rw [stne ha]; exact g1 a ha, fun z hz => ?_, fun z hz => by rw [st_rd (fun q => by omega)]; exact g3 z (by omega), k2.sto (by decide)⟩, fun K => ?_⟩
        · by_cases e : z = i
          · subst e; unfold wtT; rw [if_pos c, ← hs1.2.1 z hi, ← g3 z (by omega)]; simp [st]
          · rw [st_rd (fun q => e q.2)]; exact g2 z (by omega)
        · unfold L_X11_worthOf_6
          rw [h6, if_neg (by rw [io_le (by omega) (by omega)]; omega), hbit, if_pos c, if_neg (by decide), oob_f (show i < 7 by omega) (by omega), ix_io (by omega), show (1 : Int32) = io 1 from rfl, io_add]
          rfl
      · refine ⟨io (i + 1), st M2 12 i 0, ⟨rfl, fun a ha => by rw [stne ha]; exact g1 a ha, fun z hz => ?_, fun z hz => by rw [st_rd (fun q => by omega)]; exact g3 z (by omega), k2.sto (by decide)⟩, fun K => ?_⟩
        · by_cases e : z = i
          · subst e; unfold wtT; rw [if_neg c]; simp [st]; rfl
          · rw [st_rd (fun q => e q.2)]; exact g2 z (by omega)
        · unfold L_X11_worthOf_6
          rw [h6, if_neg (by rw [io_le (by omega) (by omega)]; omega), hbit, if_neg c, if_pos rfl, oob_f (show i < 7 by omega) (by omega), ix_io (by omega), show (1 : Int32) = io 1 from rfl, io_add]
          rfl) (fun x M2 h => by
      obtain ⟨rfl, g1, g2, g3, k2⟩ := h
      have h6 : M2.1 0 25 = io (L.1 6) := by rw [g1 0 (by decide)]; exact h25
      have hs2 : Ls L L.1 L.2.2.1 (wtT L b) 0 (L.1 6) M2 := hs1.tl (fun a ha => g1 a (by rintro rfl; revert ha; decide)) g2
      obtain ⟨M3, e3, e4, e5, k3, -⟩ := cntR hL h0 (hR.kr k2) (wtT_le hL b) hs2
      refine ⟨(io (wtV L b), M3), ⟨rfl, k2.trans k3⟩, fun K => ?_⟩
      unfold L_X11_worthOf_6
      rw [h6, if_pos (by rw [io_le (by omega) (by omega)]; omega), e3, bnd_s, e4, bnd_s, e5, bnd_s]; rfl)
  exact ⟨r.2, by rw [hr, ← r1], r2⟩
theorem op_66 : ∀ (Mc Mr : Mem) (a1 : Int32), Rel Mc Mr → ∃ (r : Int32) (Mc' Mr' : Mem), f_X10_worth a1 Mc = some (r, Mc') ∧ f_X11_worth a1 Mr = some (r, Mr') ∧ Rel Mc' Mr' := fun Mc Mr a h =>
  opT2 (fc := fun M => f_X10_worth a M) (fr := fun M => f_X11_worth a M) (fun M => if a < 0 then some (-2, M) else if a < ((1 : Int32) <<< ((M.1 14 6) &&& 31)) then bnd2 (f_X9_worthOf a M) (fun r4 M6 => some (r4, M6)) else some (-2, M)) (fun M1 => if oob 5 40 = true then none else if (f_X11_in (a.toInt64) (0 : Int64) (((((1 : Int32) <<< ((M1.1 7 (ix 5)) &&& 31)) : Int32).toInt64) - (1 : Int64)) M1) = 0 then some (-2, M1) else bnd2 (f_X11_worthOf a M1) (fun r7 M9 => some (r7, M9))) (fun M => rfl) (fun M => rfl) (fun L Mc Mr hL h0 hC hR => by
    have g := hL.2.2.1
    have hp : 2 ^ L.1 6 ≤ 128 := Nat.le_trans (Nat.pow_le_pow_right (by decide) (show L.1 6 ≤ 7 by omega)) (by decide)
    rw [show Mc.1 14 6 = io (L.1 6) from hC.1 6 (by omega), show Mr.1 7 (ix 5) = io (L.1 6) from hR.2.1 5 (by omega), show (1 : Int32) <<< (io (L.1 6) &&& 31) = io (2 ^ L.1 6) from io_shl (by omega), in_n a (by omega), ite01]
    simp only [show oob 5 40 = false from by decide, Bool.false_eq_true, if_false]
    rcases below a (2 ^ L.1 6) with hb | ⟨p, hp', rfl, hp2⟩
    · refine ⟨-2, ⟨Mc, ?_, KC.refl⟩, Mr, ?_, KR.refl⟩
      · by_cases c : a < 0
        · rw [if_pos c]
        · rw [if_neg c, if_neg (fun q => hb ⟨Int32.le_iff_toInt_le.mp (Int32.not_lt.mp c), by have := Int32.lt_iff_toInt_lt.mp q; rwa [io_toInt (by omega)] at this⟩)]
      · rw [if_neg hb]
    · refine ⟨io (wtV L p), ?_, ?_⟩
      · rw [if_neg (show ¬ io p < (0 : Int32) from fun q => by have := (io_lt (b := 0) hp2 (by omega)).mp q; omega), if_pos ((io_lt hp2 (by omega)).mpr hp')]
        obtain ⟨M1, e1, k1, -⟩ := worthC (b := p) hL h0 hC hp2
        exact ⟨M1, by rw [e1, bnd2_s], k1⟩
      · rw [if_pos (pos_io hp' hp2)]
        obtain ⟨M1, e1, k1⟩ := worthR (b := p) hL h0 hR hp2
        exact ⟨M1, by rw [e1, bnd2_s], k1⟩) Mc Mr h
