/-! RESTS -/
def rOk (L : Lh) (a b c : Nat) : Bool := !decide (gnV L a b (c % 2) (c / 2) 0 < gnV L a b (1 - c % 2) (c / 2) 0) && !decide (gnV L a b (c % 2) (c / 2) 1 < gnV L a b (c % 2) (1 - c / 2) 1)
def tG (L : Lh) (a b v : Nat) : Int32 := gnV L a b (v / 2 % 2) (v / 4) (v % 2)
theorem v8 : ∀ i, i < 8 → (io i >>> ((1 : Int32) &&& 31)) = io (i / 2 % 2 + 2 * (i / 4)) ∧ (io i &&& (1 : Int32)) = io (i % 2) ∧ i / 2 % 2 ≤ 1 ∧ i / 4 ≤ 1 ∧ i % 2 ≤ 1 := by decide +kernel
theorem v4a : ∀ c, c < 4 → (2 : Int32) * (io c ^^^ (1 : Int32)) = io (2 * (c ^^^ 1)) ∧ (2 : Int32) * io c = io (2 * c) ∧ 2 * (c ^^^ 1) < 8 ∧ (2 : Int32) * (io c ^^^ (2 : Int32)) + (1 : Int32) = io (2 * (c ^^^ 2) + 1) ∧ (2 : Int32) * io c + (1 : Int32) = io (2 * c + 1) ∧ 2 * (c ^^^ 2) + 1 < 8 := by decide +kernel
theorem v4b : ∀ c, c < 4 → 2 * c / 2 % 2 = c % 2 ∧ 2 * c / 4 = c / 2 ∧ 2 * c % 2 = 0 ∧ 2 * (c ^^^ 1) / 2 % 2 = 1 - c % 2 ∧ 2 * (c ^^^ 1) / 4 = c / 2 ∧ 2 * (c ^^^ 1) % 2 = 0 := by decide +kernel
theorem v4c : ∀ c, c < 4 → (2 * c + 1) / 2 % 2 = c % 2 ∧ (2 * c + 1) / 4 = c / 2 ∧ (2 * c + 1) % 2 = 1 ∧ (2 * (c ^^^ 2) + 1) / 2 % 2 = c % 2 ∧ (2 * (c ^^^ 2) + 1) / 4 = 1 - c / 2 ∧ (2 * (c ^^^ 2) + 1) % 2 = 1 := by decide +kernel
theorem v4d : ∀ c, c < 4 → io c - io c / (2 : Int32) * (2 : Int32) = io (c % 2) ∧ io c / (2 : Int32) = io (c / 2) ∧ (1 : Int32) - io (c % 2) = io (1 - c % 2) ∧ (1 : Int32) - io (c / 2) = io (1 - c / 2) ∧ c % 2 ≤ 1 ∧ c / 2 ≤ 1 ∧ 1 - c % 2 ≤ 1 ∧ 1 - c / 2 ≤ 1 := by decide +kernel
theorem rbit {f : Nat → Bool} {c : Nat} (hc : c < 4) : (f c = true → io (bN f c) ||| ((1 : Int32) <<< (io c &&& 31)) = io (bN f (c + 1))) ∧ (f c = false → bN f c = bN f (c + 1)) := by
  constructor
  · intro h
    have e := io_bor (f := f) (n := c) (by omega)
    simp only [bN]
    rw [if_pos h]; exact e
  · intro h
    simp only [bN]
    rw [h]; simp
theorem restsC {L : Lh} {M : Mem} {a b : Nat} (hL : OkL L) (h0 : 0 < L.1 0) (hC : RpC 14 L M) (ha : a < L.1 6) (hb : b < L.1 6) (hab : a ≠ b) : ∃ M', f_X9_restingChoices (io a) (io b) M = some (io (bN (rOk L a b) 4), M') ∧ KC M M' := by
  unfold f_X9_restingChoices
  obtain ⟨r, ⟨r1, r2⟩, hr⟩ := in2x (b := L_X9_restingChoices_2 (io a) (io b)) (fun i x M2 => x = io i ∧ (∀ j, j < i → M2.1 48 j = tG L a b j) ∧ KC M M2) (fun r => r.1 = io (bN (rOk L a b) 4) ∧ KC M r.2) 8 (x := 0) (y := M) ⟨rfl, fun j hj => absurd hj (Nat.not_lt_zero _), KC.refl⟩ (by omega) (fun i x M2 hi h => by
      obtain ⟨rfl, g1, k2⟩ := h
      obtain ⟨e1, e2, e3, e4, e5⟩ := v8 i hi
      obtain ⟨M3, m1, m2, m3⟩ := gainC hL h0 (hC.kc k2 (by omega)) ha hb hab e3 e4 e5
      refine ⟨io (i + 1), st M3 48 i (gnV L a b (i / 2 % 2) (i / 4) (i % 2)), ⟨rfl, fun j hj => ?_, (k2.trans m2).sto (by omega)⟩, fun K => ?_⟩
      · by_cases c : j = i
        · subst c; simp [st]; rfl
        · rw [st_rd (fun q => c q.2), m3]; exact g1 j (by omega)
      · unfold L_X9_restingChoices_2
        rw [if_neg (show ¬ (8 : Int32) ≤ io i from fun q => by have := (io_le (a := 8) (by omega) (by omega)).mp q; omega), e1, e2, m1, bnd2_s, oob_f (show i < 8 by omega) (by omega), ix_io (by omega), show (1 : Int32) = io 1 from rfl, io_add]; rfl) (fun x M2 h => by
      obtain ⟨rfl, g1, k2⟩ := h
      obtain ⟨r, ⟨r1, r2⟩, hr⟩ := in3x (b := L_X9_restingChoices_40 (io a) (io b)) (fun c x y M3 => x = io (bN (rOk L a b) c) ∧ y = io c ∧ M3 = M2) (fun r => r.1 = io (bN (rOk L a b) 4) ∧ r.2 = M2) 4 (x := 0) (y := 0) (z := M2) ⟨rfl, rfl, rfl⟩ (by omega) (fun c x y M3 hc h => by
          obtain ⟨rfl, rfl, rfl⟩ := h
          obtain ⟨a1, a2, a3, a4, a5, a6⟩ := v4a c hc
          obtain ⟨b1, b2, b3, b4, b5, b6⟩ := v4b c hc
          obtain ⟨c1, c2, c3, c4, c5, c6⟩ := v4c c hc
          have t1 : M3.1 48 (2 * c) = gnV L a b (c % 2) (c / 2) 0 := by rw [g1 _ (by omega)]; unfold tG; rw [b1, b2, b3]
          have t2 : M3.1 48 (2 * (c ^^^ 1)) = gnV L a b (1 - c % 2) (c / 2) 0 := by rw [g1 _ (by omega)]; unfold tG; rw [b4, b5, b6]
          have t3 : M3.1 48 (2 * c + 1) = gnV L a b (c % 2) (c / 2) 1 := by rw [g1 _ (by omega)]; unfold tG; rw [c1, c2, c3]
          have t4 : M3.1 48 (2 * (c ^^^ 2) + 1) = gnV L a b (c % 2) (1 - c / 2) 1 := by rw [g1 _ (by omega)]; unfold tG; rw [c4, c5, c6]
          obtain ⟨w1, w2⟩ := rbit (f := rOk L a b) hc
          refine ⟨io (bN (rOk L a b) (c + 1)), io (c + 1), M3, ⟨rfl, rfl, rfl⟩, fun K => ?_⟩
          unfold L_X9_restingChoices_40 J_X9_restingChoices_74 J_X9_restingChoices_108
          rw [if_neg (show ¬ (4 : Int32) ≤ io c from fun q => by have := (io_le (a := 4) (by omega) (by omega)).mp q; omega), a1, a4, a5, a2, oob_f (show 2 * c < 8 by omega) (by omega), oob_f (show 2 * (c ^^^ 1) < 8 by omega) (by omega), oob_f (show 2 * c + 1 < 8 by omega) (by omega), oob_f (show 2 * (c ^^^ 2) + 1 < 8 by omega) (by omega), ix_io (show 2 * c < 2147483648 by omega), ix_io (show 2 * (c ^^^ 1) < 2147483648 by omega), ix_io (show 2 * c + 1 < 2147483648 by omega), ix_io (show 2 * (c ^^^ 2) + 1 < 2147483648 by omega), t1, t2, t3, t4]
          simp only [Bool.false_eq_true, if_false, letv_eq]
          have e1 : io c + (1 : Int32) = io (c + 1) := io_add c 1
          by_cases q1 : gnV L a b (c % 2) (c / 2) 0 < gnV L a b (1 - c % 2) (c / 2) 0
          · have hf : rOk L a b c = false := by unfold rOk; rw [decide_eq_true q1]; rfl
            rw [if_pos q1, w2 hf, e1]
            split
            · rw [if_pos trivial]
            · rw [if_pos trivial]
          · rw [if_neg q1]
            by_cases q2 : gnV L a b (c % 2) (c / 2) 1 < gnV L a b (c % 2) (1 - c / 2) 1
            · have hf : rOk L a b c = false := by unfold rOk; rw [decide_eq_true q2]; simp
              rw [if_pos q2, w2 hf, e1, if_neg (show ¬ (1 : Int32) = 0 by decide), if_pos trivial]
            · have hf : rOk L a b c = true := by unfold rOk; rw [decide_eq_false q1, decide_eq_false q2]; rfl
              rw [if_neg q2, w1 hf, e1, if_neg (show ¬ (1 : Int32) = 0 by decide), if_neg (show ¬ (1 : Int32) = 0 by decide)]) (fun x y M3 h => by
          obtain ⟨rfl, rfl, rfl⟩ := h
          refine ⟨(io (bN (rOk L a b) 4), M3), ⟨rfl, rfl⟩, fun K => ?_⟩
          unfold L_X9_restingChoices_40
          rw [if_pos (by decide)])
      refine ⟨r, ⟨r1, r2 ▸ k2⟩, fun K => ?_⟩
      unfold L_X9_restingChoices_2
      rw [if_pos (by decide), hr])
  exact ⟨r.2, by rw [hr, ← r1], r2⟩
theorem restsR {L : Lh} {M : Mem} {a b : Nat} (hL : OkL L) (h0 : 0 < L.1 0) (hR : RpR 0 L M) (ha : a < L.1 6) (hb : b < L.1 6) (hab : a ≠ b) : ∃ M', lq3 (L_X11_rests_22 (io a) (io b)) FU 0 0 M = some (io (bN (rOk L a b) 4), M') ∧ KR M M' := by
  obtain ⟨r, ⟨r1, r2⟩, hr⟩ := in3x (b := L_X11_rests_22 (io a) (io b)) (fun c x y M3 => x = io (bN (rOk L a b) c) ∧ y = io c ∧ KR M M3) (fun r => r.1 = io (bN (rOk L a b) 4) ∧ KR M r.2) 4 (x := 0) (y := 0) (z := M) ⟨rfl, rfl, KR.refl⟩ (by omega) (fun c x y M3 hc h => by
      obtain ⟨rfl, rfl, k3⟩ := h
      obtain ⟨d1, d2, d3, d4, d5, d6, d7, d8⟩ := v4d c hc
      obtain ⟨w1, w2⟩ := rbit (f := rOk L a b) hc
      obtain ⟨M4, e4, k4⟩ := gainR (x := 1 - c % 2) (y := c / 2) (h := 0) hL h0 (hR.kr k3) ha hb hab d7 d6 (by omega)
      obtain ⟨M5, e5, k5⟩ := gainR (x := c % 2) (y := c / 2) (h := 0) hL h0 (hR.kr (k3.trans k4)) ha hb hab d5 d6 (by omega)
      have k35 := (k3.trans k4).trans k5
      obtain ⟨M6, e6, k6⟩ := gainR (x := c % 2) (y := 1 - c / 2) (h := 1) hL h0 (hR.kr k35) ha hb hab d5 d8 (by omega)
      obtain ⟨M7, e7, k7⟩ := gainR (x := c % 2) (y := c / 2) (h := 1) hL h0 (hR.kr (k35.trans k6)) ha hb hab d5 d6 (by omega)
      have e1 : io c + (1 : Int32) = io (c + 1) := io_add c 1
      have hor : ∀ x : Nat, io x ||| (0 : Int32) = io x := fun x => by rw [show (0 : Int32) = io 0 from rfl, io_or]; simp
      by_cases q1 : gnV L a b (c % 2) (c / 2) 0 < gnV L a b (1 - c % 2) (c / 2) 0
      · have hf : rOk L a b c = false := by unfold rOk; rw [decide_eq_true q1]; rfl
        refine ⟨io (bN (rOk L a b) (c + 1)), io (c + 1), M5, ⟨rfl, rfl, k35⟩, fun K => ?_⟩
        unfold L_X11_rests_22 J_X11_rests_99
        rw [if_neg (show ¬ (4 : Int32) ≤ io c from fun q => by have := (io_le (a := 4) (by omega) (by omega)).mp q; omega), letv_eq, letv_eq, d1, d2, d3, d4, show (0 : Int32) = io 0 from rfl, e4, bnd2_s, e5, bnd2_s, if_pos q1, if_pos rfl, show io 0 = (0 : Int32) from rfl, hor, w2 hf, e1]; rfl
      · by_cases q2 : gnV L a b (c % 2) (c / 2) 1 < gnV L a b (c % 2) (1 - c / 2) 1
        · have hf : rOk L a b c = false := by unfold rOk; rw [decide_eq_true q2]; simp
          refine ⟨io (bN (rOk L a b) (c + 1)), io (c + 1), M7, ⟨rfl, rfl, (k35.trans k6).trans k7⟩, fun K => ?_⟩
          unfold L_X11_rests_22 J_X11_rests_99
          rw [if_neg (show ¬ (4 : Int32) ≤ io c from fun q => by have := (io_le (a := 4) (by omega) (by omega)).mp q; omega), letv_eq, letv_eq, d1, d2, d3, d4, show f_X11_getsBy (io a) (io b) (io (1 - c % 2)) (io (c / 2)) 0 M3 = _ from e4, bnd2_s, show f_X11_getsBy (io a) (io b) (io (c % 2)) (io (c / 2)) 0 M4 = _ from e5, bnd2_s, if_neg q1, show f_X11_getsBy (io a) (io b) (io (c % 2)) (io (1 - c / 2)) 1 M5 = _ from e6, bnd2_s, show f_X11_getsBy (io a) (io b) (io (c % 2)) (io (c / 2)) 1 M6 = _ from e7, bnd2_s, if_pos q2, if_pos rfl, letv_eq, hor, w2 hf, e1]
        · have hf : rOk L a b c = true := by unfold rOk; rw [decide_eq_false q1, decide_eq_false q2]; rfl
          refine ⟨io (bN (rOk L a b) (c + 1)), io (c + 1), M7, ⟨rfl, rfl, (k35.trans k6).trans k7⟩, fun K => ?_⟩
          unfold L_X11_rests_22 J_X11_rests_99
          rw [if_neg (show ¬ (4 : Int32) ≤ io c from fun q => by have := (io_le (a := 4) (by omega) (by omega)).mp q; omega), letv_eq, letv_eq, d1, d2, d3, d4, show f_X11_getsBy (io a) (io b) (io (1 - c % 2)) (io (c / 2)) 0 M3 = _ from e4, bnd2_s, show f_X11_getsBy (io a) (io b) (io (c % 2)) (io (c / 2)) 0 M4 = _ from e5, bnd2_s, if_neg q1, show f_X11_getsBy (io a) (io b) (io (c % 2)) (io (1 - c / 2)) 1 M5 = _ from e6, bnd2_s, show f_X11_getsBy (io a) (io b) (io (c % 2)) (io (c / 2)) 1 M6 = _ from e7, bnd2_s, if_neg q2, if_neg (show ¬ (1 : Int32) = 0 by decide), letv_eq, w1 hf, e1]) (fun x y M3 h => by
      obtain ⟨rfl, rfl, k3⟩ := h
      refine ⟨(io (bN (rOk L a b) 4), M3), ⟨rfl, k3⟩, fun K => ?_⟩
      unfold L_X11_rests_22
      rw [if_pos (by decide)])
  exact ⟨r.2, by rw [hr, ← r1], r2⟩
theorem op_68 : ∀ (Mc Mr : Mem) (a1 a2 : Int32), Rel Mc Mr → ∃ (r : Int32) (Mc' Mr' : Mem), f_X10_rests a1 a2 Mc = some (r, Mc') ∧ f_X11_rests a1 a2 Mr = some (r, Mr') ∧ Rel Mc' Mr' := by
  intro Mc Mr a1 a2 h
  obtain ⟨hX, L, hN⟩ := h.split
  have hk := kr0 Mr
  have hN1 := hN.kr hk
  unfold f_X10_rests f_X11_rests
  rw [letv_eq]
  rcases pairs hN1 a1 a2 with ⟨q1, q2⟩ | ⟨q1, q2, z, y, hz, hy, hzy, rfl, rfl⟩
  · rw [q1, q2, if_pos rfl, bnd_s, if_pos rfl]
    exact ⟨_, _, _, rfl, rfl, h.kr hk⟩
  rw [q1, q2, if_neg (show ¬ (1 : Int32) = 0 by decide), bnd_s, if_neg (show ¬ (1 : Int32) = 0 by decide), bnd2_id]
  have h0 := hN.1.pos (i := 6) (by omega)
  exact twoWays (h.kr hk) (restsC hN.1 h0 hN.2.1 hz hy hzy) (restsR hN.1 h0 hN1.2.2.1 hz hy hzy)
