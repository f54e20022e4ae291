/-! SHARE -/
abbrev ii (a : Int) : Int32 := Int32.ofInt a
def fac : Nat → Nat
  | 0 => 1
  | n + 1 => (n + 1) * fac n
theorem io64 {a : Nat} (h : a < 2147483648) : (io a).toInt64 = lo (a : Int) := by
  rw [← Int64.toInt_inj, Int32.toInt_toInt64, io_toInt h, loT (by omega) (by omega)]
theorem iiT {a : Int} (h1 : -2147483648 ≤ a) (h2 : a < 2147483648) : (ii a).toInt = a := by
  rw [Int32.toInt_ofInt]
  exact Int.bmod_eq_of_le (by show _ ≤ a; simp [Int32.size]; omega) (by show a < _; simp [Int32.size]; omega)
theorem ii64 {a : Int} (h1 : -2147483648 ≤ a) (h2 : a < 2147483648) : (ii a).toInt64 = lo a := by
  rw [← Int64.toInt_inj, Int32.toInt_toInt64, iiT h1 h2, loT (by omega) (by omega)]
theorem io_ii {a : Nat} (h : a < 2147483648) : io a = ii (a : Int) := by
  rw [← Int32.toInt_inj, io_toInt h, iiT (by omega) (by omega)]
theorem sub_ii {a b : Nat} (ha : a < 1000000000) (hb : b < 1000000000) : io a - io b = ii ((a : Int) - b) := by
  rw [io_ii (by omega), io_ii (by omega)]
  exact (Int32.ofInt_sub _ _).symm
theorem fac_le : ∀ n, n ≤ 7 → 1 ≤ fac n ∧ fac n ≤ 5040 := by decide
theorem fac_2 : ∀ n, n ≤ 7 → ∀ s, s < n → fac s * fac (n - 1 - s) ≤ 720 := by decide
theorem ordersC {s : Nat} (hs : s ≤ 7) (M : Mem) : f_X9_ordersOf (io s) M = some (lo (fac s : Int)) := by
  unfold f_X9_ordersOf
  obtain ⟨r, rfl, hq⟩ := in2x (b := L_X9_ordersOf_4 (io s) M) (fun i x y => x = lo (fac (i + 1) : Int) ∧ y = io (i + 2)) (fun r => r = lo (fac s : Int)) (s - 1) (x := 1) (y := 2) ⟨rfl, rfl⟩ (by omega) (fun i x y hi h => by
    obtain ⟨rfl, rfl⟩ := h
    refine ⟨lo (fac (i + 1 + 1) : Int), io (i + 1 + 2), ⟨rfl, rfl⟩, fun K => ?_⟩
    unfold L_X9_ordersOf_4
    rw [if_neg (by rw [io_lt (by omega) (by omega)]; omega), if_neg (show ¬ (7 : Int32) < io (i + 2) from fun q => by have := (io_lt (a := 7) (by omega) (by omega)).mp q; omega), letv_eq, io64 (by omega), ← Int64.ofInt_mul, show io (i + 2) + (1 : Int32) = io (i + 1 + 2) from io_add (i + 2) 1]
    have : (fac (i + 1) : Int) * ((i + 2 : Nat) : Int) = (fac (i + 1 + 1) : Int) := by
      rw [show fac (i + 1 + 1) = (i + 1 + 1) * fac (i + 1) from rfl, Int.natCast_mul, Int.mul_comm]
    rw [this]) (fun x y h => by
    obtain ⟨rfl, rfl⟩ := h
    have e : fac (s - 1 + 1) = fac s := by
      rcases Nat.eq_zero_or_pos s with rfl | hp
      · rfl
      · rw [show s - 1 + 1 = s by omega]
    refine ⟨lo (fac s : Int), rfl, fun K => ?_⟩
    unfold L_X9_ordersOf_4
    rw [if_pos (by rw [io_lt (by omega) (by omega)]; omega), e])
  exact hq
theorem timesR : ∀ n s, s < n → s ≤ 7 → fr_X11_times n (io s) = some (io (fac s))
  | 0, s, h, _ => absurd h (Nat.not_lt_zero _)
  | n + 1, s, h, h7 => by
    simp only [fr_X11_times]
    by_cases c : 2 ≤ s
    · rw [if_pos (show (2 : Int32) ≤ io s from (io_le (a := 2) (by omega) (by omega)).mpr c), show (1 : Int32) = io 1 from rfl, io_sub (by omega), timesR n (s - 1) (by omega) (by omega), bnd_s, io_mul]
      obtain ⟨k, rfl⟩ : ∃ k, s = k + 1 := ⟨s - 1, by omega⟩
      rfl
    · rw [if_neg (show ¬ (2 : Int32) ≤ io s from fun q => c ((io_le (a := 2) (by omega) (by omega)).mp q))]
      have : s = 0 ∨ s = 1 := by omega
      rcases this with rfl | rfl <;> rfl
def shJ (L : Lh) (z j : Nat) : Int := if j.testBit z = true then 0 else (fac (pop j) : Int) * (fac (L.1 6 - 1 - pop j) : Int) * ((wtV L (j ||| 2 ^ z) : Int) - wtV L j)
def shS (L : Lh) (z : Nat) : Nat → Int
  | 0 => 0
  | n + 1 => shS L z n + shJ L z n
theorem popB : ∀ n, n ≤ 7 → ∀ z, z < n → ∀ j, j < 2 ^ n → j.testBit z = false → pop j + 1 ≤ n := by decide +kernel
theorem andB {j z : Nat} : (j &&& 2 ^ z = 0) ↔ j.testBit z = false := by
  constructor
  · intro h
    have := congrArg (fun x => x.testBit z) h
    simp only [Nat.testBit_and, Nat.testBit_two_pow, Nat.zero_testBit] at this
    simpa using this
  · intro h
    apply Nat.eq_of_testBit_eq
    intro i
    rw [Nat.testBit_and, Nat.testBit_two_pow, Nat.zero_testBit]
    by_cases e : z = i
    · subst e; rw [h]; rfl
    · simp [e]
theorem shJ_le {L : Lh} (h6 : L.1 6 ≤ 7) {z j : Nat} (hz : z < L.1 6) (hj : j < 2 ^ L.1 6) : -5760 ≤ shJ L z j ∧ shJ L z j ≤ 5760 := by
  unfold shJ
  split
  · omega
  · rename_i h
    have hp := popB _ h6 z hz j hj (by simpa using h)
    have h2 := fac_2 _ h6 (pop j) (by omega)
    have w1 := wtV_le L (j ||| 2 ^ z)
    have w2 := wtV_le L j
    rw [← Int.natCast_mul]
    generalize fac (pop j) * fac (L.1 6 - 1 - pop j) = F at h2 ⊢
    generalize wtV L (j ||| 2 ^ z) = A at w1 ⊢
    generalize wtV L j = B at w2 ⊢
    have hA : A = 0 ∨ A = 1 ∨ A = 2 ∨ A = 3 ∨ A = 4 ∨ A = 5 ∨ A = 6 ∨ A = 7 ∨ A = 8 := by omega
    have hB : B = 0 ∨ B = 1 ∨ B = 2 ∨ B = 3 ∨ B = 4 ∨ B = 5 ∨ B = 6 ∨ B = 7 ∨ B = 8 := by omega
    rcases hA with rfl | rfl | rfl | rfl | rfl | rfl | rfl | rfl | rfl <;> rcases hB with rfl | rfl | rfl | rfl | rfl | rfl | rfl | rfl | rfl <;> omega
theorem shS_le {L : Lh} (h6 : L.1 6 ≤ 7) {z : Nat} (hz : z < L.1 6) : ∀ n : Nat, n ≤ 2 ^ L.1 6 → -5760 * (n : Int) ≤ shS L z n ∧ shS L z n ≤ 5760 * (n : Int)
  | 0, _ => by simp [shS]
  | n + 1, h => by
    have ih := shS_le h6 hz n (by omega)
    have h2 := shJ_le h6 hz (show n < 2 ^ L.1 6 by omega)
    simp only [shS]
    omega
theorem shareC {L : Lh} {M : Mem} {z : Nat} (hL : OkL L) (h0 : 0 < L.1 0) (hC : RpC 14 L M) (hz : z < L.1 6) {w : Int32 → Int64} (hw : ∀ o M, ∃ M', f_X3_put o (lo (shS L z (2 ^ L.1 6))) (lo (fac (L.1 6) : Int)) M = some M' ∧ M'.1 = M.1 ∧ (∀ a, a ≠ o → M'.2 a = M.2 a) ∧ ∀ p, f_X3_part o p M' = w p) : ∃ M', f_X9_shareOf (io z) M = some M' ∧ (∀ p, f_X3_part 46 p M' = w p) ∧ KC M M' := by
  have g := hL.2.2.1
  have hp : 2 ^ L.1 6 ≤ 128 := Nat.le_trans (Nat.pow_le_pow_right (by decide) (show L.1 6 ≤ 7 by omega)) (by decide)
  have hzp : 2 ^ z < 2 ^ L.1 6 := Nat.pow_lt_pow_right (by decide) hz
  unfold f_X9_shareOf
  rw [show M.1 14 6 = io (L.1 6) from hC.1 6 (by omega), letv_eq, letv_eq, show (1 : Int32) <<< (io (L.1 6) &&& 31) = io (2 ^ L.1 6) from io_shl (by omega), show f_min (io (2 ^ L.1 6)) 128 = io (2 ^ L.1 6) from by
    unfold f_min
    exact if_neg (fun q => by have := (io_lt (a := 128) (by omega) (by omega)).mp q; omega)]
  obtain ⟨r, r1, hq⟩ := in2x (b := L_X9_shareOf_26 (io z) (io (L.1 6)) (io (2 ^ L.1 6))) (fun i x M2 => x = io i ∧ (∀ j, j < i → M2.1 47 j = io (wtV L j)) ∧ KC M M2) (fun M' => (∀ p, f_X3_part 46 p M' = w p) ∧ KC M M') (2 ^ L.1 6) (x := 0) (y := M) ⟨rfl, fun j hj => absurd hj (Nat.not_lt_zero _), KC.refl⟩ (by omega) (fun i x M2 hi h => by
    obtain ⟨rfl, g1, k2⟩ := h
    obtain ⟨M3, e3, k3, m47, -⟩ := worthC (b := i) hL h0 (hC.kc k2 (by omega)) (by omega)
    refine ⟨io (i + 1), st M3 47 i (io (wtV L i)), ⟨rfl, fun j hj => ?_, (k2.trans k3).sto (by omega)⟩, fun K => ?_⟩
    · by_cases c : j = i
      · subst c; simp [st]
      · rw [st_rd (fun q => c q.2), m47]; exact g1 j (by omega)
    · unfold L_X9_shareOf_26
      rw [if_neg (by rw [io_le (by omega) (by omega)]; omega), e3, bnd2_s, oob_f (show i < 128 by omega) (by omega), ix_io (by omega), show io i + (1 : Int32) = io (i + 1) from io_add i 1]
      rfl) (fun x M2 h => by
    obtain ⟨rfl, g1, k2⟩ := h
    obtain ⟨r, r1, hq⟩ := in3x (b := L_X9_shareOf_62 (io z) (io (L.1 6)) (io (2 ^ L.1 6)) (io (2 ^ z))) (fun j x y M3 => x = lo (shS L z j) ∧ y = io j ∧ M3 = M2) (fun M' => (∀ p, f_X3_part 46 p M' = w p) ∧ KC M M') (2 ^ L.1 6) (x := 0) (y := 0) (z := M2) ⟨rfl, rfl, rfl⟩ (by omega) (fun j x y M3 hj h => by
      obtain ⟨rfl, rfl, rfl⟩ := h
      have e1 : io j + (1 : Int32) = io (j + 1) := io_add j 1
      refine ⟨lo (shS L z (j + 1)), io (j + 1), M3, ⟨rfl, rfl, rfl⟩, fun K => ?_⟩
      unfold L_X9_shareOf_62
      rw [if_neg (by rw [io_le (by omega) (by omega)]; omega), io_and, io_or, e1]
      have hor : j ||| 2 ^ z < 2 ^ L.1 6 := Nat.or_lt_two_pow hj hzp
      simp only [shS]
      unfold shJ
      by_cases c : j.testBit z = true
      · have ha : ¬ j &&& 2 ^ z = 0 := fun q => by rw [andB.mp q] at c; exact absurd c (by decide)
        have hal : j &&& 2 ^ z ≤ j := Nat.and_le_left
        rw [if_neg (show ¬ io (j &&& 2 ^ z) = (0 : Int32) from fun q => ha ((io_inj (b := 0) (by omega) (by omega)).mp q)), if_pos c, Int.add_zero]
      · have hb : j.testBit z = false := by simpa using c
        have hpp := popB _ (show L.1 6 ≤ 7 by omega) z hz j hj hb
        have f1 := fac_le (pop j) (by omega)
        have f2 := fac_le (L.1 6 - 1 - pop j) (by omega)
        have w1 := wtV_le L (j ||| 2 ^ z)
        have w2 := wtV_le L j
        rw [if_pos (show io (j &&& 2 ^ z) = (0 : Int32) from by rw [andB.mpr hb]; rfl), if_neg (by rw [io_le (by omega) (by omega)]; omega), letv_eq, bitc (by omega), ordersC (by omega), bnd_s, show (1 : Int32) = io 1 from rfl, io_sub (by omega), io_sub (by omega), ordersC (by omega), bnd_s, letv_eq, oob_f (show j ||| 2 ^ z < 128 by omega) (by omega), oob_f (show j < 128 by omega) (by omega), ix_io (by omega), ix_io (by omega), g1 _ hor, g1 _ hj, sub_ii (by omega) (by omega), ii64 (by omega) (by omega), if_neg c]
        simp only [Bool.false_eq_true, if_false, letv_eq]
        rw [← Int64.ofInt_mul, ← Int64.ofInt_mul, ← Int64.ofInt_add]) (fun x y M3 h => by
      obtain ⟨rfl, rfl, rfl⟩ := h
      obtain ⟨M5, e5, m1', m2, m3⟩ := hw 46 M3
      refine ⟨M5, ⟨m3, k2.trans ⟨fun a _ => by rw [m1'], fun a ha => m2 a (by omega)⟩⟩, fun K => ?_⟩
      unfold L_X9_shareOf_62
      rw [if_pos (by rw [io_le (by omega) (by omega)]; omega), ordersC (by omega), bnd_s, e5, bnd_s])
    refine ⟨r, r1, fun K => ?_⟩
    unfold L_X9_shareOf_26
    rw [if_pos (by rw [io_le (by omega) (by omega)]; omega), letv_eq, show (1 : Int32) <<< (io z &&& 31) = io (2 ^ z) from io_shl (by omega), hq])
  exact ⟨r, hq, r1⟩
theorem shareR {L : Lh} {M : Mem} {z : Nat} (hL : OkL L) (h0 : 0 < L.1 0) (hR : RpR 0 L M) (hz : z < L.1 6) (p2 : Int32) {w : Int32 → Int64} (hw : ∀ p M, f_X11_partOf (lo (shS L z (2 ^ L.1 6))) (lo (fac (L.1 6) : Int)) p M = some (w p)) : ∃ M', lq3 (L_X11_share_37 (io z) p2 (io (L.1 6))) FU 0 0 M = some ((w p2).toInt32, M') ∧ KR M M' := by
  have g := hL.2.2.1
  have hp : 2 ^ L.1 6 ≤ 128 := Nat.le_trans (Nat.pow_le_pow_right (by decide) (show L.1 6 ≤ 7 by omega)) (by decide)
  have hzp : 2 ^ z < 2 ^ L.1 6 := Nat.pow_lt_pow_right (by decide) hz
  have hs : (1 : Int32) <<< (io (L.1 6) &&& 31) = io (2 ^ L.1 6) := io_shl (by omega)
  obtain ⟨r, ⟨r1, r2⟩, hq⟩ := in3x (b := L_X11_share_37 (io z) p2 (io (L.1 6))) (fun j x y M2 => x = ii (shS L z j) ∧ y = io j ∧ KR M M2) (fun r => r.1 = (w p2).toInt32 ∧ KR M r.2) (2 ^ L.1 6) (x := 0) (y := 0) (z := M) ⟨rfl, rfl, KR.refl⟩ (by omega) (fun j x y M2 hj h => by
    obtain ⟨rfl, rfl, k2⟩ := h
    have e1 : io j + (1 : Int32) = io (j + 1) := io_add j 1
    have hbit : f_X11_isBit (io j) (io z) M2 = if j.testBit z = true then 1 else 0 := by
      unfold f_X11_isBit
      rw [show (io j >>> (io z &&& 31)) &&& (1 : Int32) = io (if j.testBit z then 1 else 0) from io_shr (by omega) (by omega)]
      by_cases c : j.testBit z = true
      · rw [if_pos c, if_pos c, if_pos (show io 1 = 1 from rfl)]
      · rw [if_neg c, if_neg c, if_neg (by decide)]
    have hor : j ||| 2 ^ z < 2 ^ L.1 6 := Nat.or_lt_two_pow hj hzp
    by_cases c : j.testBit z = true
    · refine ⟨ii (shS L z (j + 1)), io (j + 1), M2, ⟨rfl, rfl, k2⟩, fun K => ?_⟩
      unfold L_X11_share_37
      rw [hs, if_neg (by rw [io_le (by omega) (by omega)]; omega), hbit, if_pos c, if_neg (show ¬ (1 : Int32) = 0 by decide), e1]
      simp only [shS]
      unfold shJ
      rw [if_pos c, Int.add_zero]
    · have hb : j.testBit z = false := by simpa using c
      have hpp := popB _ (show L.1 6 ≤ 7 by omega) z hz j hj hb
      have f1 := fac_le (pop j) (by omega)
      have f2 := fac_le (L.1 6 - 1 - pop j) (by omega)
      have w1 := wtV_le L (j ||| 2 ^ z)
      have w2 := wtV_le L j
      obtain ⟨M3, e3, k3⟩ := worthR (b := j ||| 2 ^ z) hL h0 (hR.kr k2) (by omega)
      obtain ⟨M4, e4, k4⟩ := worthR (b := j) hL h0 (hR.kr (k2.trans k3)) (by omega)
      refine ⟨ii (shS L z (j + 1)), io (j + 1), M4, ⟨rfl, rfl, (k2.trans k3).trans k4⟩, fun K => ?_⟩
      unfold L_X11_share_37 f_X11_times
      rw [hs, if_neg (by rw [io_le (by omega) (by omega)]; omega), hbit, if_neg c, if_pos rfl, e1, sizc (by omega), bnd_s, timesR 20 (pop j) (by omega) (by omega), bnd_s, io_sub (by omega), show (1 : Int32) <<< (io z &&& 31) = io (2 ^ z) from io_shl (by omega), show (1 : Int32) = io 1 from rfl, io_sub (by omega), show L.1 6 - pop j - 1 = L.1 6 - 1 - pop j by omega, timesR 20 _ (by omega) (by omega), bnd_s, io_or, e3, bnd2_s, e4, bnd2_s, letv_eq, sub_ii (by omega) (by omega), io_ii (show fac (pop j) < 2147483648 by omega), io_ii (show fac (L.1 6 - 1 - pop j) < 2147483648 by omega)]
      simp only [shS]
      unfold shJ
      rw [if_neg c, ← Int32.ofInt_mul, ← Int32.ofInt_mul, ← Int32.ofInt_add]) (fun x y M2 h => by
    obtain ⟨rfl, rfl, k2⟩ := h
    have hl := shS_le (show L.1 6 ≤ 7 by omega) hz (2 ^ L.1 6) (Nat.le_refl _)
    have f1 := fac_le (L.1 6) (by omega)
    refine ⟨((w p2).toInt32, M2), ⟨rfl, k2⟩, fun K => ?_⟩
    unfold L_X11_share_37 f_X11_times
    rw [hs, if_pos (by rw [io_le (by omega) (by omega)]; omega), timesR 20 _ (by omega) (by omega), bnd_s, ii64 (by omega) (by omega), io64 (by omega), hw, bnd_s])
  exact ⟨r.2, by rw [hq, ← r1], r2⟩
theorem op_67 : ∀ (Mc Mr : Mem) (a1 a2 : Int32), Rel Mc Mr → ∃ (r : Int32) (Mc' Mr' : Mem), f_X10_share a1 a2 Mc = some (r, Mc') ∧ f_X11_share a1 a2 Mr = some (r, Mr') ∧ Rel Mc' Mr' := by
  intro Mc Mr a b h
  obtain ⟨hX, L, hN⟩ := h.split
  have hk := kr0 Mr
  have hN1 := hN.kr hk
  have g := hN.1.2.2.1
  unfold f_X10_share f_X11_share
  rw [letv_eq, zoneC (hN.2.1.1 6 (by omega)) (by omega), zoneR hN.1 hN1.2.2.1, bnd_s, ite01, ite01, show f_X11_isHalf b (st Mr 0 0 0) = if 0 ≤ b.toInt ∧ b.toInt ≤ (1 : Nat) then 1 else 0 from in_le b (n := 1) (by decide) _, ite01]
  rcases below a (L.1 6) with hb | ⟨z, hz, rfl, hz2⟩
  · rw [if_neg hb, if_neg hb]
    exact ⟨_, Mc, _, rfl, rfl, h.kr hk⟩
  rw [if_pos (pos_io hz hz2), if_pos (pos_io hz hz2)]
  rcases half2 b Mc with ⟨q1, q2⟩ | ⟨q1, q2, q3⟩
  · rw [q2, if_neg (show ¬ (1 : Int32) = 0 by decide), if_neg q1]
    exact ⟨_, Mc, _, rfl, rfl, h.kr hk⟩
  rw [q2, if_pos rfl, if_pos q1]
  have h0 := hN.1.pos (i := 6) (by omega)
  have hp : 2 ^ L.1 6 ≤ 128 := Nat.le_trans (Nat.pow_le_pow_right (by decide) (show L.1 6 ≤ 7 by omega)) (by decide)
  have hl := shS_le (show L.1 6 ≤ 7 by omega) hz (2 ^ L.1 6) (Nat.le_refl _)
  have f1 := fac_le (L.1 6) (by omega)
  obtain ⟨w, w1, w2⟩ := fracs (x := shS L z (2 ^ L.1 6)) (b := fac (L.1 6)) (by omega) (by omega) (by omega) (by omega)
  obtain ⟨M5, e5, v5, k5⟩ := shareC hN.1 h0 hN.2.1 hz w1
  refine twoWays (h.kr hk) (v := (w b).toInt32) ⟨M5, by rw [e5, bnd_s, v5], k5⟩ ?_
  simp only [show oob 5 40 = false from by decide, Bool.false_eq_true, if_false, letv_eq, show ix 5 = 5 from rfl]
  rw [numR hN1.2.2.1 (i := 5) (by omega)]
  exact shareR hN.1 h0 hN1.2.2.1 hz b w2
