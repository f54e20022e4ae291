/-! DRAWN and LUCK -/
def drF (L : Lh) (d : Nat) : Cf := rcf L L.1 L.2.2.1 L.2.1 d (L.1 6)
theorem Lk.dr {L : Lh} {d : Nat} (hL : OkL L) (h0 : 0 < L.1 0) (hd : d < 16384) : Lk L L.1 L.2.2.1 L.2.1 d (L.1 6) := by
  obtain ⟨a, b, c, e, f⟩ := Lk.now hL h0
  exact ⟨a, hd, c, e, f⟩
theorem cn59 {L : Lh} {M : Mem} {d : Nat} (hL : OkL L) (hC : RpC 14 L M) (hd : d < 16384) : Cn_59 (drF L d) (st M 59 2 (M.1 20 1 ||| io d)) := by
  obtain ⟨a, b, c⟩ := (CnNow hL hC hd).2
  refine ⟨a, b, fun z s hz hs => ?_⟩
  rw [c z s hz hs]
  show some (io (airN (L.2.1 z + hot L (L.1 8) z s) _)) = some (io (airN (L.2.1 z + hot L (L.1 8) (if z < L.1 6 then z else z + 1) s) _))
  rw [if_pos (show z < L.1 6 from hz)]
theorem fr59 {M M' : Mem} (h : Fr (59 :: Cs_59) M M') : KC M M' := KC.refl.fr h (by decide)
theorem draw59 {L : Lh} {M : Mem} {d u pw : Nat} (hL : OkL L) (h0 : 0 < L.1 0) (hC : RpC 14 L M) (hd : d < 16384) (hu : u < 2147483648) (hw : pw < 64) : ∃ M', f_X2_follow 59 (io d) (io u) (io pw) M = some M' ∧ Ct_59 (drF L d) (fun q => L.1 2 = 2 ∨ pw.testBit q = true) (min u 14) (fun _ => min u 14) M' ∧ KC M M' := by
  obtain ⟨M', e, hT, hF, -⟩ := followC_59 (d := io d) ((Lk.dr hL h0 hd).ok hL) (cn59 hL hC hd) hu hw
  exact ⟨M', e, hT, fr59 hF⟩
theorem crackX {c : Cf} (hok : OkC c) {p : Nat} (hp : p < c.1 7) {y x : Int32} (h : y = oi (run c (c.1 1) p).2.2.2.2.1) (hx : x = io 14) : (decide (y = m1) || !decide (y ≤ x)) = snd c p := by
  have hk := (run_ok hok (c.1 1) p hp).2.2.1
  have h14 := hok.1
  rw [h, hx]
  unfold snd
  cases e : (run c (c.1 1) p).2.2.2.2.1 with
  | none => simp [oi_none]
  | some n =>
    have := hk n e
    have e1 : (oi (some n) = m1) = False := eq_false (fun q => (io_m1 (a := n) (by omega)).mp q)
    have e2 : (oi (some n) ≤ io 14) = True := eq_true ((io_le (a := n) (by omega) (by omega)).mpr (by omega))
    simp [e1, e2]
def nx (v : Int64) : Int64 := (((1103515245 : Int64) * v) + (12345 : Int64)) - (((1103515245 : Int64) * v) + (12345 : Int64)) / 2147483648 * 2147483648
def drS (v : Int64) : Nat → Int64
  | 0 => v
  | i + 1 => nx (drS v i)
def drB (L : Lh) (v : Int64) (i : Nat) : Bool := !decide ((0 : Int32) ≤ lg_cmp ((drS v (i + 1) / 65536) - (drS v (i + 1) / 65536) / 10 * 10) (io (L.1 3)).toInt64)
def drD (L : Lh) (v : Int64) : Nat := bN (drB L v) (L.1 1)
theorem drD_lt {L : Lh} (hL : OkL L) (v : Int64) : drD L v < 16384 :=
  Nat.lt_of_lt_of_le (bN_lt _ _) (Nat.pow_le_pow_right (n := 2) (by decide) hL.2.2.1.2.1)
theorem drawsC {L : Lh} {M : Mem} (hL : OkL L) (hC : RpC 14 L M) (v : Int64) : f_X4_draughtsFrom v M = some (io (drD L v)) := by
  have g := hL.2.2.1
  unfold f_X4_draughtsFrom
  obtain ⟨r, rfl, hq⟩ := in3x (b := L_X4_draughtsFrom_8 v M) (fun i x y z => x = drS v i ∧ y = io (bN (drB L v) i) ∧ z = io i) (fun r => r = io (drD L v)) (L.1 1) (x := v) (y := 0) (z := 0) ⟨rfl, rfl, rfl⟩ (by omega) (fun i x y z hi h => by
    obtain ⟨rfl, rfl, rfl⟩ := h
    obtain ⟨w1, w2⟩ := rbit31 (f := drB L v) (c := i) (by omega)
    refine ⟨drS v (i + 1), io (bN (drB L v) (i + 1)), io (i + 1), ⟨rfl, rfl, rfl⟩, fun K => ?_⟩
    unfold L_X4_draughtsFrom_8
    rw [show M.1 14 1 = io (L.1 1) from hC.1 1 (by omega), show M.1 14 3 = io (L.1 3) from hC.1 3 (by omega), if_neg (by rw [io_le (by omega) (by omega)]; omega), if_neg (show ¬ (14 : Int32) ≤ io i from fun q => by have := (io_le (a := 14) (by omega) (by omega)).mp q; omega), letv_eq, show io i + (1 : Int32) = io (i + 1) from io_add i 1]
    by_cases c : (0 : Int32) ≤ lg_cmp ((drS v (i + 1) / 65536) - (drS v (i + 1) / 65536) / 10 * 10) (io (L.1 3)).toInt64
    · have hf : drB L v i = false := by unfold drB; rw [decide_eq_true c]; rfl
      rw [← w2 hf]
      exact if_pos c
    · have hf : drB L v i = true := by unfold drB; rw [decide_eq_false c]; rfl
      rw [← w1 hf]
      exact if_neg c) (fun x y z h => by
    obtain ⟨rfl, rfl, rfl⟩ := h
    refine ⟨_, rfl, fun K => ?_⟩
    unfold L_X4_draughtsFrom_8
    rw [show M.1 14 1 = io (L.1 1) from hC.1 1 (by omega), if_pos (by rw [io_le (by omega) (by omega)]; omega)]
    rfl)
  exact hq
theorem drawsR {L : Lh} {M : Mem} (hL : OkL L) (h0 : 0 < L.1 0) (hR : RpR 0 L M) (v : Int64) : ∃ M', f_X11_draws v M = some M' ∧ M'.1 0 24 = io (drD L v) ∧ f_X11_soundNow M' = some (io (nvc (drF L (drD L v)))) ∧ (∀ p, p < L.1 7 → (M'.1 19 p = m1 ↔ snd (drF L (drD L v)) p = true)) ∧ KR M M' := by
  have g := hL.2.2.1
  obtain ⟨M1, e1, hs, k1⟩ := rLays hL hR
  unfold f_X11_draws
  rw [e1, bnd_s]
  obtain ⟨⟨s1, s2, s3, s4, s5⟩, s6, s7⟩ := hs
  obtain ⟨r, r1, hq⟩ := in3x (b := L_X11_draws_9 v) (fun i x y M2 => x = drS v i ∧ y = io i ∧ Ls L L.1 L.2.2.1 L.2.1 (bN (drB L v) i) (L.1 6) M2 ∧ KR M M2) (fun M' => M'.1 0 24 = io (drD L v) ∧ f_X11_soundNow M' = some (io (nvc (drF L (drD L v)))) ∧ (∀ p, p < L.1 7 → (M'.1 19 p = m1 ↔ snd (drF L (drD L v)) p = true)) ∧ KR M M') (L.1 1) (x := v) (y := 0) (z := M1) ⟨rfl, rfl, ⟨⟨s1, s2, s3, s4, s5⟩, s6, s7⟩, k1⟩ (by omega) (fun i x y M2 hi h => by
    obtain ⟨rfl, rfl, ⟨⟨s1, s2, s3, s4, s5⟩, s6, s7⟩, k2⟩ := h
    obtain ⟨w1, w2⟩ := rbit31 (f := drB L v) (c := i) (by omega)
    have n3 : M2.1 7 2 = io (L.1 3) := numR (hR.kr k2) (i := 2) (by omega)
    have hs' : Ls L L.1 L.2.2.1 L.2.1 (bN (drB L v) (i + 1)) (L.1 6) (st M2 0 24 (io (bN (drB L v) (i + 1)))) := by
      refine ⟨?_, fun z hz => by rw [stne (by decide)]; exact s6 z hz, fun p hp => by rw [stne (by decide), stne (by decide)]; exact s7 p hp⟩
      simp [st, s1, s2, s4, s5]
    refine ⟨drS v (i + 1), io (i + 1), st M2 0 24 (io (bN (drB L v) (i + 1))), ⟨rfl, rfl, hs', k2.st0 (by decide)⟩, fun K => ?_⟩
    unfold L_X11_draws_9
    rw [steps0 (hR.kr k2), bnd_s, if_neg (by rw [io_le (by omega) (by omega)]; omega), letv_eq, show ix 2 = 2 from rfl, n3, s3, orN0, show io i + (1 : Int32) = io (i + 1) from io_add i 1]
    simp only [show oob 2 40 = false from by decide, Bool.false_eq_true, if_false, letv_eq]
    by_cases c : (0 : Int32) ≤ lg_cmp ((drS v (i + 1) / 65536) - (drS v (i + 1) / 65536) / 10 * 10) (io (L.1 3)).toInt64
    · have hf : drB L v i = false := by unfold drB; rw [decide_eq_true c]; rfl
      rw [← w2 hf]
      exact if_pos c
    · have hf : drB L v i = true := by unfold drB; rw [decide_eq_false c]; rfl
      rw [← w1 hf]
      exact if_neg c) (fun x y M2 h => by
    obtain ⟨rfl, rfl, hs2, k2⟩ := h
    have hlk := Lk.dr hL h0 (drD_lt hL v)
    obtain ⟨M3, e3, hT, hs3, k3⟩ := rRuns hL (hR.kr k2) hlk hs2
    refine ⟨M3, ⟨hs3.1.2.2.1, rSound hL (hlk.ok hL) ((hR.kr k2).kr k3) rfl rfl hT, fun p hp => ?_, k2.trans k3⟩, fun K => ?_⟩
    · have hc := (hT p hp).2.1
      have hkk := (run_ok (hlk.ok hL) (L.1 1) p hp).2.2.1
      show M3.1 19 p = m1 ↔ decide ((run (drF L (drD L v)) (L.1 1) p).2.2.2.2.1 = none) = true
      have hc' : M3.1 19 p = oi (run (drF L (drD L v)) (L.1 1) p).2.2.2.2.1 := hc
      rw [hc']
      cases e2 : (run (drF L (drD L v)) (L.1 1) p).2.2.2.2.1 with
      | none => simp [oi_none]
      | some n =>
        have := hkk n e2
        constructor
        · intro q; exact ((io_m1 (a := n) (by omega)).mp q).elim
        · intro q; simp at q
    · unfold L_X11_draws_9
      rw [steps0 (hR.kr k2), bnd_s, if_pos (by rw [io_le (by omega) (by omega)]; omega), e3, bnd_s])
  exact ⟨r, hq, r1⟩
theorem soundC {L : Lh} {M : Mem} (hL : OkL L) (h0 : 0 < L.1 0) (hC : RpC 14 L M) (v : Int64) : ∃ M', f_X4_soundFrom v M = some (io (nvc (drF L (drD L v))), M') ∧ KC M M' := by
  have g := hL.2.2.1
  have hd := drD_lt hL v
  obtain ⟨M', e, hT, hk⟩ := draw59 (u := L.1 1) (pw := 63) hL h0 hC hd (by omega) (by omega)
  rw [show min (L.1 1) 14 = L.1 1 by omega] at hT
  unfold f_X4_soundFrom f_X2_neverCracked
  rw [drawsC hL hC, bnd_s, show M.1 14 1 = io (L.1 1) from hC.1 1 (by omega), show (63 : Int32) = io 63 from rfl, e, bnd_s, uncrC (P := 14) (o := 59) (K6 := 63) rc_59.2.1 rc_59.2.2.2.2.2.1 (n := L.1 7) (by omega) ((hC.kc hk (by omega)).1 7 (by omega)), bnd_s, bnd_s]
  refine ⟨M', ?_, hk⟩
  congr 3
  exact bN_congr (fun p hp => crackX ((Lk.dr hL h0 hd).ok hL) hp (hT p hp (Or.inr (w63 p (by omega)))).2.2.1 rfl)
theorem half2 (a : Int32) (M : Mem) : (¬ (0 ≤ a.toInt ∧ a.toInt ≤ (1 : Nat)) ∧ f_X10_isNoPart a M = 1) ∨ ((0 ≤ a.toInt ∧ a.toInt ≤ (1 : Nat)) ∧ f_X10_isNoPart a M = 0 ∧ (a = 0 ∨ a = 1)) := by
  unfold f_X10_isNoPart
  rcases below a 2 with hb | ⟨n, hn, rfl, hn2⟩
  · refine Or.inl ⟨fun q => hb ⟨q.1, by have := q.2; omega⟩, ?_⟩
    rw [if_neg (by rintro rfl; exact hb (by decide)), if_neg (by rintro rfl; exact hb (by decide))]
  · refine Or.inr ⟨by have := pos_io hn hn2; omega, ?_⟩
    have : n = 0 ∨ n = 1 := by omega
    rcases this with rfl | rfl
    · exact ⟨if_pos rfl, Or.inl rfl⟩
    · exact ⟨by rw [if_neg (by decide), if_pos (show io 1 = (1 : Int32) from rfl)], Or.inr rfl⟩
theorem seed2 (a : Int32) : (¬ (0 ≤ a.toInt ∧ a.toInt ≤ (2000000000 : Nat)) ∧ (a < 0 ∨ (¬ a < 0 ∧ (2000000000 : Int32) < a ∧ ¬ a ≤ 2000000000))) ∨ ((0 ≤ a.toInt ∧ a.toInt ≤ (2000000000 : Nat)) ∧ ¬ a < 0 ∧ ¬ (2000000000 : Int32) < a ∧ a ≤ 2000000000) := by
  have e2 : (2000000000 : Int32).toInt = 2000000000 := by decide
  have e0 : (0 : Int32).toInt = 0 := rfl
  by_cases c0 : a < 0
  · exact Or.inl ⟨fun q => by have := Int32.lt_iff_toInt_lt.mp c0; omega, Or.inl c0⟩
  · have h0 := Int32.le_iff_toInt_le.mp (Int32.not_lt.mp c0)
    by_cases c1 : (2000000000 : Int32) < a
    · exact Or.inl ⟨fun q => by have := Int32.lt_iff_toInt_lt.mp c1; omega, Or.inr ⟨c0, c1, Int32.not_le.mpr c1⟩⟩
    · have h1 := Int32.le_iff_toInt_le.mp (Int32.not_lt.mp c1)
      exact Or.inr ⟨⟨by omega, by omega⟩, c0, c1, Int32.not_lt.mp c1⟩
theorem op_76 : ∀ (Mc Mr : Mem) (a1 a2 : Int32), Rel Mc Mr → ∃ (r : Int32) (Mc' Mr' : Mem), f_X10_drawn a1 a2 Mc = some (r, Mc') ∧ f_X11_drawn a1 a2 Mr = some (r, Mr') ∧ Rel Mc' Mr' := fun Mc Mr a b h =>
  opT2 (fc := fun M => f_X10_drawn a b M) (fr := fun M => f_X11_drawn a b M) (fun M => if a < 0 then some (-2, M) else if (2000000000 : Int32) < a then some (-2, M) else if (f_X10_isNoPart b M) = 0 then if b = 0 then bnd (f_X4_draughtsFrom a.toInt64 M) (fun r9 => some (r9, M)) else bnd2 (f_X4_soundFrom a.toInt64 M) (fun r6 M8 => some (r6, M8)) else some (-2, M)) (fun M1 => if (f_X11_isSeed a M1) = 0 then some (-2, M1) else if (f_X11_isHalf b M1) = 0 then some (-2, M1) else bnd (f_X11_draws a.toInt64 M1) (fun M9 => if b = 0 then some ((M9.1 0 24), M9) else bnd (f_X11_soundNow M9) (fun r11 => some (r11, M9)))) (fun M => rfl) (fun M => rfl) (fun L Mc Mr hL h0 hC hR => by
    rw [show f_X11_isSeed a Mr = if 0 ≤ a.toInt ∧ a.toInt ≤ (2000000000 : Nat) then 1 else 0 from in_le a (n := 2000000000) (by decide) Mr, show f_X11_isHalf b Mr = if 0 ≤ b.toInt ∧ b.toInt ≤ (1 : Nat) then 1 else 0 from in_le b (n := 1) (by decide) Mr, ite01, ite01]
    rcases seed2 a with ⟨p1, p2⟩ | ⟨p1, p2, p3, p4⟩
    · refine ⟨-2, ⟨Mc, ?_, KC.refl⟩, Mr, by rw [if_neg p1], KR.refl⟩
      rcases p2 with p2 | ⟨p2, p3, -⟩
      · rw [if_pos p2]
      · rw [if_neg p2, if_pos p3]
    rw [if_neg p2, if_neg p3, if_pos p1]
    rcases half2 b Mc with ⟨q1, q2⟩ | ⟨q1, q2, q3⟩
    · rw [q2, if_neg (show ¬ (1 : Int32) = 0 by decide), if_neg q1]
      exact ⟨-2, ⟨Mc, rfl, KC.refl⟩, Mr, rfl, KR.refl⟩
    rw [q2, if_pos rfl, if_pos q1]
    obtain ⟨M1, e1, v1, v2, -, k1⟩ := drawsR hL h0 hR a.toInt64
    rw [e1, bnd_s]
    by_cases c : b = 0
    · rw [if_pos c, if_pos c, drawsC hL hC, bnd_s, v1]
      exact ⟨_, ⟨Mc, rfl, KC.refl⟩, M1, rfl, k1⟩
    · rw [if_neg c, if_neg c, bnd2_id, v2, bnd_s]
      exact ⟨_, soundC hL h0 hC a.toInt64, M1, rfl, k1⟩) Mc Mr h
def luS (L : Lh) (a : Int32) (p i : Nat) : Bool := snd (drF L (drD L (a.toInt64 + (io i).toInt64))) p
theorem op_77 : ∀ (Mc Mr : Mem) (a1 a2 a3 : Int32), Rel Mc Mr → ∃ (r : Int32) (Mc' Mr' : Mem), f_X10_luck a1 a2 a3 Mc = some (r, Mc') ∧ f_X11_luck a1 a2 a3 Mr = some (r, Mr') ∧ Rel Mc' Mr' := by
  intro Mc Mr a b d h
  obtain ⟨hX, L, hN⟩ := h.split
  have hk := kr0 Mr
  have hN1 := hN.kr hk
  have g := hN.1.2.2.1
  have bad : ∃ r Mc' Mr', some ((-2 : Int32), Mc) = some (r, Mc') ∧ some ((-2 : Int32), st Mr 0 0 0) = some (r, Mr') ∧ Rel Mc' Mr' := ⟨_, _, _, rfl, rfl, h.kr hk⟩
  unfold f_X10_luck f_X11_luck
  rw [letv_eq, show f_X11_isSeed a (st Mr 0 0 0) = if 0 ≤ a.toInt ∧ a.toInt ≤ (2000000000 : Nat) then 1 else 0 from in_le a (n := 2000000000) (by decide) _, ite01, pieceC (hN.2.1.1 7 (by omega)) (by omega), pieceR hN.1 hN1.2.2.1, ite01, bnd_s, ite01, in_eq, ite01, Int32.toInt_toInt64, show (1 : Int64).toInt = 1 from rfl, show (20 : Int64).toInt = 20 from rfl]
  have e20 : (20 : Int32).toInt = 20 := rfl
  have e1 : (1 : Int32).toInt = 1 := rfl
  have hb20 : (¬ (1 ≤ b.toInt ∧ b.toInt ≤ 20) ∧ (b < 1 ∨ (¬ b < 1 ∧ ¬ b ≤ 20))) ∨ (1 ≤ b.toInt ∧ b.toInt ≤ 20 ∧ ¬ b < 1 ∧ b ≤ 20 ∧ ∃ m, m ≤ 20 ∧ b = io m) := by
    rcases below b 21 with q | ⟨m, hm, rfl, hm2⟩
    · refine Or.inl ⟨fun w => q ⟨by omega, by omega⟩, ?_⟩
      by_cases c : b < 1
      · exact Or.inl c
      · have := Int32.le_iff_toInt_le.mp (Int32.not_lt.mp c)
        exact Or.inr ⟨c, fun w => by have := Int32.le_iff_toInt_le.mp w; exact q ⟨by omega, by omega⟩⟩
    · by_cases c : m = 0
      · subst c
        exact Or.inl ⟨by rw [io_toInt (by omega)]; omega, Or.inl (by decide)⟩
      · refine Or.inr ⟨by rw [io_toInt hm2]; omega, by rw [io_toInt hm2]; omega, fun w => by have := (io_lt (b := 1) hm2 (by omega)).mp w; omega, (io_le (b := 20) hm2 (by omega)).mpr (by omega), m, by omega, rfl⟩
  rcases below d (L.1 7) with hb | ⟨p, hp, rfl, hp2⟩
  · rw [if_neg hb, if_neg hb]
    have : ∀ (c1 c2 : Prop) [Decidable c1] [Decidable c2] (x : Option (Int32 × Mem)), (if c1 then if c2 then x else x else x) = x := by
      intro c1 c2 _ _ x
      by_cases q1 : c1
      · rw [if_pos q1]; by_cases q2 : c2
        · rw [if_pos q2]
        · rw [if_neg q2]
      · rw [if_neg q1]
    rw [this]; exact bad
  rw [if_pos (pos_io hp hp2), if_pos (pos_io hp hp2)]
  rcases seed2 a with ⟨p1, p2⟩ | ⟨p1, p2, p3, p4⟩
  · rw [if_neg p1]
    rcases p2 with p2 | ⟨p2, p3, p4⟩
    · rw [if_pos p2]; exact bad
    · rw [if_neg p2, if_neg p4]; exact bad
  rw [if_neg p2, if_pos p4, if_pos p1]
  rcases hb20 with ⟨q1, q2⟩ | ⟨q1, q2, q3, q4, m, hm, rfl⟩
  · rw [if_neg q1]
    rcases q2 with q2 | ⟨q2, q3⟩
    · rw [if_pos q2]; exact bad
    · rw [if_neg q2, if_neg q3]; exact bad
  rw [if_neg q3, if_pos q4, if_pos ⟨q1, q2⟩, bnd2_id]
  have h0 := hN.1.pos (i := 7) (by omega)
  have hpw : 2 ^ p < 64 := Nat.lt_of_lt_of_le (Nat.pow_lt_pow_right (by decide) (show p < 6 by omega)) (by decide)
  refine twoWays (h.kr hk) (v := io (cN (luS L a p) m)) ?_ ?_
  · unfold f_X4_timesSound
    obtain ⟨r, ⟨r1, r2⟩, hq⟩ := in3x (b := L_X4_timesSound_6 a (io m) (io p)) (fun i x y M2 => x = io (cN (luS L a p) i) ∧ y = io i ∧ KC Mc M2) (fun r => r.1 = io (cN (luS L a p) m) ∧ KC Mc r.2) m (x := 0) (y := 0) (z := Mc) ⟨rfl, rfl, KC.refl⟩ (by omega) (fun i x y M2 hi w => by
      obtain ⟨rfl, rfl, k2⟩ := w
      have hC2 := hN.2.1.kc k2 (by omega)
      have hd := drD_lt hN.1 (a.toInt64 + (io i).toInt64)
      obtain ⟨M', e, hT, hk'⟩ := draw59 (d := drD L (a.toInt64 + (io i).toInt64)) (u := L.1 1) (pw := 2 ^ p) hN.1 h0 hC2 hd (by omega) hpw
      rw [show min (L.1 1) 14 = L.1 1 by omega] at hT
      refine ⟨io (cN (luS L a p) (i + 1)), io (i + 1), M', ⟨rfl, rfl, k2.trans hk'⟩, fun K => ?_⟩
      unfold L_X4_timesSound_6 f_X2_neverCracked
      rw [if_neg (by rw [io_le (by omega) (by omega)]; omega), if_neg (show ¬ (20 : Int32) ≤ io i from fun q => by have := (io_le (a := 20) (by omega) (by omega)).mp q; omega), drawsC hN.1 hC2, bnd_s, show M2.1 14 1 = io (L.1 1) from hC2.1 1 (by omega), show (1 : Int32) <<< (io p &&& 31) = io (2 ^ p) from io_shl (by omega), e, bnd_s, uncrC (P := 14) (o := 59) (K6 := 63) rc_59.2.1 rc_59.2.2.2.2.2.1 (n := L.1 7) (by omega) ((hC2.kc hk' (by omega)).1 7 (by omega)), bnd_s, bnd_s]
      have hbs := bN_small (fun p => decide (M'.1 63 p = m1) || !decide (M'.1 63 p ≤ 14)) (n := L.1 7) (by omega)
      rw [show (io (bN (fun p => decide (M'.1 63 p = m1) || !decide (M'.1 63 p ≤ 14)) (L.1 7)) >>> (io p &&& 31)) &&& (1 : Int32) = io (if (bN (fun p => decide (M'.1 63 p = m1) || !decide (M'.1 63 p ≤ 14)) (L.1 7)).testBit p then 1 else 0) from io_shr hbs (by omega), bN_tb, decide_eq_true hp, Bool.true_and, crackX (x := 14) ((Lk.dr hN.1 h0 hd).ok hN.1) hp (hT p hp (Or.inr (by rw [Nat.testBit_two_pow]; simp))).2.2.1 rfl, show (1 : Int32) = io 1 from rfl, io_add, io_add]
      simp only [cN]
      by_cases c : luS L a p i = true
      · rw [if_pos c, if_pos (show snd (rcf L L.1 L.2.2.1 L.2.1 (drD L (a.toInt64 + (io i).toInt64)) (L.1 6)) p = true from c), if_neg (show ¬ io 1 = (0 : Int32) by decide)]
      · rw [if_neg c, if_neg (show ¬ snd (rcf L L.1 L.2.2.1 L.2.1 (drD L (a.toInt64 + (io i).toInt64)) (L.1 6)) p = true from c), if_pos (show io 0 = (0 : Int32) from rfl)]; rfl) (fun x y M2 w => by
      obtain ⟨rfl, rfl, k2⟩ := w
      refine ⟨(io (cN (luS L a p) m), M2), ⟨rfl, k2⟩, fun K => ?_⟩
      unfold L_X4_timesSound_6
      rw [if_pos (by rw [io_le (by omega) (by omega)]; omega)])
    exact ⟨r.2, by rw [hq, ← r1], r2⟩
  · obtain ⟨r, ⟨r1, r2⟩, hq⟩ := in3x (b := L_X11_luck_42 a (io m) (io p)) (fun i x y M2 => x = io (cN (luS L a p) i) ∧ y = io i ∧ KR (st Mr 0 0 0) M2) (fun r => r.1 = io (cN (luS L a p) m) ∧ KR (st Mr 0 0 0) r.2) m (x := 0) (y := 0) (z := st Mr 0 0 0) ⟨rfl, rfl, KR.refl⟩ (by omega) (fun i x y M2 hi w => by
      obtain ⟨rfl, rfl, k2⟩ := w
      obtain ⟨M', e, -, -, hs, k3⟩ := drawsR hN.1 h0 (hN1.2.2.1.kr k2) (a.toInt64 + (io i).toInt64)
      have hsp := hs p hp
      refine ⟨io (cN (luS L a p) (i + 1)), io (i + 1), M', ⟨rfl, rfl, k2.trans k3⟩, fun K => ?_⟩
      unfold L_X11_luck_42
      rw [if_neg (by rw [io_le (by omega) (by omega)]; omega), e, bnd_s, oob_f (show p < 6 by omega) (by omega), ix_io (by omega)]
      simp only [Bool.false_eq_true, if_false, letv_eq, cN]
      by_cases c : luS L a p i = true
      · rw [if_pos c, if_pos (show M'.1 19 p = -1 from hsp.mpr c), show (1 : Int32) = io 1 from rfl, io_add, io_add]
      · rw [if_neg c, if_neg (show ¬ M'.1 19 p = -1 from fun q => c (hsp.mp q)), show (1 : Int32) = io 1 from rfl, show (0 : Int32) = io 0 from rfl, io_add, io_add]) (fun x y M2 w => by
      obtain ⟨rfl, rfl, k2⟩ := w
      refine ⟨(io (cN (luS L a p) m), M2), ⟨rfl, k2⟩, fun K => ?_⟩
      unfold L_X11_luck_42
      rw [if_pos (by rw [io_le (by omega) (by omega)]; omega)])
    exact ⟨r.2, by rw [hq, ← r1], r2⟩
