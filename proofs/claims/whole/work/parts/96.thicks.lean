/-! THICKS and LAWS: a bit for each number that agrees -/
def tS (L : Lh) (p n : Nat) (T : Tr) (i : Nat) : Bool := decide (1 ≤ i) && agB (rcf L L.1 (fu2 L.2.2.1 p 1 i) L.2.1 0 (L.1 6)) T n
def lS (L : Lh) (n : Nat) (T : Tr) (i : Nat) : Bool := agB (numF L 2 i) T n
theorem thicksC {L : Lh} {M : Mem} {p k n : Nat} {v : Nat → Int64} {T : Tr} (hL : OkL L) (h0 : 0 < L.1 0) (hC : RpC 14 L M) (hp : p < L.1 7) (hk : k < 4) (hn : n ≤ 20) (hr : RoC k n v M) (hv : SeV v n T) (hK : SeK L n T) : ∃ M', f_X9_thicksSeen (103 + 2 * k) (io p) M = some (io (bN (tS L p n T) 10), M') ∧ KC M M' := by
  have g := hL.2.2.1
  obtain ⟨M1, e1, hC1, k1⟩ := copyT hL hC
  unfold f_X9_thicksSeen
  rw [e1, bnd_s, pieceC (hC1.1 7 (by omega)) (by omega), ite01, if_pos (pos_io hp (by omega))]
  obtain ⟨r, ⟨r1, r2⟩, hq⟩ := in3x (b := L_X9_thicksSeen_32 (103 + 2 * k) (io p)) (fun i x y M2 => x = io (bN (tS L p n T) (i + 1)) ∧ y = io (i + 1) ∧ (∀ a, a ∈ [35, 36, 37, 39, 40, 41, 45] → M2.1 a = M1.1 a) ∧ (∀ q, q ≠ p → M2.1 38 q = M1.1 38 q) ∧ KC M M2) (fun r => r.1 = io (bN (tS L p n T) 10) ∧ KC M r.2) 9 (x := 0) (y := 1) (z := M1) ⟨rfl, rfl, fun _ _ => rfl, fun _ _ => rfl, k1⟩ (by omega) (fun i x y M2 hi h => by
      obtain ⟨rfl, rfl, g1, g2, k2⟩ := h
      have hlk := Lk.pz hL h0 (p := p) (w := 1) (n := i + 1) (Or.inl ⟨rfl, by omega, by omega⟩)
      have hT : Tc (rcf L L.1 (fu2 L.2.2.1 p 1 (i + 1)) L.2.1 0 (L.1 6)) (st M2 38 p (io (i + 1))) := by
        refine Tc_pz hL h0 hC1 (Or.inl ⟨rfl, by omega, by omega⟩) hp (fun a ha => ?_) (fun q => ?_) (fun q => ?_)
        · rw [stne (by revert a; decide)]; exact g1 a (by revert a; decide)
        · by_cases c : q = p
          · subst c; simp [st]
          · rw [if_neg (fun q => c q.1), st_rd (fun q => c q.2)]; exact g2 q c
        · rw [if_neg (by omega), stne (by decide)]; rw [g1 39 (by decide)]
      have kst : KC M2 (st M2 38 p (io (i + 1))) := KC.refl.sto (by omega)
      obtain ⟨M3, e3, f3⟩ := agreesC (hlk.ok hL) (Eq.refl (L.1 7)) hT hk hn ((hr.kc k2).kc kst) hv hK (by omega)
      obtain ⟨w1, w2⟩ := rbit31 (f := tS L p n T) (c := i + 1) (by omega)
      refine ⟨io (bN (tS L p n T) (i + 1 + 1)), io (i + 1 + 1), M3, ⟨rfl, rfl, fun a ha => ?_, fun q hq => ?_, (k2.trans kst).trans (fr49 f3)⟩, fun K => ?_⟩
      · rw [f3.1 a (by revert a; decide), stne (by revert a; decide)]; exact g1 a ha
      · rw [f3.1 38 (by decide), st_rd (fun w => hq w.2)]; exact g2 q hq
      · unfold L_X9_thicksSeen_32
        rw [if_neg (show ¬ (9 : Int32) < io (i + 1) from fun q => by have := (io_lt (a := 9) (by omega) (by omega)).mp q; omega), oob_f (show p < 6 by omega) (by omega), ix_io (by omega)]
        simp only [Bool.false_eq_true, if_false, letv_eq]
        rw [e3, bnd2_s, show io (i + 1) + (1 : Int32) = io (i + 1 + 1) from io_add _ 1]
        by_cases c : agB (rcf L L.1 (fu2 L.2.2.1 p 1 (i + 1)) L.2.1 0 (L.1 6)) T n = true
        · rw [if_pos c, if_neg (show ¬ (1 : Int32) = 0 by decide), w1 (by unfold tS; rw [c, decide_eq_true (by omega)]; rfl)]
        · rw [if_neg c, if_pos rfl, w2 (by unfold tS; rw [Bool.not_eq_true _ |>.mp c]; simp)]) (fun x y M2 h => by
      obtain ⟨rfl, rfl, g1, g2, k2⟩ := h
      refine ⟨(io (bN (tS L p n T) 10), M2), ⟨rfl, k2⟩, fun K => ?_⟩
      unfold L_X9_thicksSeen_32
      rw [if_pos (by decide)])
  exact ⟨r.2, by rw [hq, ← r1], r2⟩
theorem thicksR {L : Lh} {M : Mem} {p k n : Nat} {v : Nat → Int64} {T : Tr} (hL : OkL L) (h0 : 0 < L.1 0) (hR : RpR 0 L M) (hp : p < L.1 7) (hk : k < 4) (hn : n ≤ 20) (hr : RoR k n v M) (hv : SeV v n T) (hK : SeK L n T) : ∃ M', lq3 (L_X11_thicks_29 (io k) (io p)) FU 0 1 M = some (io (bN (tS L p n T) 10), M') ∧ KR M M' := by
  have g := hL.2.2.1
  obtain ⟨r, ⟨r1, r2⟩, hq⟩ := in3x (b := L_X11_thicks_29 (io k) (io p)) (fun i x y M2 => x = io (bN (tS L p n T) (i + 1)) ∧ y = io (i + 1) ∧ KR M M2) (fun r => r.1 = io (bN (tS L p n T) 10) ∧ KR M r.2) 9 (x := 0) (y := 1) (z := M) ⟨rfl, rfl, KR.refl⟩ (by omega) (fun i x y M2 hi h => by
      obtain ⟨rfl, rfl, k2⟩ := h
      have hlk := Lk.pz hL h0 (p := p) (w := 1) (n := i + 1) (Or.inl ⟨rfl, by omega, by omega⟩)
      obtain ⟨M7, e7, hs7, k7⟩ := rLays hL (hR.kr k2)
      have hs8 : Ls L L.1 (fu2 L.2.2.1 p 1 (i + 1)) L.2.1 0 (L.1 6) (st M7 13 p (io (i + 1))) := by
        obtain ⟨a, b, c⟩ := hs7
        refine ⟨by rw [stne (by decide)]; exact a, fun z hz => by rw [stne (by decide)]; exact b z hz, fun q hq => ?_⟩
        have := c q hq
        constructor
        · by_cases cq : q = p
          · subst cq; rw [fu2_eq]; simp [st]
          · rw [fu2_ne (by omega), st_rd (fun q => cq q.2), this.1]
        · rw [fu2_ne (by omega), stne (by decide), this.2]
      have k8 : KR M (st M7 13 p (io (i + 1))) := (k2.trans k7).sto (by decide)
      obtain ⟨M9, e9, eso, k9, -⟩ := soR hL (hR.kr k8) hlk hs8 hk hn (hr.kr k8) hv hK
      obtain ⟨w1, w2⟩ := rbit31 (f := tS L p n T) (c := i + 1) (by omega)
      refine ⟨io (bN (tS L p n T) (i + 1 + 1)), io (i + 1 + 1), M9, ⟨rfl, rfl, k8.trans k9⟩, fun K => ?_⟩
      unfold L_X11_thicks_29
      rw [if_neg (show ¬ (9 : Int32) < io (i + 1) from fun q => by have := (io_lt (a := 9) (by omega) (by omega)).mp q; omega), e7, bnd_s, oob_f (show p < 6 by omega) (by omega), ix_io (by omega)]
      simp only [Bool.false_eq_true, if_false, letv_eq]
      rw [e9, bnd_s, eso, bnd_s, show io (i + 1) + (1 : Int32) = io (i + 1 + 1) from io_add _ 1]
      by_cases c : agB (rcf L L.1 (fu2 L.2.2.1 p 1 (i + 1)) L.2.1 0 (L.1 6)) T n = true
      · rw [if_pos c, if_neg (show ¬ (1 : Int32) = 0 by decide), w1 (by unfold tS; rw [c, decide_eq_true (by omega)]; rfl)]
      · rw [if_neg c, if_pos rfl, orN0, w2 (by unfold tS; rw [Bool.not_eq_true _ |>.mp c]; simp)]) (fun x y M2 h => by
      obtain ⟨rfl, rfl, k2⟩ := h
      refine ⟨(io (bN (tS L p n T) 10), M2), ⟨rfl, k2⟩, fun K => ?_⟩
      unfold L_X11_thicks_29
      rw [if_pos (by decide)])
  exact ⟨r.2, by rw [hq, ← r1], r2⟩
theorem op_62 : ∀ (Mc Mr : Mem) (a1 a2 : Int32), Rel Mc Mr → ∃ (r : Int32) (Mc' Mr' : Mem), f_X10_thicks a1 a2 Mc = some (r, Mc') ∧ f_X11_thicks a1 a2 Mr = some (r, Mr') ∧ Rel Mc' Mr' := by
  intro Mc Mr a b h
  obtain ⟨hX, L, hN⟩ := h.split
  have hk := kr0 Mr
  have hN1 := hN.kr hk
  have g := hN.1.2.2.1
  unfold f_X10_thicks f_X11_thicks
  rw [letv_eq, pieceC (hN.2.1.1 7 (by omega)) (by omega), pieceR hN.1 hN1.2.2.1, bnd_s]
  rcases refuse (hX.kr hk) hN1 a (if 0 ≤ b.toInt ∧ b.toInt < L.1 7 then 1 else 0) (if 0 ≤ b.toInt ∧ b.toInt < L.1 7 then 1 else 0) (fun _ => Iff.rfl) (fun hz => if_neg (fun q => by have := hN.1.1 hz 7; omega)) with ⟨r, hr, q1, q2⟩ | ⟨q1, q2, h0, hp, k, n, v, T, hk4, hn, rfl, c1, c2, c3, c4⟩
  · rw [q1, q2, bnd_s, bnd_s, if_neg hr, if_neg hr]
    exact ⟨_, _, _, rfl, rfl, h.kr hk⟩
  · rw [q1, q2, bnd_s, bnd_s, if_pos rfl, if_pos rfl, rowC_some hk4]
    simp only [optc]
    rcases below b (L.1 7) with hb | ⟨p, hp2, rfl, hz2⟩
    · exact absurd (if_neg hb) hp
    · rw [bnd2_id]
      exact twoWays (h.kr hk) (thicksC hN.1 h0 hN.2.1 hp2 hk4 hn c1 c3 c4) (thicksR hN.1 h0 hN1.2.2.1 hp2 hk4 hn c2 c3 c4)
theorem lawsC {L : Lh} {M : Mem} {k n : Nat} {v : Nat → Int64} {T : Tr} (hL : OkL L) (h0 : 0 < L.1 0) (hC : RpC 14 L M) (hk : k < 4) (hn : n ≤ 20) (hr : RoC k n v M) (hv : SeV v n T) (hK : SeK L n T) : ∃ M', f_X9_lawsSeen (103 + 2 * k) M = some (io (bN (lS L n T) 4), M') ∧ KC M M' := by
  have g := hL.2.2.1
  obtain ⟨M1, e1, hC1, k1⟩ := copyT hL hC
  unfold f_X9_lawsSeen
  rw [e1, bnd_s]
  obtain ⟨r, ⟨r1, r2⟩, hq⟩ := in3x (b := L_X9_lawsSeen_15 (103 + 2 * k)) (fun i x y M2 => x = io (bN (lS L n T) i) ∧ y = io i ∧ (∀ a, a ∈ [36, 37, 38, 39, 40, 41, 45] → M2.1 a = M1.1 a) ∧ (∀ q, q ≠ 2 → M2.1 35 q = M1.1 35 q) ∧ KC M M2) (fun r => r.1 = io (bN (lS L n T) 4) ∧ KC M r.2) 4 (x := 0) (y := 0) (z := M1) ⟨rfl, rfl, fun _ _ => rfl, fun _ _ => rfl, k1⟩ (by omega) (fun i x y M2 hi h => by
      obtain ⟨rfl, rfl, g1, g2, k2⟩ := h
      have hkk : numK 2 22 i := Or.inl ⟨rfl, rfl, by omega⟩
      have hlk := Lk.num hL h0 hkk
      have hT : Tc (numF L 2 i) (st M2 35 2 (io i)) := by
        refine Tc_mod hL hC1 hlk (fu_ne (by omega)) (by rw [stne (by decide)]; exact g1 41 (by decide)) (by rw [stne (by decide)]; exact g1 45 (by decide)) (by rw [stne (by decide)]; exact g1 37 (by decide)) (by rw [stne (by decide)]; exact g1 40 (by decide)) (fun q hq => ?_) (fun z hz => by rw [stne (by decide), g1 36 (by decide)]; exact hC1.2.2.1 z hz) (fun p hp => by rw [stne (by decide), stne (by decide), g1 38 (by decide), g1 39 (by decide)]; exact ⟨(hC1.2.2.2.1 p hp).2.1, (hC1.2.2.2.1 p hp).2.2.1⟩)
        by_cases c : q = 2
        · subst c; rw [fu_eq]; simp [st]
        · rw [fu_ne c, st_rd (fun h => c h.2), g2 q c]; exact numsOf hC1 q hq
      have kst : KC M2 (st M2 35 2 (io i)) := KC.refl.sto (by omega)
      obtain ⟨M3, e3, f3⟩ := agreesC (hlk.ok hL) (show (numF L 2 i).1 7 = L.1 7 from hlk.1.2.2.1) hT hk hn ((hr.kc k2).kc kst) hv hK (by omega)
      obtain ⟨w1, w2⟩ := rbit31 (f := lS L n T) (c := i) (by omega)
      refine ⟨io (bN (lS L n T) (i + 1)), io (i + 1), M3, ⟨rfl, rfl, fun a ha => ?_, fun q hq => ?_, (k2.trans kst).trans (fr49 f3)⟩, fun K => ?_⟩
      · rw [f3.1 a (by revert a; decide), stne (by revert a; decide)]; exact g1 a ha
      · rw [f3.1 35 (by decide), st_rd (fun w => hq w.2)]; exact g2 q hq
      · unfold L_X9_lawsSeen_15
        rw [if_neg (show ¬ (4 : Int32) ≤ io i from fun q => by have := (io_le (a := 4) (by omega) (by omega)).mp q; omega)]
        simp only [letv_eq]
        rw [e3, bnd2_s, show io i + (1 : Int32) = io (i + 1) from io_add _ 1]
        by_cases c : agB (rcf L (fu L.1 2 i) L.2.2.1 L.2.1 0 (L.1 6)) T n = true
        · rw [if_pos c, if_neg (show ¬ (1 : Int32) = 0 by decide), w1 c]
        · rw [if_neg c, if_pos rfl, w2 (Bool.not_eq_true _ |>.mp c)]) (fun x y M2 h => by
      obtain ⟨rfl, rfl, g1, g2, k2⟩ := h
      refine ⟨(io (bN (lS L n T) 4), M2), ⟨rfl, k2⟩, fun K => ?_⟩
      unfold L_X9_lawsSeen_15
      rw [if_pos (by decide)])
  exact ⟨r.2, by rw [hq, ← r1], r2⟩
theorem lawsR {L : Lh} {M : Mem} {k n : Nat} {v : Nat → Int64} {T : Tr} (hL : OkL L) (h0 : 0 < L.1 0) (hR : RpR 0 L M) (hk : k < 4) (hn : n ≤ 20) (hr : RoR k n v M) (hv : SeV v n T) (hK : SeK L n T) : ∃ M', lq3 (L_X11_laws_23 (io k)) FU 0 0 M = some (io (bN (lS L n T) 4), M') ∧ KR M M' := by
  have g := hL.2.2.1
  obtain ⟨r, ⟨r1, r2⟩, hq⟩ := in3x (b := L_X11_laws_23 (io k)) (fun i x y M2 => x = io (bN (lS L n T) i) ∧ y = io i ∧ KR M M2) (fun r => r.1 = io (bN (lS L n T) 4) ∧ KR M r.2) 4 (x := 0) (y := 0) (z := M) ⟨rfl, rfl, KR.refl⟩ (by omega) (fun i x y M2 hi h => by
      obtain ⟨rfl, rfl, k2⟩ := h
      have hkk : numK 2 22 i := Or.inl ⟨rfl, rfl, by omega⟩
      have hlk := Lk.num hL h0 hkk
      obtain ⟨M7, e7, ⟨⟨s1, s2, s3, s4, s5⟩, s6, s7⟩, k7⟩ := rLays hL (hR.kr k2)
      have hs8 : Ls L (fu L.1 2 i) L.2.2.1 L.2.1 0 (L.1 6) (st M7 0 22 (io i)) := by
        unfold Ls
        rw [stne (M := M7) (i := 12) (a := 0) (by decide), stne (M := M7) (i := 13) (a := 0) (by decide), stne (M := M7) (i := 14) (a := 0) (by decide)]
        refine ⟨?_, fun z hz => s6 z (by rw [fu_ne (by decide)] at hz; exact hz), s7⟩
        simp [st, fu, s2, s3, s4, s5]
      have k8 : KR M (st M7 0 22 (io i)) := (k2.trans k7).st0 (by decide)
      obtain ⟨M9, e9, eso, k9, -, esn⟩ := soR hL (hR.kr k8) hlk hs8 hk hn (hr.kr k8) hv hK
      obtain ⟨w1, w2⟩ := rbit31 (f := lS L n T) (c := i) (by omega)
      refine ⟨io (bN (lS L n T) (i + 1)), io (i + 1), M9, ⟨rfl, rfl, k8.trans k9⟩, fun K => ?_⟩
      unfold L_X11_laws_23 f_X11_byLaw
      rw [if_neg (show ¬ (4 : Int32) ≤ io i from fun q => by have := (io_le (a := 4) (by omega) (by omega)).mp q; omega), e7, bnd_s]
      simp only [letv_eq]
      rw [e9, bnd_s, esn, bnd_s, bnd2_s, eso, bnd_s, show io i + (1 : Int32) = io (i + 1) from io_add _ 1]
      by_cases c : agB (rcf L (fu L.1 2 i) L.2.2.1 L.2.1 0 (L.1 6)) T n = true
      · rw [if_pos c, if_neg (show ¬ (1 : Int32) = 0 by decide), w1 c]
      · rw [if_neg c, if_pos rfl, orN0, w2 (Bool.not_eq_true _ |>.mp c)]) (fun x y M2 h => by
      obtain ⟨rfl, rfl, k2⟩ := h
      refine ⟨(io (bN (lS L n T) 4), M2), ⟨rfl, k2⟩, fun K => ?_⟩
      unfold L_X11_laws_23
      rw [if_pos (by decide)])
  exact ⟨r.2, by rw [hq, ← r1], r2⟩
theorem op_63 : ∀ (Mc Mr : Mem) (a1 : Int32), Rel Mc Mr → ∃ (r : Int32) (Mc' Mr' : Mem), f_X10_laws a1 Mc = some (r, Mc') ∧ f_X11_laws a1 Mr = some (r, Mr') ∧ Rel Mc' Mr' := by
  intro Mc Mr a h
  obtain ⟨hX, L, hN⟩ := h.split
  have hk := kr0 Mr
  have hN1 := hN.kr hk
  have g := hN.1.2.2.1
  unfold f_X10_laws f_X11_laws
  rw [letv_eq, toldC (hN.2.1.1 0 (by omega)) (by omega)]
  rcases refuse (hX.kr hk) hN1 a (if 0 < L.1 0 then 1 else 0) 1 (fun q => by rw [if_pos q]) (fun hz => if_neg (by omega)) with ⟨r, hr, q1, q2⟩ | ⟨q1, q2, h0, hp, k, n, v, T, hk4, hn, rfl, c1, c2, c3, c4⟩
  · rw [q1, q2, bnd_s, bnd_s, if_neg hr, if_neg hr]
    exact ⟨_, _, _, rfl, rfl, h.kr hk⟩
  · rw [q1, q2, bnd_s, bnd_s, if_pos rfl, if_pos rfl, rowC_some hk4]
    simp only [optc]
    rw [bnd2_id]
    exact twoWays (h.kr hk) (lawsC hN.1 h0 hN.2.1 hk4 hn c1 c3 c4) (lawsR hN.1 h0 hN1.2.2.1 hk4 hn c2 c3 c4)
