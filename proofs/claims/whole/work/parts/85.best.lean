/-! BEST of paces and of laws -/
def numK (i j n : Nat) : Prop := (i = 2 ∧ j = 22 ∧ n ≤ 3) ∨ (i = 4 ∧ j = 23 ∧ 1 ≤ n ∧ n ≤ 6)
def numF (L : Lh) (i n : Nat) : Cf := rcf L (fu L.1 i n) L.2.2.1 L.2.1 0 (L.1 6)
theorem Lk.num {L : Lh} (hL : OkL L) (h0 : 0 < L.1 0) {i j n : Nat} (hk : numK i j n) : Lk L (fu L.1 i n) L.2.2.1 L.2.1 0 (L.1 6) := by
  have g := hL.2.2.1
  obtain ⟨⟨a1, a2, a3, a4, a5, a6⟩, b, c, d, e⟩ := Lk.now hL h0
  rcases hk with ⟨rfl, -, hn⟩ | ⟨rfl, -, hn⟩
  · refine ⟨⟨fu_ne (by decide), fu_ne (by decide), fu_ne (by decide), by rw [fu_eq]; exact hn, by rw [fu_ne (by decide)]; exact a5, by rw [fu_ne (by decide)]; exact a6⟩, b, c, fun z hz => d z (by rw [fu_ne (by decide)] at hz; exact hz), e⟩
  · refine ⟨⟨fu_ne (by decide), fu_ne (by decide), fu_ne (by decide), by rw [fu_ne (by decide)]; exact a4, by rw [fu_eq]; exact hn, by rw [fu_ne (by decide)]; exact a6⟩, b, c, fun z hz => d z (by rw [fu_ne (by decide)] at hz; exact hz), e⟩
theorem numT {L : Lh} {M : Mem} {i j n : Nat} (hL : OkL L) (h0 : 0 < L.1 0) (hC : RpC 14 L M) (hk : numK i j n) : ∃ M1, f_X1_copyFrom 34 13 M = some M1 ∧ Tc (numF L i n) (st M1 35 i (io n)) ∧ KC M (st M1 35 i (io n)) := by
  obtain ⟨M1, e1, hC1, k1⟩ := copyT hL hC
  refine ⟨M1, e1, ?_, k1.sto (by omega)⟩
  have hi : i ≠ 6 := by rcases hk with hk | hk <;> omega
  refine Tc_mod hL hC1 (Lk.num hL h0 hk) (fu_ne (by omega)) (stne (by decide)) (stne (by decide)) (stne (by decide)) (stne (by decide)) (fun q hq => ?_) (fun z hz => by rw [stne (by decide)]; exact hC1.2.2.1 z hz) (fun p hp => by rw [stne (by decide), stne (by decide)]; exact ⟨(hC1.2.2.2.1 p hp).2.1, (hC1.2.2.2.1 p hp).2.2.1⟩)
  by_cases c : q = i
  · subst c; rw [fu_eq]; simp [st]
  · rw [fu_ne c, st_rd (fun h => c h.2)]; exact numsOf hC1 q hq
theorem numS {L : Lh} {M : Mem} {i j n : Nat} (hL : OkL L) (h0 : 0 < L.1 0) (hR : RpR 0 L M) (hk : numK i j n) : ∃ M1 M2, f_X11_lays M = some M1 ∧ f_X11_runs (st M1 0 j (io n)) = some M2 ∧ f_X11_soundNow M2 = some (io (nvc (numF L i n))) ∧ KR M M2 := by
  obtain ⟨M1, e1, ⟨⟨s1, s2, s3, s4, s5⟩, s6, s7⟩, k1⟩ := rLays hL hR
  have hlk := Lk.num hL h0 hk
  have k2 : KR M (st M1 0 j (io n)) := k1.st0 (by rcases hk with ⟨-, rfl, -⟩ | ⟨-, rfl, -⟩ <;> decide)
  have hs : Ls L (fu L.1 i n) L.2.2.1 L.2.1 0 (L.1 6) (st M1 0 j (io n)) := by
    unfold Ls
    rw [stne (M := M1) (i := 12) (a := 0) (by decide), stne (M := M1) (i := 13) (a := 0) (by decide), stne (M := M1) (i := 14) (a := 0) (by decide)]
    refine ⟨?_, fun z hz => s6 z (by rcases hk with ⟨rfl, -, hn⟩ | ⟨rfl, -, hn⟩ <;> rw [fu_ne (by decide)] at hz <;> exact hz), s7⟩
    rcases hk with ⟨rfl, rfl, hn⟩ | ⟨rfl, rfl, hn⟩
    · simp [st, fu, s2, s3, s4, s5]
    · simp [st, fu, s1, s3, s4, s5]
  have hR2 := hR.kr k2
  obtain ⟨M2, e2, hT, -, k3⟩ := rRuns hL hR2 hlk hs
  exact ⟨M1, M2, e1, e2, rSound hL (hlk.ok hL) (hR2.kr k3) hlk.1.2.2.1 hlk.1.1 hT, k2.trans k3⟩
def popF (L : Lh) (i n : Nat) : Nat := pop (nvc (numF L i n))
theorem popF_d {L : Lh} {i n : Nat} : pop (nvc (numF L i n)) = popF L i n := Eq.refl _
theorem numF_lt {L : Lh} {i j n : Nat} (hL : OkL L) (h0 : 0 < L.1 0) (hk : numK i j n) : nvc (numF L i n) < 64 := nvc_lt ((Lk.num hL h0 hk).ok hL)
theorem paceC {L : Lh} {M : Mem} {n : Nat} (hL : OkL L) (h0 : 0 < L.1 0) (hC : RpC 14 L M) (hn : 1 ≤ n ∧ n ≤ 6) : ∃ M', f_X9_soundByPace (io n) M = some (io (popF L 4 n), M') ∧ KC M M' := by
  have hk : numK 4 23 n := Or.inr ⟨rfl, rfl, hn⟩
  obtain ⟨M1, e1, hT, k1⟩ := numT hL h0 hC hk
  obtain ⟨M2, e2, f2⟩ := tCount ((Lk.num hL h0 hk).ok hL) hT
  unfold f_X9_soundByPace
  rw [e1, bnd_s, letv_eq, e2, bnd2_s]
  exact ⟨M2, rfl, k1.trans (fr49 f2)⟩
theorem lawC {L : Lh} {M : Mem} {n : Nat} (hL : OkL L) (h0 : 0 < L.1 0) (hC : RpC 14 L M) (hn : n ≤ 3) : ∃ M', f_X9_soundBitsByLaw (io n) M = some (io (nvc (numF L 2 n)), M') ∧ KC M M' := by
  have hk : numK 2 22 n := Or.inl ⟨rfl, rfl, hn⟩
  obtain ⟨M1, e1, hT, k1⟩ := numT hL h0 hC hk
  obtain ⟨M2, e2, f2⟩ := tBits ((Lk.num hL h0 hk).ok hL) hT
  unfold f_X9_soundBitsByLaw
  rw [e1, bnd_s, letv_eq, e2, bnd2_s]
  exact ⟨M2, rfl, k1.trans (fr49 f2)⟩
theorem paceR {L : Lh} {M : Mem} {n : Nat} (hL : OkL L) (h0 : 0 < L.1 0) (hR : RpR 0 L M) (hn : 1 ≤ n ∧ n ≤ 6) : ∃ M', f_X11_soundBy (io n) M = some (io (popF L 4 n), M') ∧ KR M M' := by
  have hk : numK 4 23 n := Or.inr ⟨rfl, rfl, hn⟩
  obtain ⟨M1, M2, e1, e2, e3, k1⟩ := numS hL h0 hR hk
  unfold f_X11_soundBy
  rw [e1, bnd_s, letv_eq, e2, bnd_s, e3, bnd_s, sizc (by have := numF_lt hL h0 hk; omega), bnd_s]
  exact ⟨M2, rfl, k1⟩
theorem lawR {L : Lh} {M : Mem} {n : Nat} (hL : OkL L) (h0 : 0 < L.1 0) (hR : RpR 0 L M) (hn : n ≤ 3) : ∃ M', f_X11_byLaw (io n) M = some (io (nvc (numF L 2 n)), M') ∧ KR M M' := by
  have hk : numK 2 22 n := Or.inl ⟨rfl, rfl, hn⟩
  obtain ⟨M1, M2, e1, e2, e3, k1⟩ := numS hL h0 hR hk
  unfold f_X11_byLaw
  rw [e1, bnd_s, letv_eq, e2, bnd_s, e3, bnd_s]
  exact ⟨M2, rfl, k1⟩
/-- the first of the greatest -/
def best (v : Nat → Nat) (a : Nat) : Nat → Nat
  | 0 => a
  | n + 1 => if v (a + n + 1) ≤ v (best v a n) then best v a n else a + n + 1
theorem best_in (v : Nat → Nat) (a : Nat) : ∀ n, a ≤ best v a n ∧ best v a n ≤ a + n
  | 0 => ⟨Nat.le_refl _, Nat.le_refl _⟩
  | n + 1 => by
    have := best_in v a n
    simp only [best]
    split <;> omega
theorem popF_lt {L : Lh} {i j n : Nat} (hL : OkL L) (h0 : 0 < L.1 0) (hk : numK i j n) : popF L i n < 2147483648 :=
  Nat.lt_of_le_of_lt (pop_le _) (by decide)
theorem bestPC {L : Lh} {M : Mem} (hL : OkL L) (h0 : 0 < L.1 0) (hC : RpC 14 L M) : ∃ M', f_X9_bestPace M = some (io (best (popF L 4) 1 5), M') ∧ KC M M' := by
  obtain ⟨M1, e1, k1⟩ := paceC (n := 1) hL h0 hC (by omega)
  unfold f_X9_bestPace
  rw [show (1 : Int32) = io 1 from rfl, e1, bnd2_s]
  obtain ⟨r, ⟨r1, r2⟩, hr⟩ := in4x (b := L_X9_bestPace_10) (fun i x y z M2 => x = io (best (popF L 4) 1 i) ∧ y = io (popF L 4 (best (popF L 4) 1 i)) ∧ z = io (2 + i) ∧ KC M M2) (fun r => r.1 = io (best (popF L 4) 1 5) ∧ KC M r.2) 5 (x := io 1) (y := io (popF L 4 1)) (z := 2) (w := M1) ⟨rfl, rfl, rfl, k1⟩ (by omega) (fun i x y z M2 hi h => by
      obtain ⟨rfl, rfl, rfl, k2⟩ := h
      obtain ⟨M3, e3, k3⟩ := paceC (n := 2 + i) hL h0 (hC.kc k2 (by omega)) (by omega)
      have hb := best_in (popF L 4) 1 i
      have l1 := popF_lt (i := 4) (j := 23) (n := 2 + i) hL h0 (Or.inr ⟨rfl, rfl, by omega⟩)
      have l2 := popF_lt (i := 4) (j := 23) (n := best (popF L 4) 1 i) hL h0 (Or.inr ⟨rfl, rfl, by omega⟩)
      refine ⟨io (best (popF L 4) 1 (i + 1)), io (popF L 4 (best (popF L 4) 1 (i + 1))), io (2 + (i + 1)), M3, ⟨rfl, rfl, rfl, k2.trans k3⟩, fun K => ?_⟩
      unfold L_X9_bestPace_10
      simp only [lit]
      rw [if_neg (by rw [io_lt (by omega) (by omega)]; omega), e3, bnd2_s, io_add]
      simp only [best]
      rw [show 1 + i + 1 = 2 + i by omega]
      by_cases c : popF L 4 (2 + i) ≤ popF L 4 (best (popF L 4) 1 i)
      · rw [if_pos ((io_le l1 l2).mpr c), if_pos c]; rfl
      · rw [if_neg (fun q => c ((io_le l1 l2).mp q)), if_neg c]; rfl) (fun x y z M2 h => by
      obtain ⟨rfl, rfl, rfl, k2⟩ := h
      refine ⟨(_, M2), ⟨rfl, k2⟩, fun K => ?_⟩
      unfold L_X9_bestPace_10
      rw [if_pos (by decide)]; rfl)
  exact ⟨r.2, by rw [hr, ← r1], r2⟩
theorem bestPR {L : Lh} {M : Mem} (hL : OkL L) (h0 : 0 < L.1 0) (hR : RpR 0 L M) : ∃ M', f_X11_bestPace M = some (io (best (popF L 4) 1 5), M') ∧ KR M M' := by
  unfold f_X11_bestPace
  obtain ⟨r, ⟨r1, r2⟩, hr⟩ := in3x (b := L_X11_bestPace_4) (fun i x z M2 => x = io (best (popF L 4) 1 i) ∧ z = io (2 + i) ∧ KR M M2) (fun r => r.1 = io (best (popF L 4) 1 5) ∧ KR M r.2) 5 (x := 1) (y := 2) (z := M) ⟨rfl, rfl, KR.refl⟩ (by omega) (fun i x z M2 hi h => by
      obtain ⟨rfl, rfl, k2⟩ := h
      have hb := best_in (popF L 4) 1 i
      obtain ⟨M3, e3, k3⟩ := paceR (n := 2 + i) hL h0 (hR.kr k2) (by omega)
      obtain ⟨M4, e4, k4⟩ := paceR (n := best (popF L 4) 1 i) hL h0 (hR.kr (k2.trans k3)) (by omega)
      have l1 := popF_lt (i := 4) (j := 23) (n := 2 + i) hL h0 (Or.inr ⟨rfl, rfl, by omega⟩)
      have l2 := popF_lt (i := 4) (j := 23) (n := best (popF L 4) 1 i) hL h0 (Or.inr ⟨rfl, rfl, by omega⟩)
      refine ⟨io (best (popF L 4) 1 (i + 1)), io (2 + (i + 1)), M4, ⟨rfl, rfl, (k2.trans k3).trans k4⟩, fun K => ?_⟩
      unfold L_X11_bestPace_4
      simp only [lit]
      rw [if_neg (by rw [io_lt (by omega) (by omega)]; omega), e3, bnd2_s, e4, bnd2_s, io_add]
      simp only [best]
      rw [show 1 + i + 1 = 2 + i by omega]
      by_cases c : popF L 4 (2 + i) ≤ popF L 4 (best (popF L 4) 1 i)
      · rw [if_pos ((io_le l1 l2).mpr c), if_pos c]; rfl
      · rw [if_neg (fun q => c ((io_le l1 l2).mp q)), if_neg c]; rfl) (fun x z M2 h => by
      obtain ⟨rfl, rfl, k2⟩ := h
      refine ⟨(_, M2), ⟨rfl, k2⟩, fun K => ?_⟩
      unfold L_X11_bestPace_4
      rw [if_pos (by decide)]; rfl)
  exact ⟨r.2, by rw [hr, ← r1], r2⟩
theorem bestLC {L : Lh} {M : Mem} (hL : OkL L) (h0 : 0 < L.1 0) (hC : RpC 14 L M) : ∃ M', f_X9_bestLaw M = some (io (best (popF L 2) 0 3), M') ∧ KC M M' := by
  obtain ⟨M1, e1, k1⟩ := lawC (n := 0) hL h0 hC (by omega)
  have g0 := numF_lt (i := 2) (j := 22) (n := 0) hL h0 (Or.inl ⟨rfl, rfl, by omega⟩)
  unfold f_X9_bestLaw
  rw [show f_X9_soundBitsByLaw 0 M = f_X9_soundBitsByLaw (io 0) M from rfl, e1, bnd2_s, letv_eq, bitc (by omega)]
  obtain ⟨r, ⟨r1, r2⟩, hr⟩ := in4x (b := L_X9_bestLaw_13) (fun i x y z M2 => x = io (best (popF L 2) 0 i) ∧ y = io (popF L 2 (best (popF L 2) 0 i)) ∧ z = io (1 + i) ∧ KC M M2) (fun r => r.1 = io (best (popF L 2) 0 3) ∧ KC M r.2) 3 (x := 0) (y := io (pop (nvc (numF L 2 0)))) (z := 1) (w := M1) ⟨rfl, rfl, rfl, k1⟩ (by omega) (fun i x y z M2 hi h => by
      obtain ⟨rfl, rfl, rfl, k2⟩ := h
      obtain ⟨M3, e3, k3⟩ := lawC (n := 1 + i) hL h0 (hC.kc k2 (by omega)) (by omega)
      have hb := best_in (popF L 2) 0 i
      have g1 := numF_lt (i := 2) (j := 22) (n := 1 + i) hL h0 (Or.inl ⟨rfl, rfl, by omega⟩)
      have l1 := popF_lt (i := 2) (j := 22) (n := 1 + i) hL h0 (Or.inl ⟨rfl, rfl, by omega⟩)
      have l2 := popF_lt (i := 2) (j := 22) (n := best (popF L 2) 0 i) hL h0 (Or.inl ⟨rfl, rfl, by omega⟩)
      refine ⟨io (best (popF L 2) 0 (i + 1)), io (popF L 2 (best (popF L 2) 0 (i + 1))), io (1 + (i + 1)), M3, ⟨rfl, rfl, rfl, k2.trans k3⟩, fun K => ?_⟩
      unfold L_X9_bestLaw_13
      simp only [lit]
      rw [if_neg (by rw [io_le (by omega) (by omega)]; omega), e3, bnd2_s, io_add, letv_eq, bitc (by omega), popF_d]
      simp only [best]
      rw [show 0 + i + 1 = 1 + i by omega]
      by_cases c : popF L 2 (1 + i) ≤ popF L 2 (best (popF L 2) 0 i)
      · rw [if_pos ((io_le l1 l2).mpr c), if_pos c]; rfl
      · rw [if_neg (fun q => c ((io_le l1 l2).mp q)), if_neg c]; rfl) (fun x y z M2 h => by
      obtain ⟨rfl, rfl, rfl, k2⟩ := h
      refine ⟨(_, M2), ⟨rfl, k2⟩, fun K => ?_⟩
      unfold L_X9_bestLaw_13
      rw [if_pos (by decide)]; rfl)
  exact ⟨r.2, by rw [hr, ← r1], r2⟩
theorem bestLR {L : Lh} {M : Mem} (hL : OkL L) (h0 : 0 < L.1 0) (hR : RpR 0 L M) : ∃ M', lq3 (L_X11_law_19) FU 0 1 M = some (io (best (popF L 2) 0 3), M') ∧ KR M M' := by
  obtain ⟨r, ⟨r1, r2⟩, hr⟩ := in3x (b := L_X11_law_19) (fun i x z M2 => x = io (best (popF L 2) 0 i) ∧ z = io (1 + i) ∧ KR M M2) (fun r => r.1 = io (best (popF L 2) 0 3) ∧ KR M r.2) 3 (x := 0) (y := 1) (z := M) ⟨rfl, rfl, KR.refl⟩ (by omega) (fun i x z M2 hi h => by
      obtain ⟨rfl, rfl, k2⟩ := h
      have hb := best_in (popF L 2) 0 i
      obtain ⟨M3, e3, k3⟩ := lawR (n := 1 + i) hL h0 (hR.kr k2) (by omega)
      obtain ⟨M4, e4, k4⟩ := lawR (n := best (popF L 2) 0 i) hL h0 (hR.kr (k2.trans k3)) (by omega)
      have g1 := numF_lt (i := 2) (j := 22) (n := 1 + i) hL h0 (Or.inl ⟨rfl, rfl, by omega⟩)
      have g2 := numF_lt (i := 2) (j := 22) (n := best (popF L 2) 0 i) hL h0 (Or.inl ⟨rfl, rfl, by omega⟩)
      have l1 := popF_lt (i := 2) (j := 22) (n := 1 + i) hL h0 (Or.inl ⟨rfl, rfl, by omega⟩)
      have l2 := popF_lt (i := 2) (j := 22) (n := best (popF L 2) 0 i) hL h0 (Or.inl ⟨rfl, rfl, by omega⟩)
      refine ⟨io (best (popF L 2) 0 (i + 1)), io (1 + (i + 1)), M4, ⟨rfl, rfl, (k2.trans k3).trans k4⟩, fun K => ?_⟩
      unfold L_X11_law_19
      simp only [lit]
      rw [if_neg (by rw [io_le (by omega) (by omega)]; omega), e3, bnd2_s, sizc (by omega), bnd_s, e4, bnd2_s, sizc (by omega), bnd_s, io_add, popF_d, popF_d]
      simp only [best]
      rw [show 0 + i + 1 = 1 + i by omega]
      by_cases c : popF L 2 (1 + i) ≤ popF L 2 (best (popF L 2) 0 i)
      · rw [if_pos ((io_le l1 l2).mpr c), if_pos c]; rfl
      · rw [if_neg (fun q => c ((io_le l1 l2).mp q)), if_neg c]; rfl) (fun x z M2 h => by
      obtain ⟨rfl, rfl, k2⟩ := h
      refine ⟨(_, M2), ⟨rfl, k2⟩, fun K => ?_⟩
      unfold L_X11_law_19
      rw [if_pos (by decide)]; rfl)
  exact ⟨r.2, by rw [hr, ← r1], r2⟩
/-- a lehr is asked for -/
theorem opT2 {d : Int32} {fc fr : Mem → Option (Int32 × Mem)} (qc qr : Mem → Option (Int32 × Mem)) (ec : ∀ M, fc M = if f_X5_isTold 14 M = 0 then some (d, M) else qc M) (er : ∀ M, fr M = bnd (f_X11_isLehr (st M 0 0 0)) (fun r => if r = 0 then some (d, st M 0 0 0) else qr (st M 0 0 0))) (H : ∀ L Mc Mr, OkL L → 0 < L.1 0 → RpC 14 L Mc → RpR 0 L Mr → ∃ v, (∃ M', qc Mc = some (v, M') ∧ KC Mc M') ∧ ∃ M', qr Mr = some (v, M') ∧ KR Mr M') : ∀ (Mc Mr : Mem), Rel Mc Mr → ∃ (r : Int32) (Mc' Mr' : Mem), fc Mc = some (r, Mc') ∧ fr Mr = some (r, Mr') ∧ Rel Mc' Mr' := by
  intro Mc Mr h
  obtain ⟨hX, L, hN⟩ := h.split
  have hk := kr0 Mr
  have hN1 := hN.kr hk
  have g := hN.1.2.2.1
  rw [ec, er, toldC (hN.2.1.1 0 (by omega)) (by omega), lehrR hN.1 hN1.2.2.1]
  rw [bnd_s, ite01, ite01]
  by_cases h0 : 0 < L.1 0
  · rw [if_pos h0, if_pos h0]
    obtain ⟨v, hc, hr⟩ := H L Mc (st Mr 0 0 0) hN.1 h0 hN.2.1 hN1.2.2.1
    exact twoWays (h.kr hk) hc hr
  · rw [if_neg h0, if_neg h0]
    exact ⟨d, Mc, _, rfl, rfl, h.kr hk⟩
theorem op_53 : ∀ (Mc Mr : Mem), Rel Mc Mr → ∃ (r : Int32) (Mc' Mr' : Mem), f_X10_pace Mc = some (r, Mc') ∧ f_X11_pace Mr = some (r, Mr') ∧ Rel Mc' Mr' :=
  opT2 (fun M => f_X9_bestPace M) (fun M => f_X11_bestPace M) (fun M => by unfold f_X10_pace; rw [bnd2_id]) (fun M => by unfold f_X11_pace; simp only [letv_eq, bnd2_id]) (fun L Mc Mr hL h0 hC hR => ⟨_, bestPC hL h0 hC, bestPR hL h0 hR⟩)
theorem op_54 : ∀ (Mc Mr : Mem), Rel Mc Mr → ∃ (r : Int32) (Mc' Mr' : Mem), f_X10_paced Mc = some (r, Mc') ∧ f_X11_paced Mr = some (r, Mr') ∧ Rel Mc' Mr' :=
  opT2 (fun M => bnd2 (f_X9_bestPace M) (fun r2 M4 => bnd2 (f_X9_soundByPace r2 M4) (fun r5 M7 => some (r5, M7)))) (fun M => bnd2 (f_X11_bestPace M) (fun r5 M7 => bnd2 (f_X11_soundBy r5 M7) (fun r8 M10 => some (r8, M10)))) (fun M => rfl) (fun M => rfl) (fun L Mc Mr hL h0 hC hR => by
    have hb := best_in (popF L 4) 1 5
    refine ⟨io (popF L 4 (best (popF L 4) 1 5)), ?_, ?_⟩
    · obtain ⟨M1, e1, k1⟩ := bestPC hL h0 hC
      obtain ⟨M2, e2, k2⟩ := paceC hL h0 (hC.kc k1 (by omega)) (n := best (popF L 4) 1 5) (by omega)
      exact ⟨M2, by rw [e1, bnd2_s, e2, bnd2_s], k1.trans k2⟩
    · obtain ⟨M1, e1, k1⟩ := bestPR hL h0 hR
      obtain ⟨M2, e2, k2⟩ := paceR hL h0 (hR.kr k1) (n := best (popF L 4) 1 5) (by omega)
      exact ⟨M2, by rw [e1, bnd2_s, e2, bnd2_s], k1.trans k2⟩)
theorem op_65 : ∀ (Mc Mr : Mem), Rel Mc Mr → ∃ (r : Int32) (Mc' Mr' : Mem), f_X10_law Mc = some (r, Mc') ∧ f_X11_law Mr = some (r, Mr') ∧ Rel Mc' Mr' :=
  opT2 (fun M => f_X9_bestLaw M) (fun M => lq3 (L_X11_law_19) FU 0 1 M) (fun M => by unfold f_X10_law; rw [bnd2_id]) (fun M => rfl) (fun L Mc Mr hL h0 hC hR => ⟨_, bestLC hL h0 hC, bestLR hL h0 hR⟩)
theorem op_64 : ∀ (Mc Mr : Mem) (a1 : Int32), Rel Mc Mr → ∃ (r : Int32) (Mc' Mr' : Mem), f_X10_by a1 Mc = some (r, Mc') ∧ f_X11_by a1 Mr = some (r, Mr') ∧ Rel Mc' Mr' := fun Mc Mr a h =>
  opT2 (fc := fun M => f_X10_by a M) (fr := fun M => f_X11_by a M) (fun M => if a < 0 then some (-2, M) else if a < 4 then bnd2 (f_X9_soundBitsByLaw a M) (fun r4 M6 => some (r4, M6)) else some (-2, M)) (fun M => if (f_X11_in (a.toInt64) (0 : Int64) (3 : Int64) M) = 0 then some (-2, M) else bnd2 (f_X11_byLaw a M) (fun r6 M8 => some (r6, M8))) (fun M => rfl) (fun M => rfl) (fun L Mc Mr hL h0 hC hR => by
    rw [show f_X11_in (a.toInt64) (0 : Int64) (3 : Int64) Mr = if 0 ≤ a.toInt ∧ a.toInt ≤ (3 : Nat) then 1 else 0 from in_le a (n := 3) (by decide) Mr, ite01]
    rcases below a 4 with hb | ⟨p, hp, rfl, hp2⟩
    · refine ⟨-2, ⟨Mc, ?_, KC.refl⟩, Mr, ?_, KR.refl⟩
      · by_cases c : a < 0
        · rw [if_pos c]
        · rw [if_neg c, if_neg (fun q => hb ⟨Int32.le_iff_toInt_le.mp (Int32.not_lt.mp c), Int32.lt_iff_toInt_lt.mp q⟩)]
      · rw [if_neg (fun q => hb ⟨q.1, by omega⟩)]
    · refine ⟨io (nvc (numF L 2 p)), ?_, ?_⟩
      · rw [if_neg (show ¬ io p < (0 : Int32) from fun q => by have := (io_lt (b := 0) hp2 (by omega)).mp q; omega), if_pos (show io p < (4 : Int32) from (io_lt (b := 4) hp2 (by omega)).mpr hp)]
        obtain ⟨M1, e1, k1⟩ := lawC (n := p) hL h0 hC (by omega)
        exact ⟨M1, by rw [e1, bnd2_s], k1⟩
      · rw [if_pos (pos_le (n := 3) (by omega) hp2)]
        obtain ⟨M1, e1, k1⟩ := lawR (n := p) hL h0 hR (by omega)
        exact ⟨M1, by rw [e1, bnd2_s], k1⟩) Mc Mr h
