/-! SPARE and NEEDS -/
def cB (L : Lh) : Cf := rcf L L.1 L.2.2.1 L.2.1 0 (L.1 6)
def stN (L : Lh) (p : Nat) : Nat := strN (cB L) p (cm L p + L.1 6 * L.1 4)
theorem cB_pl {L : Lh} (hL : OkL L) (h0 : 0 < L.1 0) (p : Nat) : ∀ s, plc (cB L) p s = 10 ↔ cm L p + L.1 6 * L.1 4 ≤ s := fun s => plc_out hL h0 p s
theorem cB_ok {L : Lh} (hL : OkL L) (h0 : 0 < L.1 0) {p n : Nat} (hn : n ≤ 1000000) : OkC (wb (cB L) p n) := (Lk.pz hL h0 (p := p) (w := 2) (n := n) (Or.inr ⟨rfl, hn⟩)).ok hL
theorem snd_b {L : Lh} (hL : OkL L) (h0 : 0 < L.1 0) {p b : Nat} (hp : p < L.1 7) : snd (rcf L L.1 (fu2 L.2.2.1 p 2 b) L.2.1 0 (L.1 6)) p = true ↔ stN L p ≤ b :=
  snd_iff (c := cB L) (cB_ok hL h0 (by omega)) hp (cB_pl hL h0 p)
theorem stN_le {L : Lh} (hL : OkL L) (h0 : 0 < L.1 0) {p : Nat} (hp : p < L.1 7) : stN L p ≤ 40000 ∧ (∀ s, stU (cB L) p s ≤ 20000) := by
  have hok := cB_ok hL h0 (p := p) (n := 1000000) (by omega)
  have h1 : ∀ s, stU (cB L) p s ≤ 20000 := fun s => apt_le (run_le hok s p hp).1 (run_le hok s p hp).2
  refine ⟨?_, h1⟩
  unfold stN strN
  have h2 := h1 (bestN (stU (cB L) p) ((cB L).1 1))
  have h3 : dbl (UU (cB L) p ((cB L).1 1) p).2.2.1 ≤ 40000 := by
    have hq := (run_ok hok ((cB L).1 1) p hp).1
    cases hz : (UU (cB L) p ((cB L).1 1) p).2.2.1 with
    | none => simp [dbl]
    | some m => have := hq m hz; simp only [dbl]; omega
  split
  · omega
  · omega
theorem strengthC {L : Lh} {M : Mem} {p : Nat} (hL : OkL L) (h0 : 0 < L.1 0) (hC : RpC 14 L M) (hp : p < L.1 7) : ∃ M', f_X9_strengthFor (io p) M = some (io (stN L p), M') ∧ KC M M' := by
  have g := hL.2.2.1
  obtain ⟨M1, e1, hC1, k1⟩ := copyT hL hC
  have hok := cB_ok hL h0 (p := p) (n := 1000000) (by omega)
  have hT : Tc (wb (cB L) p 1000000) (st M1 39 p (io 1000000)) := by
    refine Tc_pz hL h0 hC1 (Or.inr ⟨rfl, by omega⟩) hp (fun a ha => stne (by revert a; decide)) (fun q => ?_) (fun q => ?_)
    · rw [if_neg (by omega), stne (by decide)]
    · by_cases c : q = p
      · subst c; simp [st]
      · rw [if_neg (fun q => c q.1), st_rd (fun q => c q.2)]
  have hpw : 2 ^ p < 64 := Nat.lt_of_lt_of_le (Nat.pow_lt_pow_right (by decide) (show p < 6 by omega)) (by decide)
  obtain ⟨M9, e9, hC9, hF⟩ := trial (u := L.1 1) (pw := 2 ^ p) hok hT (by omega) hpw
  rw [show min (L.1 1) 14 = L.1 1 by omega] at hC9
  have hc := hC9 p hp (Or.inr (by rw [Nat.testBit_two_pow]; simp))
  have n35 : ∀ i, i < 8 → M9.1 35 i = io (L.1 i) := fun i hi => by rw [hF.1 35 (by decide), stne (by decide)]; exact hC1.1 i hi
  have n40 : M9.1 40 p = io (cm L p) := by rw [hF.1 40 (by decide), stne (by decide)]; exact (hC1.2.2.2.1 p hp).2.2.2
  obtain ⟨hs1, hs2⟩ := stN_le hL h0 hp
  have hsa : ∀ s, s ≤ L.1 1 → f_X2_strainAt 49 (io p) (io s) M9 = some (io (stU (cB L) p s)) := by
    intro s hs
    have hl := run_le hok s p hp
    unfold f_X2_strainAt f_X2_valueAt
    rw [show rC 49 1 = 35 by decide, show rC 49 4 = 51 by decide, show rC 49 5 = 52 by decide, pieceC (n35 7 (by omega)) (by omega), ite01, if_pos (pos_io hp (by omega)), if_neg (show ¬ io s < (0 : Int32) from fun q => by have := (io_lt (b := 0) (by omega) (by omega)).mp q; omega), if_pos (show io s < (15 : Int32) from (io_lt (b := 15) (by omega) (by omega)).mpr (by omega)), letv_eq, if_neg (show ¬ (2 : Int32) = 0 by decide), if_neg (show ¬ (2 : Int32) = 1 by decide), show (15 : Int32) = io 15 from rfl, io_mul, io_add, oob_f (by omega) (by omega), ix_io (by omega), (hc.2.1 s hs).1, (hc.2.1 s hs).2, abs_io (by omega) (by omega)]
    rfl
  have hpk : f_X2_peakOf 49 (io p) M9 = some (io (stU (cB L) p (bestN (stU (cB L) p) (L.1 1)))) := by
    have e : f_X2_peakStepOf 49 (io p) M9 = some (io (bestN (stU (cB L) p) (L.1 1))) := by
      unfold f_X2_peakStepOf
      refine up2 (fun i => io (bestN (stU (cB L) p) i)) (fun i => io (i + 1)) (L.1 1) rfl rfl (by omega) (fun i hi K => ?_) (fun K => ?_)
      · unfold L_X2_peakStepOf_4
        have q1 := bestN_le (stU (cB L) p) i
        have q2 := hs2 (i + 1)
        have q3 := hs2 (bestN (stU (cB L) p) i)
        rw [show rC 49 1 = 35 by decide, n35 1 (by omega), if_neg (by rw [io_lt (by omega) (by omega)]; omega), hsa _ (by omega), hsa _ (by omega)]
        simp only [bnd_s, lit, io_add, bestN]
        by_cases hh : stU (cB L) p (i + 1) ≤ stU (cB L) p (bestN (stU (cB L) p) i)
        · rw [if_pos (by rw [io_le (by omega) (by omega)]; exact hh), if_pos hh]
        · rw [if_neg (by rw [io_le (by omega) (by omega)]; exact hh), if_neg hh]
      · unfold L_X2_peakStepOf_4
        rw [show rC 49 1 = 35 by decide, n35 1 (by omega), if_pos (by rw [io_lt (by omega) (by omega)]; omega)]
    unfold f_X2_peakOf
    rw [e, bnd_s, hsa _ (bestN_le _ _), bnd_s]
  have hcm : cm L p ≤ 14 := (hL.2.2.2.2.1 p hp).2.2.2
  have hzp : L.1 6 * L.1 4 ≤ 7 * 4 := Nat.mul_le_mul g.2.2.2.2.2.2.1 g.2.2.2.2.1
  have hlv : f_X5_leavingStep 35 (io p) M9 = some (if cm L p + L.1 6 * L.1 4 ≤ L.1 1 then io (cm L p + L.1 6 * L.1 4) else m1) := by
    unfold f_X5_leavingStep
    rw [pieceC (n35 7 (by omega)) (by omega), ite01, if_pos (pos_io hp (by omega)), show rC 35 12 = 40 by decide, n35 6 (by omega), n35 4 (by omega), n35 1 (by omega)]
    simp (disch := omega) only [oob_f, Bool.false_eq_true, if_false, ix_io, n40, letv_eq, io_mul, io_add]
    by_cases c : cm L p + L.1 6 * L.1 4 ≤ L.1 1
    · rw [if_neg (by rw [io_lt (by omega) (by omega)]; omega), if_pos c]
    · rw [if_pos (by rw [io_lt (by omega) (by omega)]; omega), if_neg c]; rfl
  refine ⟨M9, ?_, (k1.sto (by omega)).trans (fr49 hF)⟩
  unfold f_X9_strengthFor
  rw [e1, bnd_s, pieceC (hC1.1 7 (by omega)) (by omega), ite01, if_pos (pos_io hp (by omega)), oob_f (show p < 6 by omega) (by omega), ix_io (by omega)]
  simp only [Bool.false_eq_true, if_false, letv_eq]
  rw [show (1000000 : Int32) = io 1000000 from rfl, show (st M1 39 p (io 1000000)).1 35 1 = io (L.1 1) from by rw [stne (by decide)]; exact hC1.1 1 (by omega), show (1 : Int32) <<< (io p &&& 31) = io (2 ^ p) from io_shl (by omega), e9, bnd_s, hpk, bnd_s, hlv, bnd_s]
  unfold stN strN
  show _ = some (io (max (stU (cB L) p (bestN (stU (cB L) p) (L.1 1))) (if cm L p + L.1 6 * L.1 4 ≤ L.1 1 then dbl (UU (cB L) p (L.1 1) p).2.2.1 else 0)), M9)
  have hb := hs2 (bestN (stU (cB L) p) (L.1 1))
  by_cases c : cm L p + L.1 6 * L.1 4 ≤ L.1 1
  · rw [if_pos c, if_pos c, if_neg (show ¬ io (cm L p + L.1 6 * L.1 4) = -1 from fun q => (io_m1 (a := cm L p + L.1 6 * L.1 4) (by omega)).mp q)]
    have hz := hc.2.2.2.2.1
    rw [hz]
    show some (f_max _ (2 * oi (UU (cB L) p (L.1 1) p).2.2.1), M9) = _
    have hq := (run_ok hok (L.1 1) p hp).1
    cases hzz : (UU (cB L) p (L.1 1) p).2.2.1 with
    | none =>
      simp only [dbl]
      rw [show (2 : Int32) * oi none = -2 by decide, show max (stU (cB L) p (bestN (stU (cB L) p) (L.1 1))) 0 = stU (cB L) p (bestN (stU (cB L) p) (L.1 1)) by omega]
      unfold f_max
      rw [if_neg (fun q => by
        have := Int32.lt_iff_toInt_lt.mp q
        rw [io_toInt (by omega), show (-2 : Int32).toInt = -2 by decide] at this
        omega)]
    | some m =>
      have := hq m hzz
      simp only [dbl]
      rw [show oi (some m) = io m from rfl, show (2 : Int32) = io 2 from rfl, io_mul, max_io (by omega) (by omega)]
  · rw [if_neg c, if_neg c, if_pos (show m1 = (-1 : Int32) from rfl), show max (stU (cB L) p (bestN (stU (cB L) p) (L.1 1))) 0 = stU (cB L) p (bestN (stU (cB L) p) (L.1 1)) by omega]
/-- the reference with other bears -/
theorem bearR {L : Lh} {M : Mem} {p b : Nat} (hL : OkL L) (h0 : 0 < L.1 0) (hR : RpR 0 L M) (hp : p < L.1 7) (hb : b ≤ 1000000) (hs : ∃ n, Ls L L.1 (fu2 L.2.2.1 p 2 n) L.2.1 0 (L.1 6) M) : ∃ M', f_X11_isSound (io p) (st M 14 p (io b)) = some (if stN L p ≤ b then 1 else 0, M') ∧ (∃ n, Ls L L.1 (fu2 L.2.2.1 p 2 n) L.2.1 0 (L.1 6) M') ∧ KR M M' := by
  obtain ⟨n, a, b', c⟩ := hs
  have hlk := Lk.pz hL h0 (p := p) (w := 2) (n := b) (Or.inr ⟨rfl, hb⟩)
  have hs2 : Ls L L.1 (fu2 L.2.2.1 p 2 b) L.2.1 0 (L.1 6) (st M 14 p (io b)) := by
    refine ⟨by rw [stne (by decide)]; exact a, fun z hz => by rw [stne (by decide)]; exact b' z hz, fun q hq => ?_⟩
    have := c q hq
    constructor
    · rw [fu2_ne (by omega), stne (by decide), this.1, fu2_ne (by omega)]
    · by_cases cq : q = p
      · subst cq; rw [fu2_eq]; simp [st]
      · rw [fu2_ne (by omega), st_rd (fun q => cq q.2), this.2, fu2_ne (by omega)]
  have k3 : KR M (st M 14 p (io b)) := KR.refl.sto (by decide)
  obtain ⟨M3, e3, hs3, k4⟩ := rIsSound hL (hR.kr k3) hlk hs2 hp
  refine ⟨M3, ?_, ⟨_, hs3⟩, k3.trans k4⟩
  rw [e3]
  have hi := snd_b hL h0 (b := b) hp
  by_cases q : stN L p ≤ b
  · rw [if_pos (hi.mpr q), if_pos q]
  · rw [if_neg (fun w => q (hi.mp w)), if_neg q]
theorem nowB {L : Lh} {p : Nat} : fu2 L.2.2.1 p 2 (L.2.2.1 p 2) = L.2.2.1 := by
  funext q v
  unfold fu2
  split
  · rename_i h; rw [h.1, h.2]
  · rfl
theorem op_51 : ∀ (Mc Mr : Mem) (a1 : Int32), Rel Mc Mr → ∃ (r : Int32) (Mc' Mr' : Mem), f_X10_needs a1 Mc = some (r, Mc') ∧ f_X11_needs a1 Mr = some (r, Mr') ∧ Rel Mc' Mr' :=
  opP2 (fun a M => bnd2 (f_X9_strengthFor a M) (fun r2 M4 => if r2 ≤ 300 then some (r2, M4) else some ((-1), M4))) (fun a M => bnd (f_X11_lays M) (fun M7 => lq2 (L_X11_needs_23 a) FU 0 M7)) (fun _ _ => rfl) (fun _ _ => rfl) (fun L p Mc Mr hp hL h0 hC hR => by
    have g := hL.2.2.1
    obtain ⟨hs1, -⟩ := stN_le hL h0 hp
    refine ⟨if stN L p ≤ 300 then io (stN L p) else m1, ?_, ?_⟩
    · obtain ⟨M1, e1, k1⟩ := strengthC hL h0 hC hp
      refine ⟨M1, ?_, k1⟩
      rw [e1, bnd2_s]
      by_cases c : stN L p ≤ 300
      · rw [if_pos (show io (stN L p) ≤ (300 : Int32) from (io_le (b := 300) (by omega) (by omega)).mpr c), if_pos c]
      · rw [if_neg (show ¬ io (stN L p) ≤ (300 : Int32) from fun q => c ((io_le (b := 300) (by omega) (by omega)).mp q)), if_neg c]; rfl
    · obtain ⟨M1, e1, hs, k1⟩ := rLays hL hR
      rw [e1, bnd_s]
      have step : ∀ i M2, i < 301 → (∃ n, Ls L L.1 (fu2 L.2.2.1 p 2 n) L.2.1 0 (L.1 6) M2) → KR Mr M2 → ∃ M3, (∃ n, Ls L L.1 (fu2 L.2.2.1 p 2 n) L.2.1 0 (L.1 6) M3) ∧ KR Mr M3 ∧ ∀ K, L_X11_needs_23 (io p) K (io i) M2 = if stN L p ≤ i then some (io i, M3) else K (io (i + 1)) M3 := by
        intro i M2 hi hs k2
        obtain ⟨M3, e3, hs3, k3⟩ := bearR (b := i) hL h0 (hR.kr k2) hp (by omega) hs
        refine ⟨M3, hs3, k2.trans k3, fun K => ?_⟩
        unfold L_X11_needs_23
        rw [if_neg (show ¬ (300 : Int32) < io i from fun q => by have := (io_lt (a := 300) (by omega) (by omega)).mp q; omega), oob_f (show p < 6 by omega) (by omega), ix_io (by omega)]
        simp only [Bool.false_eq_true, if_false, letv_eq]
        rw [e3, bnd2_s]
        by_cases c : stN L p ≤ i
        · rw [if_pos c, if_pos c, if_neg (show ¬ (1 : Int32) = 0 by decide)]
        · rw [if_neg c, if_neg c, if_pos rfl, show (1 : Int32) = io 1 from rfl, io_add]
      have hs0 : ∃ n, Ls L L.1 (fu2 L.2.2.1 p 2 n) L.2.1 0 (L.1 6) M1 := ⟨L.2.2.1 p 2, by rw [nowB]; exact hs⟩
      by_cases c : stN L p ≤ 300
      · rw [if_pos c]
        obtain ⟨r, ⟨r1, r2⟩, hr⟩ := in2x (b := L_X11_needs_23 (io p)) (fun i x M2 => x = io i ∧ (∃ n, Ls L L.1 (fu2 L.2.2.1 p 2 n) L.2.1 0 (L.1 6) M2) ∧ KR Mr M2) (fun r => r.1 = io (stN L p) ∧ KR Mr r.2) (stN L p) (x := 0) (y := M1) ⟨rfl, hs0, k1⟩ (by omega) (fun i x M2 hi h => by
          obtain ⟨rfl, g1, k2⟩ := h
          obtain ⟨M3, g3, k3, he⟩ := step i M2 (by omega) g1 k2
          exact ⟨io (i + 1), M3, ⟨rfl, g3, k3⟩, fun K => by rw [he, if_neg (by omega)]⟩) (fun x M2 h => by
          obtain ⟨rfl, g1, k2⟩ := h
          obtain ⟨M3, g3, k3, he⟩ := step (stN L p) M2 (by omega) g1 k2
          exact ⟨(io (stN L p), M3), ⟨rfl, k3⟩, fun K => by rw [he, if_pos (Nat.le_refl _)]⟩)
        exact ⟨r.2, by rw [hr, ← r1], r2⟩
      · rw [if_neg c]
        obtain ⟨r, ⟨r1, r2⟩, hr⟩ := in2x (b := L_X11_needs_23 (io p)) (fun i x M2 => x = io i ∧ (∃ n, Ls L L.1 (fu2 L.2.2.1 p 2 n) L.2.1 0 (L.1 6) M2) ∧ KR Mr M2) (fun r => r.1 = m1 ∧ KR Mr r.2) 301 (x := 0) (y := M1) ⟨rfl, hs0, k1⟩ (by omega) (fun i x M2 hi h => by
          obtain ⟨rfl, g1, k2⟩ := h
          obtain ⟨M3, g3, k3, he⟩ := step i M2 (by omega) g1 k2
          exact ⟨io (i + 1), M3, ⟨rfl, g3, k3⟩, fun K => by rw [he, if_neg (by omega)]⟩) (fun x M2 h => by
          obtain ⟨rfl, g1, k2⟩ := h
          refine ⟨(m1, M2), ⟨rfl, k2⟩, fun K => ?_⟩
          unfold L_X11_needs_23
          rw [if_pos (by decide)]; rfl)
        exact ⟨r.2, by rw [hr, ← r1], r2⟩)
theorem op_50 : ∀ (Mc Mr : Mem) (a1 : Int32), Rel Mc Mr → ∃ (r : Int32) (Mc' Mr' : Mem), f_X10_spare a1 Mc = some (r, Mc') ∧ f_X11_spare a1 Mr = some (r, Mr') ∧ Rel Mc' Mr' :=
  opP2 (fun a M => if oob a 6 = true then none else bnd2 (f_X9_strengthFor a M) (fun r3 M5 => letv ((M.1 18 (ix a)) - r3) (fun x6 => if (0 : Int32) ≤ x6 then some (x6, M5) else some ((-1), M5)))) (fun a M => bnd (f_X11_lays M) (fun M7 => bnd2 (f_X11_isSound a M7) (fun r8 M10 => if r8 = 0 then some ((-1), M10) else lq2 (L_X11_spare_33 a) FU 0 M10))) (fun _ _ => rfl) (fun _ _ => rfl) (fun L p Mc Mr hp hL h0 hC hR => by
    have g := hL.2.2.1
    obtain ⟨hs1, -⟩ := stN_le hL h0 hp
    have hbb := (hL.2.2.2.2.1 p hp).2.2.1
    refine ⟨if stN L p ≤ L.2.2.1 p 2 then io (L.2.2.1 p 2 - stN L p) else m1, ?_, ?_⟩
    · obtain ⟨M1, e1, k1⟩ := strengthC hL h0 hC hp
      refine ⟨M1, ?_, k1⟩
      rw [oob_f (show p < 6 by omega) (by omega), e1]
      simp only [Bool.false_eq_true, if_false]
      rw [bnd2_s, letv_eq, ix_io (by omega), show Mc.1 18 p = io (L.2.2.1 p 2) from (hC.2.2.2.1 p hp).2.2.1]
      by_cases c : stN L p ≤ L.2.2.1 p 2
      · rw [if_pos c, io_sub c, if_pos (show (0 : Int32) ≤ io (L.2.2.1 p 2 - stN L p) from (io_le (a := 0) (by omega) (by omega)).mpr (by omega))]
      · rw [if_neg c, if_neg (fun q => by
          have := Int32.le_iff_toInt_le.mp q
          rw [Int32.toInt_sub, io_toInt (by omega), io_toInt (by omega), show (0 : Int32).toInt = 0 from rfl, Int.bmod_eq_of_le (by omega) (by omega)] at this
          omega)]
        rfl
    · obtain ⟨M1, e1, hs, k1⟩ := rLays hL hR
      rw [e1, bnd_s]
      have hs0 : Ls L L.1 (fu2 L.2.2.1 p 2 (L.2.2.1 p 2)) L.2.1 0 (L.1 6) M1 := by rw [nowB]; exact hs
      obtain ⟨M2, e2, hs2, k2⟩ := rIsSound hL (hR.kr k1) (Lk.pz hL h0 (p := p) (w := 2) (n := L.2.2.1 p 2) (Or.inr ⟨rfl, by omega⟩)) hs0 hp
      have hi := snd_b hL h0 (b := L.2.2.1 p 2) hp
      rw [e2, bnd2_s]
      by_cases c : stN L p ≤ L.2.2.1 p 2
      · rw [if_pos c, if_pos (hi.mpr c), if_neg (show ¬ (1 : Int32) = 0 by decide)]
        have c9 : ∀ {M3}, KR Mr M3 → M3.1 9 (4 * p + 2) = io (L.2.2.1 p 2) := fun k => by
          have := (hR.kr k).2.2.2.1 p 2 hp (by omega)
          rwa [show 24 * 0 + (4 * p + 2) = 4 * p + 2 by omega] at this
        have step : ∀ i M2, i < L.2.2.1 p 2 → (∃ n, Ls L L.1 (fu2 L.2.2.1 p 2 n) L.2.1 0 (L.1 6) M2) → KR Mr M2 → ∃ M3, (∃ n, Ls L L.1 (fu2 L.2.2.1 p 2 n) L.2.1 0 (L.1 6) M3) ∧ KR Mr M3 ∧ ∀ K, L_X11_spare_33 (io p) K (io i) M2 = if stN L p ≤ L.2.2.1 p 2 - i - 1 then K (io (i + 1)) M3 else some (io i, M3) := by
          intro i M2 hi hs k2
          obtain ⟨M3, e3, hs3, k3⟩ := bearR (b := L.2.2.1 p 2 - i - 1) hL h0 (hR.kr k2) hp (by omega) hs
          refine ⟨M3, hs3, k2.trans k3, fun K => ?_⟩
          unfold L_X11_spare_33
          rw [show (4 : Int32) * io p + (2 : Int32) = io (4 * p + 2) from by rw [show (4 : Int32) = io 4 from rfl, show (2 : Int32) = io 2 from rfl, io_mul, io_add], oob_f (show 4 * p + 2 < 120 by omega) (by omega), oob_f (show p < 6 by omega) (by omega), ix_io (by omega), ix_io (by omega), c9 k2]
          simp only [Bool.false_eq_true, if_false, letv_eq]
          rw [if_neg (by rw [io_le (by omega) (by omega)]; omega), show (1 : Int32) = io 1 from rfl, io_sub (by omega), io_sub (by omega), e3, bnd2_s]
          by_cases c : stN L p ≤ L.2.2.1 p 2 - i - 1
          · rw [if_pos c, if_pos c, if_neg (show ¬ (1 : Int32) = 0 by decide), io_add]
          · rw [if_neg c, if_neg c, if_pos rfl]
        obtain ⟨r, ⟨r1, r2⟩, hr⟩ := in2x (b := L_X11_spare_33 (io p)) (fun i x M2 => x = io i ∧ (∃ n, Ls L L.1 (fu2 L.2.2.1 p 2 n) L.2.1 0 (L.1 6) M2) ∧ KR Mr M2) (fun r => r.1 = io (L.2.2.1 p 2 - stN L p) ∧ KR Mr r.2) (L.2.2.1 p 2 - stN L p) (x := 0) (y := M2) ⟨rfl, ⟨_, hs2⟩, k1.trans k2⟩ (by omega) (fun i x M2 hi h => by
          obtain ⟨rfl, g1, k2⟩ := h
          obtain ⟨M3, g3, k3, he⟩ := step i M2 (by omega) g1 k2
          exact ⟨io (i + 1), M3, ⟨rfl, g3, k3⟩, fun K => by rw [he, if_pos (by omega)]⟩) (fun x M2 h => by
          obtain ⟨rfl, g1, k2⟩ := h
          rcases Nat.eq_zero_or_pos (stN L p) with hz | hpos
          · refine ⟨(io (L.2.2.1 p 2 - stN L p), M2), ⟨rfl, k2⟩, fun K => ?_⟩
            unfold L_X11_spare_33
            rw [show (4 : Int32) * io p + (2 : Int32) = io (4 * p + 2) from by rw [show (4 : Int32) = io 4 from rfl, show (2 : Int32) = io 2 from rfl, io_mul, io_add], oob_f (show 4 * p + 2 < 120 by omega) (by omega), ix_io (by omega), c9 k2]
            simp only [Bool.false_eq_true, if_false]
            rw [if_pos (by rw [io_le (by omega) (by omega)]; omega)]
          · obtain ⟨M3, g3, k3, he⟩ := step (L.2.2.1 p 2 - stN L p) M2 (by omega) g1 k2
            exact ⟨(io (L.2.2.1 p 2 - stN L p), M3), ⟨rfl, k3⟩, fun K => by rw [he, if_neg (by omega)]⟩)
        exact ⟨r.2, by rw [hr, ← r1], r2⟩
      · rw [if_neg c, if_neg (fun w => c (hi.mp w)), if_pos rfl]
        exact ⟨M2, rfl, k1.trans k2⟩)
