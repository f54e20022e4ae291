/-! THE CALL lehr -/
theorem dr0R {L : Lh} {Mc Mr : Mem} (h : Dr0 L Mc Mr) (h2 : Mr.1 6 4 = io (L.1 0)) : RpR 4 L Mr := by
  obtain ⟨D1, D2, D3, D4⟩ := h
  refine ⟨h2, fun i hi => ?_, fun z hz => (D3 z hz).2, fun p w hp hw => (D4 p hp).2 w hw, fun a ha => by rw [D2.1] at ha; omega⟩
  by_cases c : i = 7
  · subst c; rw [show (7 + 1) = 8 from rfl, D2.1]; exact D2.2
  · exact (D1 i (by omega)).2
theorem op_2 : ∀ (Mc Mr : Mem), Rel Mc Mr → ∃ (r : Int32) (Mc' Mr' : Mem), f_X10_lehr Mc = some (r, Mc') ∧ f_X11_lehr Mr = some (r, Mr') ∧ Rel Mc' Mr' := by
  intro Mc Mr h
  obtain ⟨hX, L, hL, hC, hR, hF⟩ := h.split
  obtain ⟨n, hn, t1, t2, t3⟩ := hX.1
  obtain ⟨Mc1, e1, z1, k1, s1⟩ := emptyC (M := Mc)
  obtain ⟨Mr1, f1, z2, z3, q1, s2⟩ := emptyR (M := st Mr 0 0 0)
  have q0 : KpR XR0 Mr Mr1 := (KpR.refl.st0 (k := 0) (v := 0) (by decide)).trans q1
  -- both begin
  have kA : KpC XC0 Mc (st (st (st Mc1 6 4 0) 6 5 (-1)) 6 3 0) := ((k1.st6).st6).st6
  have qA : KpR XR0 Mr (st (st (st Mr1 0 12 0) 0 13 (-1)) 0 7 0) := ((q0.st0 (by decide)).st0 (by decide)).st0 (by decide)
  have dA : ∀ i, i < 8 → (st (st (st Mc1 6 4 0) 6 5 (-1)) 6 3 0).1 7 i = io 0 := fun i hi => by rw [stne (by decide), stne (by decide), stne (by decide)]; exact z1 i hi
  have dB : ∀ i, i < 8 → (st (st (st Mr1 0 12 0) 0 13 (-1)) 0 7 0).1 7 (32 + i) = io 0 := fun i hi => by rw [stne (by decide), stne (by decide), stne (by decide)]; exact z2 i hi
  have dC : (st (st (st Mr1 0 12 0) 0 13 (-1)) 0 7 0).1 6 4 = io 0 := by rw [stne (by decide), stne (by decide), stne (by decide)]; exact z3
  have pA : (st (st (st Mc1 6 4 0) 6 5 (-1)) 6 3 0).1 6 3 = io 0 ∧ (st (st (st Mc1 6 4 0) 6 5 (-1)) 6 3 0).1 6 4 = io 0 ∧ (st (st (st Mc1 6 4 0) 6 5 (-1)) 6 3 0).1 6 5 = m1 := by
    refine ⟨by simp [st]; rfl, ?_, ?_⟩
    · rw [st_rd (by decide), st_rd (by decide)]; simp [st]; rfl
    · rw [st_rd (by decide)]; simp [st]; rfl
  have pB : (st (st (st Mr1 0 12 0) 0 13 (-1)) 0 7 0).1 0 7 = io 0 ∧ (st (st (st Mr1 0 12 0) 0 13 (-1)) 0 7 0).1 0 12 = io 0 ∧ (st (st (st Mr1 0 12 0) 0 13 (-1)) 0 7 0).1 0 13 = m1 := by
    refine ⟨by simp [st]; rfl, ?_, ?_⟩
    · rw [st_rd (by decide), st_rd (by decide)]; simp [st]; rfl
    · rw [st_rd (by decide)]; simp [st]; rfl
  have eC0 : f_X10_lehr Mc = bnd (bnd (f_X6_nextToken (st (st (st Mc1 6 4 0) 6 5 (-1)) 6 3 0)) (fun M6 => lq2 (L_X6_readInto_21 7) FU 0 M6)) (fun M6 => bnd2 (f_X8_cutTo (0 : Int32) M6) (fun r7 M9 => if (M9.1 6 4) = 0 then bnd (f_X5_copyFrom 14 7 M9) (fun M13 => bnd (f_X0_clear 20 M13) (fun M16 => letv (st M16 0 10 0) (fun M17 => some ((M17.1 14 0), M17)))) else some ((-4), M9))) := by
    unfold f_X10_lehr f_X6_readInto
    rw [e1, bnd_s, letv_eq, letv_eq, letv_eq]
  have eR0 : f_X11_lehr Mr = bnd (f_X11_next (st (st (st Mr1 0 12 0) 0 13 (-1)) 0 7 0)) (fun M7 => lq1 (L_X11_lehr_13) FU M7) := by
    unfold f_X11_lehr f_X11_begins
    rw [letv_eq, f1, bnd_s, letv_eq, letv_eq, letv_eq]
    generalize f_X11_next (st (st (st Mr1 0 12 0) 0 13 (-1)) 0 7 0) = o
    cases o <;> rfl
  rw [eC0, eR0]
  generalize st (st (st Mc1 6 4 0) 6 5 (-1)) 6 3 0 = A at kA dA pA
  generalize st (st (st Mr1 0 12 0) 0 13 (-1)) 0 7 0 = B at qA dB dC pB
  have cA : ∀ {M : Mem}, KpC XC0 Mc M → TxC n (Mc.1 5) M := fun {M} k => ⟨by rw [k.1 4 1 (by decide) (by unfold XC0; omega)]; exact t1, fun i _ => k.1 5 i (by decide) (by unfold XC0; omega)⟩
  have cB : ∀ {M : Mem}, KpR XR0 Mr M → TxR n (Mc.1 5) M := fun {M} q => ⟨by rw [q.2.1 6 (by decide)]; exact t2, fun i hi => by rw [q.1 5 i (by decide) (by unfold XR0 XR; omega)]; exact (t3 i hi).symm⟩
  obtain ⟨C, R, a, g1, g2, g3, g4, g5, -⟩ := nextAt hn (cA kA) (cB qA) (Nat.zero_le _) pA.1 pB.1
  have kC : KpC XC0 Mc C := kA.lf g4.lf
  have qR : KpR XR0 Mr R := qA.lf g5.lf
  have hS : Sb n (Mc.1 5) 0 a C R := ⟨cA kC, cB qR, ⟨by omega, by rw [g4.2.1 4 (by decide)]; exact pA.2.1, by rw [g5.2.1 12 (by decide)]; exact pB.2.1, by rw [g4.2.1 5 (by decide), g5.2.1 13 (by decide), pA.2.2, pB.2.2], fun _ => by rw [g4.2.1 5 (by decide)]; exact pA.2.2⟩, fun _ => g3⟩
  have hD : Dr0 L0 C R := by
    refine ⟨fun i hi => ⟨?_, ?_⟩, ⟨rfl, ?_⟩, fun z hz => absurd hz (Nat.not_lt_zero _), fun p hp => absurd hp (Nat.not_lt_zero _)⟩
    · rw [g4.1 7 (by decide)]; exact dA (i + 1) (by omega)
    · rw [g5.1 7 (by decide)]; exact dB i (by omega)
    · rw [g5.1 7 (by decide)]; exact dB 7 (by omega)
  obtain ⟨C2, R2, u1, u2, ⟨b, ⟨b1, b2, b3, b4, b5⟩, hG⟩, k2, q2⟩ := loopS hn (n + 1) 0 C R a L0 (by omega) (by omega) hS okL0 hD (by rw [g4.1 7 (by decide)]; exact dA 0 (by omega)) (by rw [g5.1 6 (by decide)]; exact dC) rfl FU FU (show n + 1 < 4096 by omega) (show n + 1 < 4096 by omega)
  have kk : KpC XC0 Mc C2 := kC.trans k2
  have qq : KpR XR0 Mr R2 := qR.trans q2
  have fC : ∀ c, c < 6 ∨ 12 < c → C2.1 c = Mc.1 c := fun c hc => funext (fun j => kk.1 c j (by omega) (by unfold XC0; omega))
  have fR : ∀ c, c ∈ [1, 2, 5, 10, 11] → R2.1 c = Mr.1 c := fun c hc => by
    have : c ≠ 0 ∧ c ≠ 6 ∧ c ≠ 7 ∧ c ≠ 8 ∧ c ≠ 9 := by revert hc; revert c; decide
    exact funext (fun j => qq.1 c j this.1 (by unfold XR0 XR; omega))
  rw [g1, bnd_s, show lq2 (L_X6_readInto_21 7) FU 0 C = some C2 from u1, bnd_s, g2, bnd_s, u2]
  have ecut : f_X8_cutTo 0 C2 = some (1, st C2 4 1 0) := by
    unfold f_X8_cutTo
    rw [if_neg (show ¬ (0 : Int32) < 0 by decide), fC 4 (by omega), t1, if_pos (show (0 : Int32) ≤ io n from (io_le (a := 0) (by omega) (by omega)).mpr (Nat.zero_le _)), letv_eq]
  rw [ecut, bnd2_s, show (st C2 4 1 0).1 6 4 = io b from by rw [stne (by decide)]; exact b2]
  have eover : f_X11_isOver R2 = some (st (st (st R2 0 6 0) 0 14 (io b)) 0 15 (if b = 0 then m1 else R2.1 0 13)) := by
    unfold f_X11_isOver
    rw [letv_eq, letv_eq, show (st R2 0 6 0).1 0 12 = io b from by rw [st_rd (by decide)]; exact b3, show (st (st R2 0 6 0) 0 14 (io b)).1 0 12 = io b from by rw [st_rd (by decide), st_rd (by decide)]; exact b3, show (st (st R2 0 6 0) 0 14 (io b)).1 0 13 = R2.1 0 13 from by rw [st_rd (by decide), st_rd (by decide)], letv_eq, letv_eq]
    by_cases c : b = 0
    · rw [if_pos (show io b = 0 by rw [c]; rfl), if_pos c]; rfl
    · rw [if_neg (show ¬ io b = (0 : Int32) from fun q => c ((io_inj (b := 0) (by omega) (by omega)).mp q)), if_neg c]
  unfold J_X11_lehr_148
  rw [eover, bnd_s]
  have x12 : (st (st (st R2 0 6 0) 0 14 (io b)) 0 15 (if b = 0 then m1 else R2.1 0 13)).1 0 12 = io b := by
    rw [st_rd (by decide), st_rd (by decide), st_rd (by decide)]; exact b3
  rw [x12]
  have hT : ∀ {A B : Mem}, A.1 4 1 = io 0 → B.1 0 6 = io 0 → RelT A B := fun ha hb => ⟨0, by omega, ha, hb, fun i hi => absurd hi (Nat.not_lt_zero _)⟩
  have x6 : (st (st (st R2 0 6 0) 0 14 (io b)) 0 15 (if b = 0 then m1 else R2.1 0 13)).1 0 6 = io 0 := by
    rw [st_rd (by decide), st_rd (by decide)]; simp [st]; rfl
  have x14 : (st (st (st R2 0 6 0) 0 14 (io b)) 0 15 (if b = 0 then m1 else R2.1 0 13)).1 0 14 = io b := by
    rw [st_rd (by decide)]; simp [st]
  have x15 : (st (st (st R2 0 6 0) 0 14 (io b)) 0 15 (if b = 0 then m1 else R2.1 0 13)).1 0 15 = C2.1 6 5 := by
    by_cases c : b = 0
    · rw [if_pos c, b5 c]; simp [st]
    · rw [if_neg c, b4]; simp [st]
  have xr : ∀ c, c ≠ 0 → (st (st (st R2 0 6 0) 0 14 (io b)) 0 15 (if b = 0 then m1 else R2.1 0 13)).1 c = R2.1 c := fun c hc => by rw [stne hc, stne hc, stne hc]
  have xl : (st (st (st R2 0 6 0) 0 14 (io b)) 0 15 (if b = 0 then m1 else R2.1 0 13)).2 = R2.2 := rfl
  generalize st (st (st R2 0 6 0) 0 14 (io b)) 0 15 (if b = 0 then m1 else R2.1 0 13) = W at x12 x6 x14 x15 xr xl
  have rK : ∀ k L, OkL L → k ≤ 3 → RpR k L Mr → RpR k L W := fun k L ho hk hr => (hr.kp hk ho qq).congr (fun a ha => xr a (by revert ha; revert a; decide))
  have lR : W.2 3 = Mr.2 3 := by rw [xl]; exact qq.2.2 3 (by decide)
  by_cases c : b = 0
  · -- a lehr
    subst c
    obtain ⟨L', hL', hD', c0, r0⟩ := hG rfl
    have hR4 : RpR 4 L' W := (dr0R hD' r0).congr (fun a ha => xr a (by revert ha; revert a; decide))
    have rc7 : rcP 7 := by unfold rcP; decide +kernel
    obtain ⟨C3, e3, p1, p2, p3, p4, p5⟩ := planCopy (P := 14) (Q := 7) (M := st C2 4 1 0) nowRc.2.1 rc7 (by omega)
    obtain ⟨C4, e4, l2, l3, l4, l5, l6⟩ := clearC (M := C3)
    obtain ⟨R3, e5, w1, w2, w3, w4⟩ := lehrCopy (a := 4) (b := 0) (M := W) (by omega) (by omega) (by omega)
    rw [if_pos (show io 0 = 0 from rfl), if_pos (show io 0 = 0 from rfl), e3, bnd_s, e4, bnd_s, letv_eq, show f_X11_copyLehr 4 0 W = some R3 from e5, bnd_s, show oob 0 5 = false from rfl, show ix 0 = 0 from rfl]
    simp only [Bool.false_eq_true, if_false]
    have hR0 : RpR 0 L' R3 := w1 L' hL' hR4
    have y : ∀ a, a ∉ [0, 20, 24] → (st C4 0 10 0).1 a = C3.1 a := fun a ha => by
      rw [stne (fun q => ha (by rw [q]; decide)), l6 a (fun q => ha (by revert q; simp; omega))]
    have y2 : ∀ i, i < 8 → (st C4 0 10 0).1 14 i = io (L'.1 i) := fun i hi => by
      rw [y 14 (by decide), p1 i hi, stne (by decide)]
      rcases Nat.eq_zero_or_pos i with q | q
      · subst q; exact c0
      · have := (hD'.1 (i - 1) (by omega)).1
        rw [show i - 1 + 1 = i by omega] at this
        exact this
    have g := hL'.2.2.1
    have h8 : L'.1 8 = 0 := hD'.2.1.1
    have z20 : (st C4 0 10 0).1 20 = C4.1 20 := stne (by decide)
    have z24 : (st C4 0 10 0).1 24 = C4.1 24 := stne (by decide)
    have yo : ∀ a, a < 4 ∨ 24 < a → a ≠ 0 → (st C4 0 10 0).1 a = Mc.1 a := fun a ha h0 => by
      rw [y a (by simp; omega), p4 a (by omega), stne (by omega), fC a (by omega)]
    have yl : (st C4 0 10 0).2 = Mc.2 := by
      show C4.2 = Mc.2
      rw [l2, p5]
      exact kk.2
    have hWI := keepWI (Mc' := st C4 0 10 0) (Mr' := R3) (yo 2 (by omega) (by decide)) (fun a ha => yo a (by omega) (by omega)) yl ((w3 1 (by decide)).trans ((xr 1 (by decide)).trans (fR 1 (by decide)))) ((w3 2 (by decide)).trans ((xr 2 (by decide)).trans (fR 2 (by decide)))) ((w3 11 (by decide)).trans ((xr 11 (by decide)).trans (fR 11 (by decide)))) (by rw [w4]; exact lR) (fun k L ho h1 h3 hr => w2 k L ho (by omega) (rK k L ho h3 hr)) hX.2.2.1 hX.2.2.2
    refine ⟨io (L'.1 0), _, _, by rw [y2 0 (by omega)], by rw [hR0.1], Rel.ofX (L := L') ⟨hT ?_ ?_, ?_, hWI.1, hWI.2⟩ ⟨hL', ⟨y2, ⟨?_, ?_⟩, fun z hz => ?_, fun p hp => ⟨?_, ?_, ?_, ?_⟩, fun a ha => by omega, fun z s hz hs => ?_⟩, hR0, Or.inl (by simp [st]; rfl)⟩⟩
    · rw [y 4 (by decide), p4 4 (by omega)]; simp [st]; rfl
    · rw [w3 0 (by decide)]; exact x6
    · refine ⟨?_, ?_⟩
      · rw [y 6 (by decide), p4 6 (by omega), stne (by decide), w3 0 (by decide), x14]; exact b2
      · rw [y 6 (by decide), p4 6 (by omega), stne (by decide), w3 0 (by decide), x15]
    · rw [z20, h8]; exact l3
    · rw [z20, h8, l4, show bN (gst L' 0) 15 = 0 from bN_zero.mpr (fun i _ => rfl)]
    · rw [y 15 (by decide), show (15 : Nat) = 14 + 1 from rfl, p2 z (by omega), stne (by decide)]; exact (hD'.2.2.1 z hz).1
    · rw [y (14 + 2) (by decide), (p3 p (by omega)).1, stne (by decide)]; exact (hD'.2.2.2 p hp).1.1
    · rw [y (14 + 3) (by decide), (p3 p (by omega)).2.1, stne (by decide)]; exact (hD'.2.2.2 p hp).1.2.1
    · rw [y (14 + 4) (by decide), (p3 p (by omega)).2.2.1, stne (by decide)]; exact (hD'.2.2.2 p hp).1.2.2.1
    · rw [y (14 + 5) (by decide), (p3 p (by omega)).2.2.2, stne (by decide)]; exact (hD'.2.2.2 p hp).1.2.2.2
    · rw [show 14 + 10 = 24 from rfl, z24, l5 _ (by omega), h8]; rfl
  · -- a fault
    have nb : ¬ io b = (0 : Int32) := fun q => c ((io_inj (b := 0) (by omega) (by omega)).mp q)
    rw [if_neg nb, if_neg nb]
    have yo : ∀ a, a < 4 ∨ 12 < a → (st C2 4 1 0).1 a = Mc.1 a := fun a ha => by rw [stne (by omega), fC a (by omega)]
    have hWI := keepWI (Mc' := st C2 4 1 0) (Mr' := W) (yo 2 (by omega)) (fun a ha => yo a (by omega)) kk.2 ((xr 1 (by decide)).trans (fR 1 (by decide))) ((xr 2 (by decide)).trans (fR 2 (by decide))) ((xr 11 (by decide)).trans (fR 11 (by decide))) lR (fun k L ho h1 h3 hr => rK k L ho h3 hr) hX.2.2.1 hX.2.2.2
    refine ⟨_, _, _, rfl, rfl, Rel.ofX (L := L) ⟨hT ?_ x6, ?_, hWI.1, hWI.2⟩ ⟨hL, hC.congr (fun a h1 h2 => yo a (by omega)), rK 0 L hL (by omega) hR, ?_⟩⟩
    · simp [st]; rfl
    · refine ⟨?_, ?_⟩
      · rw [stne (by decide), x14]; exact b2
      · rw [stne (by decide), x15]
    · unfold RelC at *
      rw [yo 0 (by omega)]
      rcases hF with q | ⟨q1, q2⟩
      · exact Or.inl q
      · exact Or.inr ⟨q1, Ct25.congr q2 (fun a h1 h2 => yo a (by omega))⟩
