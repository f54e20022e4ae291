/-! QUESTIONS that both answer from the course of now -/
theorem VC.num {L : Lh} {M : Mem} (h : VC L M) {i : Nat} (hi : i < 8) : M.1 14 i = io (L.1 i) := h.2.2.1.1 i hi
theorem VC.b {L : Lh} {M : Mem} (h : VC L M) : L.1 1 ≤ 14 ∧ L.1 6 ≤ 7 ∧ L.1 7 ≤ 6 := ⟨h.1.2.2.1.2.1, h.1.2.2.1.2.2.2.2.2.2.1, h.1.2.2.1.2.2.2.2.2.2.2.1⟩
theorem VR.b {L : Lh} {M : Mem} (h : VR L M) : L.1 1 ≤ 14 ∧ L.1 6 ≤ 7 ∧ L.1 7 ≤ 6 := ⟨h.1.2.2.1.2.1, h.1.2.2.1.2.2.2.2.2.2.1, h.1.2.2.1.2.2.2.2.2.2.2.1⟩
theorem e25 : rC 25 1 = 14 ∧ rC 25 6 = 29 ∧ rC 25 7 = 30 ∧ rC 14 11 = 18 := by decide
theorem VC.pc {L : Lh} {M : Mem} {p : Nat} (h : VC L M) (hp : p < L.1 7) : M.1 29 p = oi (ck L p) ∧ M.1 30 p = io (run (cfN L) (L.1 1) p).2.2.2.2.2 ∧ M.1 31 p = oi (run (cfN L) (L.1 1) p).2.2.1 ∧ M.1 32 p = oi (run (cfN L) (L.1 1) p).2.2.2.1 := (h.2.2.2 p hp trivial).2.2
theorem VR.pc {L : Lh} {M : Mem} {p : Nat} (h : VR L M) (hp : p < L.1 7) : M.1 19 p = oi (ck L p) ∧ M.1 20 p = io (run (cfN L) (L.1 1) p).2.2.2.2.2 ∧ M.1 17 p = oi (run (cfN L) (L.1 1) p).2.2.1 ∧ M.1 18 p = oi (run (cfN L) (L.1 1) p).2.2.2.1 := (h.2.2.2.2 p hp).2
/-! the step of the most -/
def bestN (f : Nat → Nat) : Nat → Nat
  | 0 => 0
  | n + 1 => if f (n + 1) ≤ f (bestN f n) then bestN f n else n + 1
theorem bestN_le (f : Nat → Nat) : ∀ n, bestN f n ≤ n
  | 0 => Nat.le_refl _
  | n + 1 => by
    have := bestN_le f n
    simp only [bestN]
    split <;> omega
theorem peakC {L : Lh} {M : Mem} {p : Nat} (h : VC L M) (hp : p < L.1 7) : f_X2_peakStepOf 25 (io p) M = some (io (bestN (sa L p) (L.1 1))) := by
  have hb := h.b
  unfold f_X2_peakStepOf
  refine up2 (fun i => io (bestN (sa L p) i)) (fun i => io (i + 1)) (L.1 1) rfl rfl (by omega) (fun i hi K => ?_) (fun K => ?_)
  · unfold L_X2_peakStepOf_4
    have h1 := bestN_le (sa L p) i
    have h2 := sa_le h.1 h.2.1 hp (i + 1)
    have h3 := sa_le h.1 h.2.1 hp (bestN (sa L p) i)
    rw [e25.1, h.num (by omega), if_neg (by rw [io_lt (by omega) (by omega)]; omega), saC h hp (by omega), saC h hp (by omega)]
    simp only [bnd_s, lit, io_add, bestN]
    by_cases hh : sa L p (i + 1) ≤ sa L p (bestN (sa L p) i)
    · rw [if_pos (by rw [io_le (by omega) (by omega)]; exact hh), if_pos hh]
    · rw [if_neg (by rw [io_le (by omega) (by omega)]; exact hh), if_neg hh]
  · unfold L_X2_peakStepOf_4
    rw [e25.1, h.num (by omega), if_pos (by rw [io_lt (by omega) (by omega)]; omega)]
theorem peakR {L : Lh} {M : Mem} {p : Nat} (h : VR L M) (hp : p < L.1 7) : f_X11_peakOf (io p) M = some (io (bestN (sa L p) (L.1 1))) := by
  have hb := h.b
  unfold f_X11_peakOf
  refine up2 (fun i => io (bestN (sa L p) i)) (fun i => io (i + 1)) (L.1 1) rfl rfl (by omega) (fun i hi K => ?_) (fun K => ?_)
  · unfold L_X11_peakOf_4
    have h1 := bestN_le (sa L p) i
    have h2 := sa_le h.1 h.2.1 hp (i + 1)
    have h3 := sa_le h.1 h.2.1 hp (bestN (sa L p) i)
    rw [stepsV h]
    simp only [bnd_s]
    rw [if_neg (by rw [io_lt (by omega) (by omega)]; omega), saR h hp (by omega), saR h hp (by omega)]
    simp only [bnd_s, lit, io_add, bestN]
    by_cases hh : sa L p (i + 1) ≤ sa L p (bestN (sa L p) i)
    · rw [if_pos (by rw [io_le (by omega) (by omega)]; exact hh), if_pos hh]
    · rw [if_neg (by rw [io_le (by omega) (by omega)]; exact hh), if_neg hh]
  · unfold L_X11_peakOf_4
    rw [stepsV h]
    simp only [bnd_s]
    rw [if_pos (by rw [io_lt (by omega) (by omega)]; omega)]
theorem op_14 : ∀ (Mc Mr : Mem) (a1 : Int32), Rel Mc Mr → ∃ (r : Int32) (Mc' Mr' : Mem), f_X10_peak a1 Mc = some (r, Mc') ∧ f_X11_peak a1 Mr = some (r, Mr') ∧ Rel Mc' Mr' :=
  opP (fun a M => bnd (f_X2_peakOf 25 a M) (fun r => some (r, M))) (fun a M => bnd (f_X11_peakOf a M) (fun r8 => bnd (f_X11_strainOf a r8 M) (fun r10 => some (r10, M)))) (fun _ _ => rfl) (fun _ _ => rfl) (fun L p Mc Mr hp hc hr => ⟨io (sa L p (bestN (sa L p) (L.1 1))), by
    unfold f_X2_peakOf
    rw [peakC hc hp]
    simp only [bnd_s]
    rw [saC hc hp (bestN_le _ _)]; rfl, by
    rw [peakR hr hp]
    simp only [bnd_s]
    rw [saR hr hp (bestN_le _ _)]; rfl⟩)
theorem op_15 : ∀ (Mc Mr : Mem) (a1 : Int32), Rel Mc Mr → ∃ (r : Int32) (Mc' Mr' : Mem), f_X10_when a1 Mc = some (r, Mc') ∧ f_X11_when a1 Mr = some (r, Mr') ∧ Rel Mc' Mr' :=
  opP (fun a M => bnd (f_X2_peakStepOf 25 a M) (fun r => some (r, M))) (fun a M => bnd (f_X11_peakOf a M) (fun r8 => some (r8, M))) (fun _ _ => rfl) (fun _ _ => rfl) (fun L p Mc Mr hp hc hr => ⟨io (bestN (sa L p) (L.1 1)), by
    show bnd (f_X2_peakStepOf 25 (io p) Mc) _ = _
    rw [peakC hc hp]; rfl, by
    show bnd (f_X11_peakOf (io p) Mr) _ = _
    rw [peakR hr hp]; rfl⟩)
theorem op_16 : ∀ (Mc Mr : Mem) (a1 : Int32), Rel Mc Mr → ∃ (r : Int32) (Mc' Mr' : Mem), f_X10_frozen a1 Mc = some (r, Mc') ∧ f_X11_frozen a1 Mr = some (r, Mr') ∧ Rel Mc' Mr' :=
  opP (fun a M => if oob a 6 = true then none else some (M.1 31 (ix a), M)) (fun a M => if oob a 6 = true then none else some (M.1 17 (ix a), M)) (fun _ _ => rfl) (fun _ _ => rfl) (fun L p Mc Mr hp hc hr => by
    have hb := hc.b
    refine ⟨oi (run (cfN L) (L.1 1) p).2.2.1, ?_, ?_⟩
    · simp (disch := omega) only [oob_f, Bool.false_eq_true, if_false, ix_io, (hc.pc hp).2.2.1]
    · simp (disch := omega) only [oob_f, Bool.false_eq_true, if_false, ix_io, (hr.pc hp).2.2.1])
theorem op_17 : ∀ (Mc Mr : Mem) (a1 : Int32), Rel Mc Mr → ∃ (r : Int32) (Mc' Mr' : Mem), f_X10_sets a1 Mc = some (r, Mc') ∧ f_X11_sets a1 Mr = some (r, Mr') ∧ Rel Mc' Mr' :=
  opP (fun a M => if oob a 6 = true then none else some (M.1 32 (ix a), M)) (fun a M => if oob a 6 = true then none else some (M.1 18 (ix a), M)) (fun _ _ => rfl) (fun _ _ => rfl) (fun L p Mc Mr hp hc hr => by
    have hb := hc.b
    refine ⟨oi (run (cfN L) (L.1 1) p).2.2.2.1, ?_, ?_⟩
    · simp (disch := omega) only [oob_f, Bool.false_eq_true, if_false, ix_io, (hc.pc hp).2.2.2]
    · simp (disch := omega) only [oob_f, Bool.false_eq_true, if_false, ix_io, (hr.pc hp).2.2.2])
theorem op_18 : ∀ (Mc Mr : Mem) (a1 : Int32), Rel Mc Mr → ∃ (r : Int32) (Mc' Mr' : Mem), f_X10_cracks a1 Mc = some (r, Mc') ∧ f_X11_cracks a1 Mr = some (r, Mr') ∧ Rel Mc' Mr' :=
  opP (fun a M => if oob a 6 = true then none else some (M.1 29 (ix a), M)) (fun a M => if oob a 6 = true then none else some (M.1 19 (ix a), M)) (fun _ _ => rfl) (fun _ _ => rfl) (fun L p Mc Mr hp hc hr => by
    have hb := hc.b
    refine ⟨oi (ck L p), ?_, ?_⟩
    · simp (disch := omega) only [oob_f, Bool.false_eq_true, if_false, ix_io, (hc.pc hp).1]
    · simp (disch := omega) only [oob_f, Bool.false_eq_true, if_false, ix_io, (hr.pc hp).1])
theorem op_19 : ∀ (Mc Mr : Mem) (a1 : Int32), Rel Mc Mr → ∃ (r : Int32) (Mc' Mr' : Mem), f_X10_why a1 Mc = some (r, Mc') ∧ f_X11_why a1 Mr = some (r, Mr') ∧ Rel Mc' Mr' :=
  opP (fun a M => if oob a 6 = true then none else some (M.1 30 (ix a), M)) (fun a M => if oob a 6 = true then none else some (M.1 20 (ix a), M)) (fun _ _ => rfl) (fun _ _ => rfl) (fun L p Mc Mr hp hc hr => by
    have hb := hc.b
    refine ⟨io (run (cfN L) (L.1 1) p).2.2.2.2.2, ?_, ?_⟩
    · simp (disch := omega) only [oob_f, Bool.false_eq_true, if_false, ix_io, (hc.pc hp).2.1]
    · simp (disch := omega) only [oob_f, Bool.false_eq_true, if_false, ix_io, (hr.pc hp).2.1])
/-! bits of pieces -/
theorem uncrC {P o : Nat} {M : Mem} {n : Nat} (hP : rC o 1 = P) {K6 : Nat} (h6 : rC o 6 = K6) (hn : n ≤ 6) (h7 : M.1 P 7 = io n) (x : Int32) : f_X2_uncrackedAt o x M = some (io (bN (fun p => decide (M.1 K6 p = m1) || !decide (M.1 K6 p ≤ x)) n)) := by
  unfold f_X2_uncrackedAt
  refine up2 (fun i => io (bN (fun p => decide (M.1 K6 p = m1) || !decide (M.1 K6 p ≤ x)) i)) (fun i => io i) n rfl rfl (by omega) (fun i hi K => ?_) (fun K => ?_)
  · unfold L_X2_uncrackedAt_4
    rw [hP, h6, h7, if_neg (by rw [io_le (by omega) (by omega)]; omega)]
    simp (disch := omega) only [lit, nio1, letv_eq, io_add, oob_f, Bool.false_eq_true, if_false, ix_io]
    rw [bit_step (by omega)]
    by_cases c1 : M.1 K6 i = m1
    · simp [c1]
    · by_cases c2 : M.1 K6 i ≤ x
      · simp [c1, c2]
      · simp [c1, c2]
  · unfold L_X2_uncrackedAt_4
    rw [hP, h7, if_pos (by rw [io_le (by omega) (by omega)]; omega)]
theorem uncrV {L : Lh} {M : Mem} {s : Nat} (h : VC L M) (hs : s ≤ 14) : f_X2_uncrackedAt 25 (io s) M = some (io (bN (fun p => match ck L p with | none => true | some n => decide (s < n)) (L.1 7))) := by
  have hb := h.b
  rw [uncrC e25.1 e25.2.1 hb.2.2 (h.num (by omega))]
  congr 2
  refine bN_congr (fun p hp => ?_)
  rw [(h.pc hp).1]
  have h14 := fun n e => ck14 (n := n) h.1 h.2.1 hp e
  cases e : ck L p with
  | none => simp [oi_none]
  | some n =>
    have := h14 n e
    simp only [oi_some]
    have e1 : (io n = m1) = False := eq_false (fun q => (io_m1 (by omega)).mp q)
    have e2 : (io n ≤ io s) = (n ≤ s) := propext (io_le (by omega) (by omega))
    by_cases hh : n ≤ s
    · simp [e1, e2, hh]
    · simp [e1, e2, hh]; omega
def nev (L : Lh) : Nat := bN (fun p => decide (ck L p = none)) (L.1 7)
theorem neverV {L : Lh} {M : Mem} (h : VC L M) : f_X2_neverCracked 25 M = some (io (nev L)) := by
  unfold f_X2_neverCracked
  rw [show (14 : Int32) = io 14 from rfl, uncrV h (by omega)]
  simp only [bnd_s]
  congr 2
  refine bN_congr (fun p hp => ?_)
  have h14 := fun n e => ck14 (n := n) h.1 h.2.1 hp e
  cases e : ck L p with
  | none => simp
  | some n =>
    have := h14 n e
    simp; omega
theorem soundR {M : Mem} {n : Nat} (h7 : f_X11_pieces M = some (io n)) (hn : n ≤ 6) : f_X11_soundNow M = some (io (bN (fun p => decide (M.1 19 p = m1)) n)) := by
  unfold f_X11_soundNow
  refine up2 (fun i => io (bN (fun p => decide (M.1 19 p = m1)) i)) (fun i => io i) n rfl rfl (by omega) (fun i hi K => ?_) (fun K => ?_)
  · unfold L_X11_soundNow_4
    rw [h7]
    simp only [bnd_s]
    rw [if_neg (by rw [io_le (by omega) (by omega)]; omega)]
    simp (disch := omega) only [lit, nio1, letv_eq, io_add, oob_f, Bool.false_eq_true, if_false, ix_io, or0]
    rw [bit_step (by omega)]
    by_cases c1 : M.1 19 i = m1
    · simp [c1]
    · simp [c1]
  · unfold L_X11_soundNow_4
    rw [h7]
    simp only [bnd_s]
    rw [if_pos (by rw [io_le (by omega) (by omega)]; omega)]
theorem oi_dec {o : Option Nat} (h : ∀ n, o = some n → n ≤ 20000) : decide (oi o = m1) = decide (o = none) := by
  have := oi_m1 (o := o) (fun n e => by have := h n e; omega)
  by_cases c : o = none
  · simp [c, oi_none]
  · rw [decide_eq_false c, decide_eq_false (fun q => c (this.mp q))]
theorem soundV {L : Lh} {M : Mem} (h : VR L M) : f_X11_soundNow M = some (io (nev L)) := by
  rw [soundR (piecesV h) h.b.2.2]
  congr 2
  refine bN_congr (fun p hp => ?_)
  rw [(h.pc hp).1, oi_dec (fun n e => by have := ck14 h.1 h.2.1 hp e; omega)]
theorem op_21 : ∀ (Mc Mr : Mem), Rel Mc Mr → ∃ (r : Int32) (Mc' Mr' : Mem), f_X10_sound Mc = some (r, Mc') ∧ f_X11_sound Mr = some (r, Mr') ∧ Rel Mc' Mr' :=
  opL (fun M => bnd (f_X2_neverCracked 25 M) (fun r => some (r, M))) (fun M => bnd (f_X11_soundNow M) (fun r => some (r, M))) (fun _ => rfl) (fun _ => rfl) (fun L Mc Mr hc hr => ⟨io (nev L), by rw [neverV hc]; rfl, by rw [soundV hr]; rfl⟩)
def cks (L : Lh) (s : Nat) : Nat := bN (fun p => decide (ck L p = some s)) (L.1 7)
theorem uncrB {L : Lh} {M : Mem} {s : Nat} (h : VC L M) (hs : s ≤ 14) : f_X2_uncrackedAt 25 (io s - io 1) M = some (io (bN (fun p => match ck L p with | none => true | some n => decide (s ≤ n)) (L.1 7))) := by
  have hb := h.b
  rcases Nat.eq_zero_or_pos s with e0 | e0
  · subst e0
    rw [show io 0 - io 1 = m1 from rfl, uncrC e25.1 e25.2.1 hb.2.2 (h.num (by omega))]
    congr 2
    refine bN_congr (fun p hp => ?_)
    rw [(h.pc hp).1]
    have h14 := fun n e => ck14 (n := n) h.1 h.2.1 hp e
    cases e : ck L p with
    | none => simp [oi_none]
    | some n =>
      have := h14 n e
      have e2 : (io n ≤ m1) = False := eq_false (fun q => (le_m1 (by omega)).mp q)
      simp [oi_some, e2]
  · rw [io_sub e0, uncrV h (by omega)]
    congr 2
    refine bN_congr (fun p hp => ?_)
    cases e : ck L p with
    | none => rfl
    | some n => simp; omega
theorem crackingV {L : Lh} {M : Mem} {s : Nat} (h : VC L M) (hs : s ≤ 14) : f_X2_crackingAt 25 (io s) M = some (io (cks L s)) := by
  have hb := h.b
  unfold f_X2_crackingAt
  simp only [lit, nio1]
  rw [uncrB h hs, uncrV h hs]
  simp only [bnd_s]
  rw [bN_less (by omega)]
  congr 2
  refine bN_congr (fun p hp => ?_)
  cases e : ck L p with
  | none => rfl
  | some n =>
    by_cases c : n = s
    · subst c; simp
    · simp [c]; omega
theorem crackedV {L : Lh} {M : Mem} {s : Nat} (h : VR L M) (hs : s ≤ 14) : f_X11_crackedIn (io s) M = some (io (cks L s)) := by
  have hb := h.b
  unfold f_X11_crackedIn
  refine up2 (fun i => io (bN (fun p => decide (ck L p = some s)) i)) (fun i => io i) (L.1 7) rfl rfl (by omega) (fun i hi K => ?_) (fun K => ?_)
  · unfold L_X11_crackedIn_4
    rw [piecesV h]
    simp only [bnd_s]
    rw [if_neg (by rw [io_le (by omega) (by omega)]; omega)]
    simp (disch := omega) only [lit, nio1, letv_eq, io_add, oob_f, Bool.false_eq_true, if_false, ix_io, or0]
    rw [bit_step (by omega), (h.pc hi).1]
    cases e : ck L i with
    | none =>
      have e1 : (oi none = io s) = False := eq_false (fun q => (m1_io (by omega)).mp q)
      simp [e1]
    | some n =>
      have := ck14 h.1 h.2.1 hi e
      have e1 : (oi (some n) = io s) = (n = s) := propext (io_inj (by omega) (by omega))
      by_cases c : n = s
      · rw [if_pos (by rw [e1]; exact c), if_pos (by simp [c])]
      · rw [if_neg (by rw [e1]; exact c), if_neg (by simp [c])]
  · unfold L_X11_crackedIn_4
    rw [piecesV h]
    simp only [bnd_s]
    rw [if_pos (by rw [io_le (by omega) (by omega)]; omega)]
    rfl
theorem op_43 : ∀ (Mc Mr : Mem) (a1 : Int32), Rel Mc Mr → ∃ (r : Int32) (Mc' Mr' : Mem), f_X10_cracked a1 Mc = some (r, Mc') ∧ f_X11_cracked a1 Mr = some (r, Mr') ∧ Rel Mc' Mr' :=
  opS (fun a M => bnd (f_X2_crackingAt 25 a M) (fun r => some (r, M))) (fun a M => bnd (f_X11_crackedIn a M) (fun r => some (r, M))) (fun _ _ => rfl) (fun _ _ => rfl) (fun L s Mc Mr hs hc hr => ⟨io (cks L s), by
    have := hc.b
    show bnd (f_X2_crackingAt 25 (io s) Mc) _ = _
    rw [crackingV hc (by omega)]; rfl, by
    have := hc.b
    show bnd (f_X11_crackedIn (io s) Mr) _ = _
    rw [crackedV hr (by omega)]; rfl⟩)
/-! skin, core, strain -/
theorem bnd2_id {α : Type} (o : Option (α × Mem)) : bnd2 o (fun x M => some (x, M)) = o := by cases o <;> rfl
theorem opT {d : Int32} {fc fr : Int32 → Int32 → Mem → Option (Int32 × Mem)} (qc qr : Int32 → Int32 → Mem → Option (Int32 × Mem)) (ec : ∀ a b M, fc a b M = if f_X5_hasPiece 14 a M = 0 then some (d, M) else if f_X5_hasStep 14 b M = 0 then some (d, M) else bnd (f_X10_followedCourse M) (qc a b)) (er : ∀ a b M, fr a b M = bnd (f_X11_isThen a b (st M 0 0 0)) (fun r => if r = 0 then some (d, st M 0 0 0) else bnd (f_X11_laysNow (st M 0 0 0)) (qr a b))) (H : ∀ L p s Mc Mr, p < L.1 7 → s ≤ L.1 1 → VC L Mc → VR L Mr → ∃ r, qc (io p) (io s) Mc = some (r, Mc) ∧ qr (io p) (io s) Mr = some (r, Mr)) : ∀ (Mc Mr : Mem) (a1 a2 : Int32), Rel Mc Mr → ∃ (r : Int32) (Mc' Mr' : Mem), fc a1 a2 Mc = some (r, Mc') ∧ fr a1 a2 Mr = some (r, Mr') ∧ Rel Mc' Mr' := by
  intro Mc Mr a b h
  obtain ⟨hX, L, hN⟩ := h.split
  have hk := kr0 Mr
  have hN1 := hN.kr hk
  have h7 := hN.1.2.2.1
  rw [ec, er, pieceC (hN.2.1.1 7 (by omega)) (by omega), stepC (hN.2.1.1 0 (by omega)) (by omega) (hN.2.1.1 1 (by omega)) (by omega), thenR hN.1 hN1.2.2.1]
  simp only [bnd_s]
  rw [ite01, ite01, ite01]
  rcases below a (L.1 7) with hb | ⟨p, hp, rfl, hp2⟩
  · have hb2 : ¬ ((0 ≤ a.toInt ∧ a.toInt < L.1 7) ∧ 0 < L.1 0 ∧ 0 ≤ b.toInt ∧ b.toInt ≤ L.1 1) := fun q => hb q.1
    rw [if_neg hb, if_neg hb2]
    exact ⟨d, Mc, _, rfl, rfl, h.kr hk⟩
  · have h0 := hN.1.pos (i := 7) (by omega)
    rcases below b (L.1 1 + 1) with hb | ⟨s, hs, rfl, hs2⟩
    · have hb2 : ¬ ((0 ≤ (io p).toInt ∧ (io p).toInt < L.1 7) ∧ 0 < L.1 0 ∧ 0 ≤ b.toInt ∧ b.toInt ≤ L.1 1) := fun q => hb ⟨q.2.2.1, by omega⟩
      have hb3 : ¬ (0 < L.1 0 ∧ 0 ≤ b.toInt ∧ b.toInt ≤ L.1 1) := fun q => hb ⟨q.2.1, by omega⟩
      rw [if_pos (pos_io hp hp2), if_neg hb3, if_neg hb2]
      exact ⟨d, Mc, _, rfl, rfl, h.kr hk⟩
    · have hb3 : 0 < L.1 0 ∧ 0 ≤ (io s).toInt ∧ (io s).toInt ≤ L.1 1 := ⟨h0, pos_le (Nat.le_of_lt_succ hs) hs2⟩
      have hb2 : (0 ≤ (io p).toInt ∧ (io p).toInt < L.1 7) ∧ 0 < L.1 0 ∧ 0 ≤ (io s).toInt ∧ (io s).toInt ≤ L.1 1 := ⟨pos_io hp hp2, hb3⟩
      rw [if_pos (pos_io hp hp2), if_pos hb3, if_pos hb2]
      exact both (hX.kr hk) hN1 h0 _ _ (fun Mc Mr h1 h2 => H L p s Mc Mr hp (by omega) h1 h2)
theorem op_11 : ∀ (Mc Mr : Mem) (a1 a2 : Int32), Rel Mc Mr → ∃ (r : Int32) (Mc' Mr' : Mem), f_X10_skin a1 a2 Mc = some (r, Mc') ∧ f_X11_skin a1 a2 Mr = some (r, Mr') ∧ Rel Mc' Mr' :=
  opT (fun a b M => bnd (f_X2_valueAt 25 0 a b M) (fun r => some (r, M))) (fun a b M => bnd (f_X11_skinOf a b M) (fun r => some (r, M))) (fun a b M => by unfold f_X10_skin; rw [bnd2_id]; rfl) (fun _ _ _ => rfl) (fun L p s Mc Mr hp hs hc hr => ⟨io (sk L p s), by rw [(vC hc hp hs).1]; rfl, by rw [skR hr hp hs]; rfl⟩)
theorem op_12 : ∀ (Mc Mr : Mem) (a1 a2 : Int32), Rel Mc Mr → ∃ (r : Int32) (Mc' Mr' : Mem), f_X10_core a1 a2 Mc = some (r, Mc') ∧ f_X11_core a1 a2 Mr = some (r, Mr') ∧ Rel Mc' Mr' :=
  opT (fun a b M => bnd (f_X2_valueAt 25 1 a b M) (fun r => some (r, M))) (fun a b M => bnd (f_X11_coreOf a b M) (fun r => some (r, M))) (fun a b M => by unfold f_X10_core; rw [bnd2_id]; rfl) (fun _ _ _ => rfl) (fun L p s Mc Mr hp hs hc hr => ⟨io (co L p s), by rw [(vC hc hp hs).2.1]; rfl, by rw [coR hr hp hs]; rfl⟩)
theorem op_13 : ∀ (Mc Mr : Mem) (a1 a2 : Int32), Rel Mc Mr → ∃ (r : Int32) (Mc' Mr' : Mem), f_X10_strain a1 a2 Mc = some (r, Mc') ∧ f_X11_strain a1 a2 Mr = some (r, Mr') ∧ Rel Mc' Mr' :=
  opT (fun a b M => bnd (f_X2_valueAt 25 2 a b M) (fun r => some (r, M))) (fun a b M => bnd (f_X11_strainOf a b M) (fun r => some (r, M))) (fun a b M => by unfold f_X10_strain; rw [bnd2_id]; rfl) (fun _ _ _ => rfl) (fun L p s Mc Mr hp hs hc hr => ⟨io (sa L p s), by rw [(vC hc hp hs).2.2]; rfl, by rw [saR hr hp hs]; rfl⟩)
