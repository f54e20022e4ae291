/-! still more questions of the course of now -/
theorem op_28 : ∀ (Mc Mr : Mem) (a1 : Int32), Rel Mc Mr → ∃ (r : Int32) (Mc' Mr' : Mem), f_X10_tense a1 Mc = some (r, Mc') ∧ f_X11_tense a1 Mr = some (r, Mr') ∧ Rel Mc' Mr' :=
  opP (fun a M => bnd (f_X2_tenseSteps 25 a M) (fun r => some (r, M))) (fun a M => bnd (f_X11_comes a M) (fun r8 => lq3 (L_X11_tense_29 a) FU 0 r8 M)) (fun _ _ => rfl) (fun _ _ => rfl) (fun L p Mc Mr hp hc hr => ⟨io (cN (fun s => decide (cm L p ≤ s) && decide (sk L p s < co L p s)) (L.1 1 + 1)), by
    have hb := hc.b
    have e : f_X2_tenseSteps 25 (io p) Mc = some (io (cN (fun s => decide (cm L p ≤ s) && decide (sk L p s < co L p s)) (L.1 1 + 1))) := by
      unfold f_X2_tenseSteps
      refine up2 (fun i => io (cN (fun s => decide (cm L p ≤ s) && decide (sk L p s < co L p s)) i)) (fun i => io i) (L.1 1 + 1) rfl rfl (by omega) (fun i hi K => ?_) (fun K => ?_)
      · unfold L_X2_tenseSteps_4
        have hk := sk_le hc.1 hc.2.1 hp i
        rw [e25.1, hc.num (by omega), if_neg (by rw [io_lt (by omega) (by omega)]; omega), comeV hc hp (by omega), cnt_step]
        simp only [bnd_s, ite01]
        by_cases c : cm L p ≤ i
        · rw [if_pos c, skC hc hp (by omega), (vC hc hp (by omega)).2.1]
          simp only [bnd_s, lit, io_add]
          by_cases c2 : sk L p i < co L p i
          · rw [if_neg (by rw [io_le (by omega) (by omega)]; omega), if_pos (by simp [c, c2])]
          · rw [if_pos (by rw [io_le (by omega) (by omega)]; omega), if_neg (by simp [c2])]
        · rw [if_neg c, if_neg (by simp [c])]
          simp only [lit, io_add]
      · unfold L_X2_tenseSteps_4
        rw [e25.1, hc.num (by omega), if_pos (by rw [io_lt (by omega) (by omega)]; omega)]
    rw [e]; rfl, by
    have hb := hc.b
    have hcm : cm L p ≤ 14 := (hc.1.2.2.2.2.1 p hp).2.2.2
    rw [comesV hr hp]
    simp only [bnd_s]
    have hz : ∀ n, n ≤ cm L p → cN (fun s => decide (cm L p ≤ s) && decide (sk L p s < co L p s)) n = 0 := fun n hn => cN_zero (fun i hi => by
      show (decide (cm L p ≤ i) && _) = false
      rw [decide_eq_false (by omega)]; rfl)
    by_cases cc : cm L p ≤ L.1 1
    · refine up3 (fun i => io (cN (fun s => decide (cm L p ≤ s) && decide (sk L p s < co L p s)) (cm L p + i))) (fun i => io (cm L p + i)) (fun _ => Mr) (L.1 1 + 1 - cm L p) (by rw [Nat.add_zero, hz _ (Nat.le_refl _)]; rfl) rfl rfl (by omega) (fun i hi K => ?_) (fun K => ?_)
      · unfold L_X11_tense_29
        have hk := sk_le hc.1 hc.2.1 hp (cm L p + i)
        rw [stepsV hr]
        simp only [bnd_s]
        rw [if_neg (by rw [io_lt (by omega) (by omega)]; omega), skR hr hp (by omega), coR hr hp (by omega), ← Nat.add_assoc, cnt_step]
        simp only [bnd_s, lit, io_add, letv_eq, Nat.add_zero]
        by_cases c2 : sk L p (cm L p + i) < co L p (cm L p + i)
        · rw [if_neg (by rw [io_le (by omega) (by omega)]; omega), if_pos (by simp [c2])]
        · rw [if_pos (by rw [io_le (by omega) (by omega)]; omega), if_neg (by simp [c2])]
      · unfold L_X11_tense_29
        rw [stepsV hr]
        simp only [bnd_s]
        rw [if_pos (by rw [io_lt (by omega) (by omega)]; omega), show cm L p + (L.1 1 + 1 - cm L p) = L.1 1 + 1 by omega]
    · refine up3 (fun _ => io 0) (fun i => io (cm L p)) (fun _ => Mr) 0 rfl rfl rfl (by omega) (fun i hi K => absurd hi (Nat.not_lt_zero _)) (fun K => ?_)
      unfold L_X11_tense_29
      rw [stepsV hr]
      simp only [bnd_s]
      rw [if_pos (by rw [io_lt (by omega) (by omega)]; omega), hz _ (by omega)]⟩)
theorem op_29 : ∀ (Mc Mr : Mem) (a1 : Int32), Rel Mc Mr → ∃ (r : Int32) (Mc' Mr' : Mem), f_X10_warms a1 Mc = some (r, Mc') ∧ f_X11_warms a1 Mr = some (r, Mr') ∧ Rel Mc' Mr' :=
  opP (fun a M => bnd (f_X2_warmingSteps 25 a M) (fun r => some (r, M))) (fun a M => lq3 (L_X11_warms_25 a) FU 0 1 M) (fun _ _ => rfl) (fun _ _ => rfl) (fun L p Mc Mr hp hc hr => ⟨io (cN (fun s => decide (sk L p s < sk L p (s + 1))) (L.1 1)), by
    have hb := hc.b
    have e : f_X2_warmingSteps 25 (io p) Mc = some (io (cN (fun s => decide (sk L p s < sk L p (s + 1))) (L.1 1))) := by
      unfold f_X2_warmingSteps
      refine up2 (fun i => io (cN (fun s => decide (sk L p s < sk L p (s + 1))) i)) (fun i => io i) (L.1 1) rfl rfl (by omega) (fun i hi K => ?_) (fun K => ?_)
      · unfold L_X2_warmingSteps_4
        have hk := (sk_le hc.1 hc.2.1 hp i).1
        have hk2 := (sk_le hc.1 hc.2.1 hp (i + 1)).1
        rw [e25.1, hc.num (by omega), if_neg (by rw [io_le (by omega) (by omega)]; omega), fallC hc hp hi, cnt_step]
        simp only [bnd_s, lit, io_add, decide_eq_true_eq]
        have ed : (io (sk L p i) - io (sk L p (i + 1))).toInt = (sk L p i : Int) - sk L p (i + 1) := by
          rw [Int32.toInt_sub, io_toInt (by omega), io_toInt (by omega)]
          exact Int.bmod_eq_of_le (by omega) (by omega)
        by_cases c2 : sk L p i < sk L p (i + 1)
        · rw [if_neg (by rw [Int32.le_iff_toInt_le, ed, io_toInt (by omega)]; omega), if_pos c2]
        · rw [if_pos (by rw [Int32.le_iff_toInt_le, ed, io_toInt (by omega)]; omega), if_neg c2]
      · unfold L_X2_warmingSteps_4
        rw [e25.1, hc.num (by omega), if_pos (by rw [io_le (by omega) (by omega)]; omega)]
    rw [e]; rfl, by
    have hb := hc.b
    refine up3 (fun i => io (cN (fun s => decide (sk L p s < sk L p (s + 1))) i)) (fun i => io (i + 1)) (fun _ => Mr) (L.1 1) rfl rfl rfl (by omega) (fun i hi K => ?_) (fun K => ?_)
    · unfold L_X11_warms_25
      have hk := (sk_le hc.1 hc.2.1 hp i).1
      have hk2 := (sk_le hc.1 hc.2.1 hp (i + 1)).1
      rw [stepsV hr]
      simp only [bnd_s, lit]
      rw [if_neg (by rw [io_lt (by omega) (by omega)]; omega), skR hr hp (by omega), io_sub (by omega), show i + 1 - 1 = i by omega, skR hr hp (by omega), cnt_step]
      simp only [bnd_s, lit, io_add, letv_eq, decide_eq_true_eq, Nat.add_zero]
      by_cases c2 : sk L p i < sk L p (i + 1)
      · rw [if_neg (by rw [io_le (by omega) (by omega)]; omega), if_pos c2]
      · rw [if_pos (by rw [io_le (by omega) (by omega)]; omega), if_neg c2]
    · unfold L_X11_warms_25
      rw [stepsV hr]
      simp only [bnd_s]
      rw [if_pos (by rw [io_lt (by omega) (by omega)]; omega)]⟩)
theorem op_40 : ∀ (Mc Mr : Mem) (a1 : Int32), Rel Mc Mr → ∃ (r : Int32) (Mc' Mr' : Mem), f_X10_gaps a1 Mc = some (r, Mc') ∧ f_X11_gaps a1 Mr = some (r, Mr') ∧ Rel Mc' Mr' :=
  opP (fun a M => bnd (f_X2_strainedSteps 25 a M) (fun r => some (r, M))) (fun a M => lq3 (L_X11_gaps_25 a) FU 0 0 M) (fun _ _ => rfl) (fun _ _ => rfl) (fun L p Mc Mr hp hc hr => by
    have hb := hc.b
    have hbe := (hc.1.2.2.2.2.1 p hp).2.2.1
    refine ⟨io (cN (fun s => decide (L.2.2.1 p 2 / 2 < sa L p s)) (L.1 1 + 1)), ?_, ?_⟩
    · have e : f_X2_strainedSteps 25 (io p) Mc = some (io (cN (fun s => decide (L.2.2.1 p 2 / 2 < sa L p s)) (L.1 1 + 1))) := by
        unfold f_X2_strainedSteps
        rw [e25.1, pieceC (hc.num (by omega)) (by omega), ite01, if_pos (pos_io hp (by omega))]
        refine up2 (fun i => io (cN (fun s => decide (L.2.2.1 p 2 / 2 < sa L p s)) i)) (fun i => io i) (L.1 1 + 1) rfl rfl (by omega) (fun i hi K => ?_) (fun K => ?_)
        · unfold L_X2_strainedSteps_17
          have hk := sa_le hc.1 hc.2.1 hp i
          have h18 : Mc.1 18 p = io (L.2.2.1 p 2) := (hc.2.2.1.2.2.2.1 p hp).2.2.1
          rw [e25.1, hc.num (by omega), if_neg (by rw [io_lt (by omega) (by omega)]; omega), saC hc hp (by omega), cnt_step]
          simp only [bnd_s, lit, io_add, decide_eq_true_eq, e25.2.2.2]
          simp (disch := omega) only [oob_f, Bool.false_eq_true, if_false, ix_io, h18, io_div]
          by_cases c2 : L.2.2.1 p 2 / 2 < sa L p i
          · rw [if_neg (by rw [io_le (by omega) (by omega)]; omega), if_pos c2]
          · rw [if_pos (by rw [io_le (by omega) (by omega)]; omega), if_neg c2]
        · unfold L_X2_strainedSteps_17
          rw [e25.1, hc.num (by omega), if_pos (by rw [io_lt (by omega) (by omega)]; omega)]
      rw [e]; rfl
    · refine up3 (fun i => io (cN (fun s => decide (L.2.2.1 p 2 / 2 < sa L p s)) i)) (fun i => io i) (fun _ => Mr) (L.1 1 + 1) rfl rfl rfl (by omega) (fun i hi K => ?_) (fun K => ?_)
      · unfold L_X11_gaps_25
        have hk := sa_le hc.1 hc.2.1 hp i
        have h18 : Mr.1 9 (4 * p + 2) = io (L.2.2.1 p 2) := by
          have := hr.2.2.1.2.2.2.1 p 2 hp (by omega)
          rw [show 24 * 0 + (4 * p + 2) = 4 * p + 2 by omega] at this
          exact this
        rw [stepsV hr]
        simp only [bnd_s, lit]
        rw [if_neg (by rw [io_lt (by omega) (by omega)]; omega), saR hr hp (by omega), cnt_step]
        simp only [bnd_s, lit, io_mul, io_add, letv_eq, decide_eq_true_eq, Nat.add_zero]
        simp (disch := omega) only [oob_f, Bool.false_eq_true, if_false, ix_io, h18, io_div]
        by_cases c2 : L.2.2.1 p 2 / 2 < sa L p i
        · rw [if_neg (by rw [io_le (by omega) (by omega)]; omega), if_pos c2]
        · rw [if_pos (by rw [io_le (by omega) (by omega)]; omega), if_neg c2]
      · unfold L_X11_gaps_25
        rw [stepsV hr]
        simp only [bnd_s]
        rw [if_pos (by rw [io_lt (by omega) (by omega)]; omega)])
theorem op_31 : ∀ (Mc Mr : Mem) (a1 : Int32), Rel Mc Mr → ∃ (r : Int32) (Mc' Mr' : Mem), f_X10_still a1 Mc = some (r, Mc') ∧ f_X11_still a1 Mr = some (r, Mr') ∧ Rel Mc' Mr' :=
  opP (fun a M => bnd (f_X2_stillFrom 25 a M) (fun r => some (r, M))) (fun a M => bnd (f_X11_steps M) (fun r8 => lq2 (L_X11_still_26 a) FU r8 M)) (fun _ _ => rfl) (fun _ _ => rfl) (fun L p Mc Mr hp hc hr => by
    have hb := hc.b
    rw [stepsV hr]
    unfold f_X2_stillFrom
    rw [e25.1, hc.num (by omega)]
    simp only [bnd_s, letv_eq]
    have hk := fun s => (sk_le hc.1 hc.2.1 hp s).1
    have gC : ∀ i, 0 < i → i ≤ L.1 1 → ∀ K, L_X2_stillFrom_8 25 (io p) Mc K (io i) = if sk L p (i - 1) = sk L p (L.1 1) then K (io (i - 1)) else some (io i) := by
      intro i h0 hi K
      unfold L_X2_stillFrom_8
      have k1 := hk (i - 1)
      have k2 := hk (L.1 1)
      simp only [lit, nio1]
      rw [if_neg (by rw [io_le (by omega) (by omega)]; omega), io_sub (by omega), skC hc hp (by omega), e25.1, hc.num (by omega), skC hc hp (by omega)]
      simp only [bnd_s]
      have em : io i + m1 = io (i - 1) := by rw [show m1 = -(io 1) from rfl, ← Int32.sub_eq_add_neg, io_sub h0]
      rw [em]
      by_cases c : sk L p (i - 1) = sk L p (L.1 1)
      · rw [if_pos (by rw [c]), if_pos c]
      · rw [if_neg (by rw [io_inj (by omega) (by omega)]; exact c), if_neg c]
    have gR : ∀ i, 0 < i → i ≤ L.1 1 → ∀ K, L_X11_still_26 (io p) K (io i) Mr = if sk L p (i - 1) = sk L p (L.1 1) then K (io (i - 1)) Mr else some (io i, Mr) := by
      intro i h0 hi K
      unfold L_X11_still_26
      have k1 := hk (i - 1)
      have k2 := hk (L.1 1)
      simp only [lit, nio1]
      rw [if_neg (by rw [io_le (by omega) (by omega)]; omega), io_sub (by omega), skR hr hp (by omega), stepsV hr]
      simp only [bnd_s]
      rw [skR hr hp (by omega)]
      simp only [bnd_s]
      have em : io i + m1 = io (i - 1) := by rw [show m1 = -(io 1) from rfl, ← Int32.sub_eq_add_neg, io_sub h0]
      rw [em]
      by_cases c : sk L p (i - 1) = sk L p (L.1 1)
      · rw [if_pos (by rw [c]), if_pos c]
      · rw [if_neg (by rw [io_inj (by omega) (by omega)]; exact c), if_neg c]
    rcases first_or (fun i => sk L p (L.1 1 - i - 1) ≠ sk L p (L.1 1)) (L.1 1) with ha | ⟨m, hm, hm1, hm2⟩
    · refine ⟨io 0, ?_, ?_⟩
      · have e : lq1 (L_X2_stillFrom_8 25 (io p) Mc) FU (io (L.1 1)) = some (io 0) := by
          refine up1 (fun i => io (L.1 1 - i)) (L.1 1) rfl (by omega) (fun i hi K => ?_) (fun K => ?_)
          · rw [gC _ (by omega) (by omega), if_pos (Classical.not_not.mp (ha i hi))]; rfl
          · unfold L_X2_stillFrom_8
            simp only [lit]
            rw [Nat.sub_self, if_pos (by rw [io_le (by omega) (by omega)]; omega)]
        rw [e]; rfl
      · refine up2 (fun i => io (L.1 1 - i)) (fun _ => Mr) (L.1 1) rfl rfl (by omega) (fun i hi K => ?_) (fun K => ?_)
        · rw [gR _ (by omega) (by omega), if_pos (Classical.not_not.mp (ha i hi))]; rfl
        · unfold L_X11_still_26
          simp only [lit]
          rw [Nat.sub_self, if_pos (by rw [io_le (by omega) (by omega)]; omega)]
    · refine ⟨io (L.1 1 - m), ?_, ?_⟩
      · have e : lq1 (L_X2_stillFrom_8 25 (io p) Mc) FU (io (L.1 1)) = some (io (L.1 1 - m)) := by
          refine up1 (fun i => io (L.1 1 - i)) m rfl (by omega) (fun i hi K => ?_) (fun K => ?_)
          · rw [gC _ (by omega) (by omega), if_pos (Classical.not_not.mp (hm2 i hi))]; rfl
          · rw [gC _ (by omega) (by omega), if_neg hm1]
        rw [e]; rfl
      · refine up2 (fun i => io (L.1 1 - i)) (fun _ => Mr) m rfl rfl (by omega) (fun i hi K => ?_) (fun K => ?_)
        · rw [gR _ (by omega) (by omega), if_pos (Classical.not_not.mp (hm2 i hi))]; rfl
        · rw [gR _ (by omega) (by omega), if_neg hm1])
/-! the first of the most that is above nothing -/
def ws (f : Nat → Int32) : Nat → Option Nat
  | 0 => none
  | n + 1 => match ws f n with
    | none => if f n ≤ io 0 then none else some n
    | some b => if f n ≤ f b then some b else some n
def wv (f : Nat → Int32) (o : Option Nat) : Int32 := match o with
  | none => io 0
  | some b => f b
theorem wv_none (f : Nat → Int32) : wv f none = io 0 := rfl
theorem wv_some (f : Nat → Int32) (b : Nat) : wv f (some b) = f b := rfl
theorem ws_lt {f : Nat → Int32} : ∀ {n b : Nat}, ws f n = some b → b < n
  | 0, b, h => by cases h
  | n + 1, b, h => by
    simp only [ws] at h
    cases e : ws f n with
    | none => rw [e] at h; simp only at h; split at h <;> cases h; omega
    | some x =>
      rw [e] at h
      have := ws_lt e
      simp only at h
      split at h <;> cases h <;> omega
theorem ws_step (f : Nat → Int32) (n : Nat) : ws f (n + 1) = if f n ≤ wv f (ws f n) then ws f n else some n := by
  simp only [ws]
  cases ws f n with
  | none => rfl
  | some b => rfl
theorem op_38 : ∀ (Mc Mr : Mem) (a1 : Int32), Rel Mc Mr → ∃ (r : Int32) (Mc' Mr' : Mem), f_X10_chill a1 Mc = some (r, Mc') ∧ f_X11_chill a1 Mr = some (r, Mr') ∧ Rel Mc' Mr' :=
  opP (fun a M => bnd (f_X2_chillStep 25 a M) (fun r => some (r, M))) (fun a M => lq3 (L_X11_chill_25 a) FU (-1) 0 M) (fun _ _ => rfl) (fun _ _ => rfl) (fun L p Mc Mr hp hc hr => by
    have hb := hc.b
    refine ⟨oi (ws (fun s => io (sk L p s) - io (sk L p (s + 1))) (L.1 1)), ?_, ?_⟩
    · have e : f_X2_chillStep 25 (io p) Mc = some (oi (ws (fun s => io (sk L p s) - io (sk L p (s + 1))) (L.1 1))) := by
        unfold f_X2_chillStep
        refine up3 (fun i => oi (ws (fun s => io (sk L p s) - io (sk L p (s + 1))) i)) (fun i => wv (fun s => io (sk L p s) - io (sk L p (s + 1))) (ws (fun s => io (sk L p s) - io (sk L p (s + 1))) i)) (fun i => io i) (L.1 1) rfl rfl rfl (by omega) (fun i hi K => ?_) (fun K => ?_)
        · unfold L_X2_chillStep_7
          rw [e25.1, hc.num (by omega), if_neg (by rw [io_le (by omega) (by omega)]; omega), fallC hc hp hi, ws_step]
          simp only [bnd_s, lit, io_add]
          split
          · rfl
          · rfl
        · unfold L_X2_chillStep_7
          rw [e25.1, hc.num (by omega), if_pos (by rw [io_le (by omega) (by omega)]; omega)]
      rw [e]; rfl
    · refine up3 (fun i => oi (ws (fun s => io (sk L p s) - io (sk L p (s + 1))) i)) (fun i => io i) (fun _ => Mr) (L.1 1) rfl rfl rfl (by omega) (fun i hi K => ?_) (fun K => ?_)
      · unfold L_X11_chill_25
        rw [stepsV hr]
        simp only [bnd_s]
        rw [if_neg (by rw [io_le (by omega) (by omega)]; omega), dropR hr hp hi, ws_step]
        simp only [bnd_s, lit, nio1, io_add]
        cases e : ws (fun s => io (sk L p s) - io (sk L p (s + 1))) i with
        | none =>
          rw [if_pos (by rw [oi_none])]
          rw [wv_none]
          split
          · rfl
          · rfl
        | some b =>
          have hbl := ws_lt e
          rw [oi_some, if_neg (by rw [io_m1 (by omega)]; exact not_false), dropR hr hp (by omega)]
          rw [wv_some]
          simp only [bnd_s]
          split
          · rfl
          · rfl
      · unfold L_X11_chill_25
        rw [stepsV hr]
        simp only [bnd_s]
        rw [if_pos (by rw [io_le (by omega) (by omega)]; omega)])
theorem op_26 : ∀ (Mc Mr : Mem), Rel Mc Mr → ∃ (r : Int32) (Mc' Mr' : Mem), f_X10_worst Mc = some (r, Mc') ∧ f_X11_worst Mr = some (r, Mr') ∧ Rel Mc' Mr' :=
  opL (fun M => bnd (f_X2_worstStep 25 M) (fun r => some (r, M))) (fun M => lq3 (L_X11_worst_23) FU (-1) 0 M) (fun _ => rfl) (fun _ => rfl) (fun L Mc Mr hc hr => by
    have hb := hc.b
    have hlt : ∀ s, cks L s < 256 := fun s => Nat.lt_of_lt_of_le (bN_lt _ _) (Nat.pow_le_pow_right (n := 2) (by decide) (by omega : L.1 7 ≤ 8))
    refine ⟨oi (ws (fun s => io (pop (cks L s))) (L.1 1 + 1)), ?_, ?_⟩
    · have e : f_X2_worstStep 25 Mc = some (oi (ws (fun s => io (pop (cks L s))) (L.1 1 + 1))) := by
        unfold f_X2_worstStep
        refine up3 (fun i => oi (ws (fun s => io (pop (cks L s))) i)) (fun i => wv (fun s => io (pop (cks L s))) (ws (fun s => io (pop (cks L s))) i)) (fun i => io i) (L.1 1 + 1) rfl rfl rfl (by omega) (fun i hi K => ?_) (fun K => ?_)
        · unfold L_X2_worstStep_6
          rw [e25.1, hc.num (by omega), if_neg (by rw [io_lt (by omega) (by omega)]; omega), crackingV hc (by omega), ws_step]
          simp only [bnd_s, letv_eq, lit, io_add, bitc (hlt i)]
          split
          · rfl
          · rfl
        · unfold L_X2_worstStep_6
          rw [e25.1, hc.num (by omega), if_pos (by rw [io_lt (by omega) (by omega)]; omega)]
      rw [e]; rfl
    · refine up3 (fun i => oi (ws (fun s => io (pop (cks L s))) i)) (fun i => io i) (fun _ => Mr) (L.1 1 + 1) rfl rfl rfl (by omega) (fun i hi K => ?_) (fun K => ?_)
      · unfold L_X11_worst_23
        rw [stepsV hr]
        simp only [bnd_s]
        rw [if_neg (by rw [io_lt (by omega) (by omega)]; omega), crackedV hr (by omega), ws_step]
        simp only [bnd_s]
        rw [sizc (hlt i)]
        simp only [bnd_s, lit, nio1, io_add]
        cases e : ws (fun s => io (pop (cks L s))) i with
        | none =>
          rw [if_pos (by rw [oi_none])]
          rw [wv_none]
          split
          · rfl
          · rfl
        | some b =>
          have hbl := ws_lt e
          rw [oi_some, if_neg (by rw [io_m1 (by omega)]; exact not_false), crackedV hr (by omega)]
          rw [wv_some]
          simp only [bnd_s]
          rw [sizc (hlt b)]
          simp only [bnd_s]
          split
          · rfl
          · rfl
      · unfold L_X11_worst_23
        rw [stepsV hr]
        simp only [bnd_s]
        rw [if_pos (by rw [io_lt (by omega) (by omega)]; omega)])
