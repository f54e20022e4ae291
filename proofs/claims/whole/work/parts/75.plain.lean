/-! last, busy, idle, count; feed, end -/
theorem ins_0 {L : Lh} (hL : OkL L) (x : Int32) (s : Nat) : (io (ins L x s) = io 0) ↔ ins L x s = 0 := io_inj (by have := ins_lt hL x s; omega) (by omega)
def la (f : Nat → Bool) : Nat → Option Nat
  | 0 => none
  | n + 1 => if f n = true then some n else la f n
theorem la_none {f : Nat → Bool} : ∀ {n : Nat}, (∀ i, i < n → f i = false) → la f n = none
  | 0, _ => rfl
  | n + 1, h => by
    simp only [la]
    rw [h n (by omega)]
    exact la_none (fun i hi => h i (by omega))
theorem la_some {f : Nat → Bool} {m : Nat} (hm : f m = true) : ∀ {n : Nat}, m < n → (∀ i, m < i → i < n → f i = false) → la f n = some m
  | 0, h, _ => absurd h (Nat.not_lt_zero _)
  | n + 1, h, h2 => by
    simp only [la]
    by_cases e : m = n
    · subst e; rw [if_pos hm]
    · rw [h2 n (by omega) (by omega)]
      exact la_some hm (by omega) (fun i h3 h4 => h2 i h3 (by omega))
theorem op_46 : ∀ (Mc Mr : Mem) (a1 : Int32), Rel Mc Mr → ∃ (r : Int32) (Mr' : Mem), f_X10_last a1 Mc = some r ∧ f_X11_last a1 Mr = some (r, Mr') ∧ Rel Mc Mr' :=
  opZ2 (fun a M => lq2 (L_X10_last_21 a M) FU (-1) 0) (fun a M => bnd (f_X11_steps M) (fun r8 => lq2 (L_X11_last_25 a) FU r8 M)) (fun _ _ => rfl) (fun _ _ => rfl) (fun L z Mc Mr hz hL hC hr => by
    have hb := hL.2.2.1
    refine ⟨oi (la (fun s => !decide (ins L (io z) s = 0)) (L.1 1 + 1)), ?_, ?_⟩
    · refine up2 (fun i => oi (la (fun s => !decide (ins L (io z) s = 0)) i)) (fun i => io i) (L.1 1 + 1) rfl rfl (by omega) (fun i hi K => ?_) (fun K => ?_)
      · unfold L_X10_last_21
        rw [hC.1 1 (by omega), if_neg (by rw [io_lt (by omega) (by omega)]; omega), insC hL hC (by omega)]
        simp only [bnd_s, lit, io_add, la]
        by_cases c : ins L (io z) i = 0
        · rw [if_pos ((ins_0 hL _ _).mpr c), if_neg (by rw [decide_eq_true c]; decide)]
        · rw [if_neg (fun q => c ((ins_0 hL _ _).mp q)), if_pos (by rw [decide_eq_false c]; rfl)]; rfl
      · unfold L_X10_last_21
        rw [hC.1 1 (by omega), if_pos (by rw [io_lt (by omega) (by omega)]; omega)]
    · rw [steps0 hr.2.2.1, bnd_s]
      have gR : ∀ i, i ≤ L.1 1 → ∀ K, L_X11_last_25 (io z) K (io i) Mr = if ins L (io z) i = 0 then K (io i + m1) Mr else some (io i, Mr) := by
        intro i hi K
        unfold L_X11_last_25
        simp only [lit, nio1]
        rw [if_neg (by rw [io_lt (by omega) (by omega)]; omega), insR hL hr.2.1 hr.2.2.1 hr.2.2.2.1 (by omega), bnd_s]
        by_cases c : ins L (io z) i = 0
        · rw [if_pos ((ins_0 hL _ _).mpr c), if_pos c]
        · rw [if_neg (fun q => c ((ins_0 hL _ _).mp q)), if_neg c]
      have em : ∀ i, 0 < i → io i + m1 = io (i - 1) := fun i h0 => by rw [show m1 = -(io 1) from rfl, ← Int32.sub_eq_add_neg, io_sub h0]
      rcases first_or (fun i => ins L (io z) (L.1 1 - i) ≠ 0) (L.1 1 + 1) with ha | ⟨m, hm, hm1, hm2⟩
      · rw [la_none (fun i hi => by
          have := Classical.not_not.mp (ha (L.1 1 - i) (by omega))
          rw [show L.1 1 - (L.1 1 - i) = i by omega] at this
          rw [decide_eq_true this]; rfl)]
        refine up2 (fun i => if i ≤ L.1 1 then io (L.1 1 - i) else m1) (fun _ => Mr) (L.1 1 + 1) (by rw [if_pos (Nat.zero_le _)]; rfl) rfl (by omega) (fun i hi K => ?_) (fun K => ?_)
        · rw [if_pos (by omega), gR _ (by omega), if_pos (Classical.not_not.mp (ha i hi))]
          by_cases c : i + 1 ≤ L.1 1
          · rw [if_pos c, em _ (by omega)]; rfl
          · rw [if_neg c, show L.1 1 - i = 0 by omega]; rfl
        · rw [if_neg (by omega)]
          unfold L_X11_last_25
          rw [if_pos (by decide)]; rfl
      · rw [la_some (m := L.1 1 - m) (by rw [decide_eq_false hm1]; rfl) (by omega) (fun i h3 h4 => by
          have := Classical.not_not.mp (hm2 (L.1 1 - i) (by omega))
          rw [show L.1 1 - (L.1 1 - i) = i by omega] at this
          rw [decide_eq_true this]; rfl)]
        refine up2 (fun i => io (L.1 1 - i)) (fun _ => Mr) m rfl rfl (by omega) (fun i hi K => ?_) (fun K => ?_)
        · rw [gR _ (by omega), if_pos (Classical.not_not.mp (hm2 i hi)), em _ (by omega)]; rfl
        · rw [gR _ (by omega), if_neg hm1]; rfl)
def bz (L : Lh) (z : Nat) : Nat := cN (fun s => !decide (ins L (io z) s = 0)) (L.1 1 + 1)
theorem busyC {L : Lh} {M : Mem} {z : Nat} (hL : OkL L) (hC : RpC 14 L M) : f_X5_busySteps 14 (io z) M = some (io (bz L z)) := by
  have hb := hL.2.2.1
  unfold f_X5_busySteps
  refine up2 (fun i => io (cN (fun s => !decide (ins L (io z) s = 0)) i)) (fun i => io i) (L.1 1 + 1) rfl rfl (by omega) (fun i hi K => ?_) (fun K => ?_)
  · unfold L_X5_busySteps_4
    rw [hC.1 1 (by omega), if_neg (by rw [io_lt (by omega) (by omega)]; omega), insC hL hC (by omega), cnt_step]
    simp only [bnd_s, lit, io_add]
    by_cases c : ins L (io z) i = 0
    · rw [if_pos ((ins_0 hL _ _).mpr c), if_neg (by rw [decide_eq_true c]; decide)]
    · rw [if_neg (fun q => c ((ins_0 hL _ _).mp q)), if_pos (by rw [decide_eq_false c]; rfl)]
  · unfold L_X5_busySteps_4
    rw [hC.1 1 (by omega), if_pos (by rw [io_lt (by omega) (by omega)]; omega)]
    rfl
theorem busyR {L : Lh} {M : Mem} {z : Nat} (hL : OkL L) (hr : VLn L M) : f_X11_busyOf (io z) M = some (io (bz L z)) := by
  have hb := hL.2.2.1
  unfold f_X11_busyOf
  refine up2 (fun i => io (cN (fun s => !decide (ins L (io z) s = 0)) i)) (fun i => io i) (L.1 1 + 1) rfl rfl (by omega) (fun i hi K => ?_) (fun K => ?_)
  · unfold L_X11_busyOf_4
    rw [steps0 hr.2.2.1, bnd_s, if_neg (by rw [io_lt (by omega) (by omega)]; omega), insR hL hr.2.1 hr.2.2.1 hr.2.2.2.1 (by omega), cnt_step]
    simp only [bnd_s, lit, io_add, letv_eq, Nat.add_zero]
    by_cases c : ins L (io z) i = 0
    · rw [if_pos ((ins_0 hL _ _).mpr c), if_neg (by rw [decide_eq_true c]; decide)]
    · rw [if_neg (fun q => c ((ins_0 hL _ _).mp q)), if_pos (by rw [decide_eq_false c]; rfl)]
  · unfold L_X11_busyOf_4
    rw [steps0 hr.2.2.1, bnd_s, if_pos (by rw [io_lt (by omega) (by omega)]; omega)]
    rfl
theorem op_47 : ∀ (Mc Mr : Mem) (a1 : Int32), Rel Mc Mr → ∃ (r : Int32) (Mr' : Mem), f_X10_busy a1 Mc = some r ∧ f_X11_busy a1 Mr = some (r, Mr') ∧ Rel Mc Mr' :=
  opZ2 (fun a M => bnd (f_X5_busySteps 14 a M) (fun r => some r)) (fun a M => bnd (f_X11_busyOf a M) (fun r => some (r, M))) (fun _ _ => rfl) (fun _ _ => rfl) (fun L z Mc Mr hz hL hC hr => ⟨io (bz L z), by rw [busyC hL hC, bnd_s], by rw [busyR hL hr, bnd_s]⟩)
theorem op_48 : ∀ (Mc Mr : Mem), Rel Mc Mr → ∃ (r : Int32) (Mr' : Mem), f_X10_idle Mc = some r ∧ f_X11_idle Mr = some (r, Mr') ∧ Rel Mc Mr' :=
  opL2 (fun M => lq2 (L_X10_idle_20 M) FU 0 0) (fun M => lq3 (L_X11_idle_23) FU 0 0 M) (fun _ => rfl) (fun _ => rfl) (fun L Mc Mr hL hC hr => by
    have hb := hL.2.2.1
    have hbz : ∀ z, (io (bz L z) = io 0) ↔ bz L z = 0 := fun z => io_inj (by have := cN_le (fun s => !decide (ins L (io z) s = 0)) (L.1 1 + 1); unfold bz; omega) (by omega)
    refine ⟨io (bN (fun z => decide (bz L z = 0)) (L.1 6)), ?_, ?_⟩
    · refine up2 (fun i => io (bN (fun z => decide (bz L z = 0)) i)) (fun i => io i) (L.1 6) rfl rfl (by omega) (fun i hi K => ?_) (fun K => ?_)
      · unfold L_X10_idle_20
        rw [hC.1 6 (by omega), if_neg (by rw [io_le (by omega) (by omega)]; omega), busyC hL hC, bnd_s, bit_step (by omega)]
        simp only [letv_eq, lit, io_add, decide_eq_true_eq]
        by_cases c : bz L i = 0
        · rw [if_pos ((hbz i).mpr c), if_pos c]
        · rw [if_neg (fun q => c ((hbz i).mp q)), if_neg c]
      · unfold L_X10_idle_20
        rw [hC.1 6 (by omega), if_pos (by rw [io_le (by omega) (by omega)]; omega)]
    · refine up3 (fun i => io (bN (fun z => decide (bz L z = 0)) i)) (fun i => io i) (fun _ => Mr) (L.1 6) rfl rfl rfl (by omega) (fun i hi K => ?_) (fun K => ?_)
      · unfold L_X11_idle_23
        rw [hr.2.2.2.2.1.2.2.2.1, if_neg (by rw [io_le (by omega) (by omega)]; omega), busyR hL hr, bnd_s, bit_step (by omega)]
        simp only [letv_eq, lit, io_add, decide_eq_true_eq, or0]
        by_cases c : bz L i = 0
        · rw [if_pos ((hbz i).mpr c), if_pos c]
        · rw [if_neg (fun q => c ((hbz i).mp q)), if_neg c]
      · unfold L_X11_idle_23
        rw [hr.2.2.2.2.1.2.2.2.1, if_pos (by rw [io_le (by omega) (by omega)]; omega)])
theorem slots_rc {k : Nat} (hk : k < 4) : rC 3 k = 103 + 2 * k ∧ rC (103 + 2 * k) 3 = 104 + 2 * k := by
  have : ∀ k, k < 4 → rC 3 k = 103 + 2 * k ∧ rC (103 + 2 * k) 3 = 104 + 2 * k := by decide +kernel
  exact this k hk
theorem op_79 : ∀ (Mc Mr : Mem) (a1 : Int32), Rel Mc Mr → ∃ (r : Int32) (Mr' : Mem), f_X10_count a1 Mc = some r ∧ f_X11_count a1 Mr = some (r, Mr') ∧ Rel Mc Mr' := by
  intro Mc Mr a h
  obtain ⟨hX, L, hN⟩ := h.split
  have hk := kr0 Mr
  have hN1 := hN.kr hk
  have h7 := hN.1.2.2.1
  unfold f_X10_count f_X11_count
  rw [letv_eq, in_eq, ite01]
  have e600 : (7 : Int64).toInt = 7 := rfl
  have ez : (0 : Int64).toInt = 0 := rfl
  have nn : ∀ i j : Nat, i < 20 → j < 20 → i ≠ j → ¬ io i = io j := fun i j hi hj hij q => hij ((io_inj (by omega) (by omega)).mp q)
  rcases below a 11 with hb | ⟨w, hw, rfl, hw2⟩
  · have hb2 : ¬ ((0 : Int64).toInt ≤ a.toInt64.toInt ∧ a.toInt64.toInt ≤ (7 : Int64).toInt) := by
      rw [e600, ez, Int32.toInt_toInt64]; omega
    have hn : ∀ k : Nat, k < 11 → ¬ a = io k := fun k hk q => hb (by rw [q]; exact pos_io hk (by omega))
    rw [if_neg hb2, if_neg (show ¬ a = 0 from hn 0 (by omega)), if_neg (show ¬ a = 1 from hn 1 (by omega)), if_neg (show ¬ a = 2 from hn 2 (by omega)), if_neg (show ¬ a = 3 from hn 3 (by omega)), if_neg (show ¬ a = 4 from hn 4 (by omega)), if_neg (show ¬ a = 5 from hn 5 (by omega)), if_neg (show ¬ a = 6 from hn 6 (by omega)), if_neg (show ¬ a = 7 from hn 7 (by omega)), if_neg (show ¬ a = 8 from hn 8 (by omega)), if_neg (show ¬ a = 9 from hn 9 (by omega)), if_neg (show ¬ a = 10 from hn 10 (by omega)), if_neg (show ¬ a = 8 from hn 8 (by omega)), if_neg (show ¬ a = 9 from hn 9 (by omega)), if_neg (show ¬ a = 10 from hn 10 (by omega))]
    exact ⟨_, _, rfl, rfl, h.kr hk⟩
  by_cases w8 : w < 8
  · have hb2 : (0 : Int64).toInt ≤ (io w).toInt64.toInt ∧ (io w).toInt64.toInt ≤ (7 : Int64).toInt := by
      rw [e600, ez, Int32.toInt_toInt64, io_toInt hw2]; omega
    rw [if_pos hb2, oob_f (by omega) (by omega), ix_io hw2, show (st Mr 0 0 0).1 7 w = io (L.1 (w + 1)) from numR hN1.2.2.1 w8]
    simp only [Bool.false_eq_true, if_false]
    refine ⟨io (L.1 (w + 1)), _, ?_, rfl, h.kr hk⟩
    have e8 : Mc.1 20 0 = io (L.1 8) := hN.2.1.2.1.1
    have hw8 : w = 0 ∨ w = 1 ∨ w = 2 ∨ w = 3 ∨ w = 4 ∨ w = 5 ∨ w = 6 ∨ w = 7 := by omega
    rw [hN.2.1.1 1 (by omega), hN.2.1.1 2 (by omega), hN.2.1.1 3 (by omega), hN.2.1.1 4 (by omega), hN.2.1.1 5 (by omega), hN.2.1.1 6 (by omega), hN.2.1.1 7 (by omega), e8]
    rcases hw8 with rfl | rfl | rfl | rfl | rfl | rfl | rfl | rfl <;> rfl
  · have hb2 : ¬ ((0 : Int64).toInt ≤ (io w).toInt64.toInt ∧ (io w).toInt64.toInt ≤ (7 : Int64).toInt) := by
      rw [e600, ez, Int32.toInt_toInt64, io_toInt hw2]; omega
    rw [if_neg hb2]
    have hw8 : w = 8 ∨ w = 9 ∨ w = 10 := by omega
    rcases hw8 with rfl | rfl | rfl
    · refine ⟨io (L.1 0), st Mr 0 0 0, ?_, ?_, h.kr hk⟩
      · rw [hN.2.1.1 0 (by omega)]; rfl
      · rw [if_pos (show io 8 = 8 from rfl), show oob 0 5 = false from rfl, show ix 0 = 0 from rfl, hN1.2.2.1.1]; rfl
    · obtain ⟨n, hn, t1, t2, -⟩ := hX.1
      refine ⟨io n, st Mr 0 0 0, ?_, ?_, h.kr hk⟩
      · rw [t1]; rfl
      · rw [if_neg (show ¬ io 9 = 8 from nn 9 8 (by omega) (by omega) (by omega)), if_pos (show io 9 = 9 from rfl), show (st Mr 0 0 0).1 0 6 = Mr.1 0 6 by simp [st], t2]
    · refine ⟨io (cN (fun k => !decide (Mr.1 1 k = m1)) 4), st Mr 0 0 0, ?_, ?_, h.kr hk⟩
      · have e : f_X10_slotsWithRows Mc = some (io (cN (fun k => !decide (Mr.1 1 k = m1)) 4)) := by
          unfold f_X10_slotsWithRows
          refine up2 (fun i => io (cN (fun k => !decide (Mr.1 1 k = m1)) i)) (fun i => io i) 4 rfl rfl (by omega) (fun i hi K => ?_) (fun K => ?_)
          · unfold L_X10_slotsWithRows_4
            simp (disch := omega) only [lit, io_le_f, if_false, oob_f, Bool.false_eq_true, ix_io, io_add]
            rw [(slots_rc hi).1, cnt_step]
            rcases hX.2.2.1 i hi with ⟨q1, q2⟩ | ⟨w, n, hw, hn, q1, q2, q3, -⟩
            · rw [q1, q2, if_pos rfl, if_neg (by decide)]
            · rw [q1, q3, if_neg (by decide), if_pos (by rw [decide_eq_false (fun q => (io_m1 (a := w) (by omega)).mp q)]; rfl)]
              simp only [io_add]
          · unfold L_X10_slotsWithRows_4
            rw [if_pos (show (4 : Int32) ≤ io 4 from by decide)]
        rw [if_neg (show ¬ io 10 = 0 from nn 10 0 (by omega) (by omega) (by omega)), if_neg (show ¬ io 10 = 1 from nn 10 1 (by omega) (by omega) (by omega)), if_neg (show ¬ io 10 = 2 from nn 10 2 (by omega) (by omega) (by omega)), if_neg (show ¬ io 10 = 3 from nn 10 3 (by omega) (by omega) (by omega)), if_neg (show ¬ io 10 = 4 from nn 10 4 (by omega) (by omega) (by omega)), if_neg (show ¬ io 10 = 5 from nn 10 5 (by omega) (by omega) (by omega)), if_neg (show ¬ io 10 = 6 from nn 10 6 (by omega) (by omega) (by omega)), if_neg (show ¬ io 10 = 7 from nn 10 7 (by omega) (by omega) (by omega)), if_neg (show ¬ io 10 = 8 from nn 10 8 (by omega) (by omega) (by omega)), if_neg (show ¬ io 10 = 9 from nn 10 9 (by omega) (by omega) (by omega)), if_pos (show io 10 = 10 from rfl), e, bnd_s]
      · rw [if_neg (show ¬ io 10 = 8 from nn 10 8 (by omega) (by omega) (by omega)), if_neg (show ¬ io 10 = 9 from nn 10 9 (by omega) (by omega) (by omega)), if_pos (show io 10 = 10 from rfl)]
        refine up3 (fun i => io (cN (fun k => !decide (Mr.1 1 k = m1)) i)) (fun i => io i) (fun _ => st Mr 0 0 0) 4 rfl rfl rfl (by omega) (fun i hi K => ?_) (fun K => ?_)
        · unfold L_X11_count_66
          have e1 : (st Mr 0 0 0).1 1 i = Mr.1 1 i := by simp [st]
          simp (disch := omega) only [io_le_f, if_false, oob_f, Bool.false_eq_true, ix_io, letv_eq, e1]
          rw [if_neg (show ¬ (4 : Int32) ≤ io i from by rw [show (4 : Int32) = io 4 from rfl, io_le (by omega) (by omega)]; omega), cnt_step]
          by_cases c : Mr.1 1 i = m1
          · rw [if_pos (show Mr.1 1 i = -1 from c), if_neg (by rw [decide_eq_true c]; decide)]
            rw [show io (cN (fun k => !decide (Mr.1 1 k = m1)) i) + (0 : Int32) = _ from add0 _, show io i + 1 = io (i + 1) from io_add i 1]
          · rw [if_neg (show ¬ Mr.1 1 i = -1 from c), if_pos (by rw [decide_eq_false c]; rfl), show io i + 1 = io (i + 1) from io_add i 1]
            rfl
        · unfold L_X11_count_66
          rw [if_pos (show (4 : Int32) ≤ io 4 from by decide)]
