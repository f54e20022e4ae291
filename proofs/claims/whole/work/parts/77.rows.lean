/-! THE ROWS OF NUMBERS -/
theorem slotR (a : Int32) (M : Mem) : f_X11_isSlot a M = if 0 ≤ a.toInt ∧ a.toInt < ((4 : Nat) : Int) then 1 else 0 := by
  unfold f_X11_isSlot
  rw [in_eq, Int32.toInt_toInt64]
  have e600 : (3 : Int64).toInt = 3 := rfl
  have ez : (0 : Int64).toInt = 0 := rfl
  rw [e600, ez]
  by_cases h : 0 ≤ a.toInt ∧ a.toInt < ((4 : Nat) : Int)
  · rw [if_pos h, if_pos (by omega)]
  · rw [if_neg h, if_neg (by omega)]
theorem rowC_none {a : Int32} {M : Mem} (h : ¬ (0 ≤ a.toInt ∧ a.toInt < ((4 : Nat) : Int))) : f_X10_rowOf a M = none := by
  unfold f_X10_rowOf
  by_cases c : a < 0
  · rw [if_pos c]
  · rw [if_neg c]
    have q2 := Int32.le_iff_toInt_le.mp (Int32.not_lt.mp c)
    have e2 : (0 : Int32).toInt = 0 := rfl
    have e4 : (4 : Int32).toInt = 4 := rfl
    rw [if_pos (Int32.le_iff_toInt_le.mpr (by omega))]
theorem rowC_some {k : Nat} {M : Mem} (h : k < 4) : f_X10_rowOf (io k) M = some (103 + 2 * k) := by
  unfold f_X10_rowOf
  simp only [lit]
  rw [if_neg (show ¬ io k < io 0 by rw [io_lt (by omega) (by omega)]; omega), if_neg (show ¬ io 4 ≤ io k by rw [io_le (by omega) (by omega)]; omega), oob_f h (by omega), ix_io (by omega), (slots_rc h).1]
  rfl
/-- of the reference only rows are others -/
def KW (M M' : Mem) : Prop := (∀ a, a ∉ [0, 1, 2] → M'.1 a = M.1 a) ∧ (∀ j, j ≠ 0 → M'.1 0 j = M.1 0 j)
theorem Rel.rows {Mc Mr Mc' Mr' : Mem} (h : Rel Mc Mr) (hc : ∀ a, a < 103 → Mc'.1 a = Mc.1 a) (hr : KW Mr Mr') (hw : ∀ k, k < 4 → RelW Mc' Mr' k) : Rel Mc' Mr' := by
  refine h.parts ?_ (hc 6 (by omega)) (hc 2 (by omega)) (hc 0 (by omega)) (fun a h1 h2 => hc a (by omega)) (fun a h1 h2 => hc a (by omega)) hw ⟨hr.2 14 (by decide), hr.2 15 (by decide)⟩ (fun a ha => hr.1 a (by revert a; decide))
  have := h.1
  unfold RelT at *
  rw [hc 4 (by omega), hc 5 (by omega), hr.2 6 (by decide), hr.1 5 (by decide)]
  exact this
theorem fillL {p0 np : Nat} {v : Int64} {M : Mem} (hn : np ≤ 100) : ∃ M', f_J7_fill_d0a16 p0 v np M = some M' ∧ M'.1 = M.1 ∧ (∀ j, j < np → M'.2 p0 j = v) ∧ ∀ a, a ≠ p0 → M'.2 a = M.2 a := by
  unfold f_J7_fill_d0a16
  rw [letv_eq]
  obtain ⟨x, M1, ⟨rfl, h1, h2, h3⟩, hM1⟩ := in2 (b := L_J7_fill_d0a16_6 p0 v np (Int32.ofNat np)) (fun i x M1 => x = io i ∧ M1.1 = M.1 ∧ (∀ j, j < i → M1.2 p0 j = v) ∧ ∀ a, a ≠ p0 → M1.2 a = M.2 a) (fun _ M => some M) np (x := 0) (y := M) ⟨rfl, rfl, fun j hj => absurd hj (Nat.not_lt_zero _), fun _ _ => rfl⟩ (by omega) (fun i x M1 hi h => by
      obtain ⟨rfl, h1, h2, h3⟩ := h
      refine ⟨io (i + 1), stL M1 p0 i v, ⟨rfl, h1, fun j hj => ?_, fun a ha => ?_⟩, fun K => ?_⟩
      · by_cases e : j = i
        · subst e; simp [stL]
        · have := h2 j (by omega)
          simp [stL, e, this]
      · rw [← h3 a ha]; funext j; simp [stL, ha]
      · unfold L_J7_fill_d0a16_6
        rw [show Int32.ofNat np = io np from rfl, if_neg (by rw [io_le (by omega) (by omega)]; omega), oob_f hi (by omega), ix_io (by omega), letv_eq, show io i + 1 = io (i + 1) from io_add i 1]
        rfl) (fun x M1 h K => by
      obtain ⟨rfl, -⟩ := h
      unfold L_J7_fill_d0a16_6
      rw [show Int32.ofNat np = io np from rfl, if_pos (by rw [io_le (by omega) (by omega)]; omega)])
  exact ⟨M1, hM1, h1, h2, h3⟩
theorem op_82 : ∀ (Mc Mr : Mem) (a1 a2 a3 : Int32), Rel Mc Mr → ∃ (r : Int32) (Mc' Mr' : Mem), f_X10_row a1 a2 a3 Mc = some (r, Mc') ∧ f_X11_row a1 a2 a3 Mr = some (r, Mr') ∧ Rel Mc' Mr' := by
  intro Mc Mr a w n h
  unfold f_X10_row f_X11_row
  rw [letv_eq, slotR, ite01, in_eq, ite01]
  rcases below a 4 with hb | ⟨k, hk, rfl, hk2⟩
  · rw [rowC_none hb, if_neg (by omega)]
    exact ⟨_, _, _, rfl, rfl, h.kr (kr0 Mr)⟩
  rw [rowC_some hk, if_pos (pos_io hk hk2)]
  simp only [optc]
  have e600 : (3 : Int64).toInt = 3 := rfl
  have ez : (0 : Int64).toInt = 0 := rfl
  rcases below w 4 with hb | ⟨wd, hwd, rfl, hw2⟩
  · have hb2 : ¬ ((0 : Int64).toInt ≤ w.toInt64.toInt ∧ w.toInt64.toInt ≤ (3 : Int64).toInt) := by
      rw [e600, ez, Int32.toInt_toInt64]; omega
    rw [if_neg hb2]
    by_cases c : w < 0
    · rw [if_pos c]
      exact ⟨_, _, _, rfl, rfl, h.kr (kr0 Mr)⟩
    · have q2 := Int32.le_iff_toInt_le.mp (Int32.not_lt.mp c)
      have e2 : (0 : Int32).toInt = 0 := rfl
      have e4 : (4 : Int32).toInt = 4 := rfl
      rw [if_neg c, if_pos (Int32.le_iff_toInt_le.mpr (by omega))]
      exact ⟨_, _, _, rfl, rfl, h.kr (kr0 Mr)⟩
  have hb2 : (0 : Int64).toInt ≤ (io wd).toInt64.toInt ∧ (io wd).toInt64.toInt ≤ (3 : Int64).toInt := by
    rw [e600, ez, Int32.toInt_toInt64, io_toInt hw2]; omega
  rw [if_pos hb2, if_neg (show ¬ io wd < 0 by rw [show (0 : Int32) = io 0 from rfl, io_lt (by omega) (by omega)]; omega), if_neg (show ¬ (4 : Int32) ≤ io wd by rw [show (4 : Int32) = io 4 from rfl, io_le (by omega) (by omega)]; omega)]
  rcases (Classical.em (n ≤ 60)).symm with c60 | c60
  · rw [if_neg c60, if_neg c60]
    exact ⟨_, _, _, rfl, rfl, h.kr (kr0 Mr)⟩
  rw [if_pos c60, if_pos c60]
  rcases (Classical.em ((0 : Int32) ≤ n)).symm with c0 | c0
  · rw [if_neg c0, if_neg c0]
    exact ⟨_, _, _, rfl, rfl, h.kr (kr0 Mr)⟩
  rw [if_pos c0, if_pos c0]
  obtain ⟨m, hm, rfl⟩ := io_ex c0
  have hm60 : m ≤ 60 := by
    rw [show (60 : Int32) = io 60 from rfl, io_le (by omega) (by omega)] at c60; exact c60
  rw [oob_f hk (by omega), ix_io hk2]
  simp only [Bool.false_eq_true, if_false, letv_eq]
  -- the reference's loop
  obtain ⟨x, M1, ⟨rfl, r1, r2, r3⟩, hM1⟩ := in2 (b := L_X11_row_57 (io k) (io wd) (io m)) (fun i x M1 => x = io i ∧ M1.1 = (st (st (st Mr 0 0 0) 1 k (io wd)) 2 k (io m)).1 ∧ (∀ j, j < i → M1.2 3 (60 * k + j) = 0) ∧ ∀ j, (j < 60 * k ∨ 60 * k + 60 ≤ j) → M1.2 3 j = Mr.2 3 j) (fun _ M => some (0, M)) m (x := 0) (y := st (st (st Mr 0 0 0) 1 k (io wd)) 2 k (io m)) ⟨rfl, rfl, fun j hj => absurd hj (Nat.not_lt_zero _), fun _ _ => rfl⟩ (by omega) (fun i x M1 hi h => by
      obtain ⟨rfl, h1, h2, h3⟩ := h
      refine ⟨io (i + 1), stL M1 3 (60 * k + i) 0, ⟨rfl, h1, fun j hj => ?_, fun j hj => ?_⟩, fun K => ?_⟩
      · by_cases e : j = i
        · subst e; simp [stL]
        · have := h2 j (by omega)
          simp [stL, e, this]
      · rw [← h3 j hj]
        have : j ≠ 60 * k + i := by omega
        simp [stL, this]
      · unfold L_X11_row_57
        rw [if_neg (show ¬ io m ≤ io i by rw [io_le (by omega) (by omega)]; omega), show (60 : Int32) * io k + io i = io (60 * k + i) from by rw [show (60 : Int32) = io 60 from rfl, io_mul, io_add], oob_f (by omega) (by omega), ix_io (by omega), letv_eq, show io i + 1 = io (i + 1) from io_add i 1]
        rfl) (fun x M1 h K => by
      obtain ⟨rfl, -⟩ := h
      unfold L_X11_row_57
      rw [if_pos (show io m ≤ io m by rw [io_le (by omega) (by omega)]; omega)])
  rw [hM1]
  have hmin : f_max 0 (f_min (io m) 60) = io m := by
    rw [show (60 : Int32) = io 60 from rfl, show (0 : Int32) = io 0 from rfl]
    unfold f_max f_min
    rw [if_neg (show ¬ io 60 < io m by rw [io_lt (by omega) (by omega)]; omega)]
    by_cases c : 0 < m
    · rw [if_pos (by rw [io_lt (by omega) (by omega)]; exact c)]
    · rw [if_neg (by rw [io_lt (by omega) (by omega)]; exact c), show m = 0 by omega]
  have eC : ∃ M', f_X7_make (103 + 2 * k) (io wd) (io m) Mc = some M' ∧ (∀ a, a ≠ 103 + 2 * k → M'.1 a = Mc.1 a) ∧ M'.1 (103 + 2 * k) 0 = io 1 ∧ M'.1 (103 + 2 * k) 1 = io wd ∧ M'.1 (103 + 2 * k) 2 = io m ∧ (∀ j, j < 60 → M'.2 (104 + 2 * k) j = 0) ∧ ∀ a, a ≠ 104 + 2 * k → M'.2 a = Mc.2 a := by
    unfold f_X7_make
    rw [letv_eq, letv_eq, letv_eq, hmin, (slots_rc hk).2]
    obtain ⟨M', e, f1, f2, f3⟩ := fillL (p0 := 104 + 2 * k) (np := 60) (v := 0) (M := st (st (st Mc (103 + 2 * k) 0 1) (103 + 2 * k) 1 (io wd)) (103 + 2 * k) 2 (io m)) (by omega)
    rw [e, bnd_s]
    refine ⟨M', rfl, fun a ha => ?_, ?_, ?_, ?_, f2, f3⟩
    · rw [f1]; funext j; simp [st, ha]
    · rw [f1]; simp [st]; rfl
    · rw [f1]; simp [st]
    · rw [f1]; simp [st]
  obtain ⟨M', e, g1, g2, g3, g4, g5, g6⟩ := eC
  rw [e, bnd_s]
  refine ⟨0, M', M1, rfl, rfl, h.rows (fun a ha => g1 a (by omega)) ⟨fun a ha => ?_, fun j hj => ?_⟩ (fun i hi => ?_)⟩
  · rw [r1]
    have h0 : a ≠ 0 := fun q => ha (by rw [q]; decide)
    have h1 : a ≠ 1 := fun q => ha (by rw [q]; decide)
    have h2 : a ≠ 2 := fun q => ha (by rw [q]; decide)
    funext j; simp [st, h0, h1, h2]
  · rw [r1]; simp [st, hj]
  · by_cases e : i = k
    · subst e
      exact Or.inr ⟨wd, m, hwd, hm60, by rw [r1]; simp [st], by rw [r1]; simp [st], g2, g3, g4, fun j hj => by rw [g5 j (by omega), r2 j hj]⟩
    · have := h.2.2.1 i hi
      unfold RelW at *
      have q1 : M1.1 1 i = Mr.1 1 i := by rw [r1]; simp [st, e]
      have q2 : M1.1 2 i = Mr.1 2 i := by rw [r1]; simp [st, e]
      rw [q1, q2, g1 (103 + 2 * i) (by omega), g6 (104 + 2 * i) (by omega)]
      rcases this with t | ⟨w, n, t1, t2, t3, t4, t5, t6, t7, t8⟩
      · exact Or.inl t
      · exact Or.inr ⟨w, n, t1, t2, t3, t4, t5, t6, t7, fun j hj => by rw [t8 j hj, r3 _ (by omega)]⟩
theorem op_83 : ∀ (Mc Mr : Mem) (a1 a2 : Int32) (a3 : Int64), Rel Mc Mr → ∃ (r : Int32) (Mc' Mr' : Mem), f_X10_write a1 a2 a3 Mc = some (r, Mc') ∧ f_X11_write a1 a2 a3 Mr = some (r, Mr') ∧ Rel Mc' Mr' := by
  intro Mc Mr a b v h
  unfold f_X10_write f_X11_write
  rw [letv_eq, slotR, ite01]
  rcases below a 4 with hb | ⟨k, hk, rfl, hk2⟩
  · rw [rowC_none hb, if_neg (by omega)]
    exact ⟨_, _, _, rfl, rfl, h.kr (kr0 Mr)⟩
  rw [rowC_some hk, if_pos (pos_io hk hk2)]
  simp only [optc]
  rw [oob_f hk (by omega), ix_io hk2]
  simp only [Bool.false_eq_true, if_false]
  have s1 : (st Mr 0 0 0).1 1 k = Mr.1 1 k := by simp [st]
  have s2 : (st Mr 0 0 0).1 2 k = Mr.1 2 k := by simp [st]
  rw [s1, s2]
  rcases h.2.2.1 k hk with ⟨q1, q2⟩ | ⟨w, n, hw, hn, q1, q2, q3, q4, q5, q6⟩
  · rw [q1, q2, if_pos (show io 0 = 0 from rfl), if_pos (show m1 = -1 from rfl)]
    exact ⟨_, _, _, rfl, rfl, h.kr (kr0 Mr)⟩
  rw [q1, q2, q3, if_neg (show ¬ io 1 = 0 by decide), if_neg (show ¬ io w = -1 from fun q => (io_m1 (a := w) (by omega)).mp q)]
  have eIn : f_X11_in b.toInt64 0 ((io n - 1).toInt64) (st Mr 0 0 0) = if 0 ≤ b.toInt ∧ b.toInt < n then 1 else 0 := by
    have e1 : (io n - 1).toInt = (n : Int) - 1 := by
      rw [Int32.toInt_sub, io_toInt (by omega)]
      exact Int.bmod_eq_of_le (by show _ ≤ (n : Int) - 1; omega) (by show (n : Int) - 1 < _; omega)
    rw [in_eq, Int32.toInt_toInt64, Int32.toInt_toInt64, e1]
    have ez : (0 : Int64).toInt = 0 := rfl
    rw [ez]
    by_cases c : 0 ≤ b.toInt ∧ b.toInt < n
    · rw [if_pos c, if_pos (by omega)]
    · rw [if_neg c, if_neg (by omega)]
  rw [eIn, ite01]
  unfold f_X7_put
  rw [q5]
  rcases below b n with hb | ⟨i, hi, rfl, hi2⟩
  · rw [if_neg hb]
    have e2 : (if b < 0 then some ((0 : Int32), Mc) else if io n ≤ b then some (0, Mc) else if b < 60 then if oob b 60 = true then none else letv (stL Mc (rC (103 + 2 * k) 3) (ix b) (f_X7_cutToWidth (103 + 2 * k) v Mc)) (fun M4 => some (1, M4)) else some (0, Mc)) = some (0, Mc) := by
      by_cases c : b < 0
      · rw [if_pos c]
      · have q2 := Int32.le_iff_toInt_le.mp (Int32.not_lt.mp c)
        have e2 : (0 : Int32).toInt = 0 := rfl
        rw [if_neg c, if_pos (Int32.le_iff_toInt_le.mpr (by rw [io_toInt (by omega)]; omega))]
    rw [e2, bnd2_s, if_pos rfl]
    exact ⟨_, _, _, rfl, rfl, h.kr (kr0 Mr)⟩
  rw [if_pos (pos_io hi hi2), if_neg (show ¬ io i < 0 by rw [show (0 : Int32) = io 0 from rfl, io_lt (by omega) (by omega)]; omega), if_neg (show ¬ io n ≤ io i by rw [io_le (by omega) (by omega)]; omega), if_pos (show io i < 60 by rw [show (60 : Int32) = io 60 from rfl, io_lt (by omega) (by omega)]; omega), oob_f (show i < 60 by omega) (by omega), ix_io hi2, (slots_rc hk).2, show (60 : Int32) * io k + io i = io (60 * k + i) from by rw [show (60 : Int32) = io 60 from rfl, io_mul, io_add], oob_f (show 60 * k + i < 240 by omega) (by omega), ix_io (show 60 * k + i < 2147483648 by omega)]
  simp only [Bool.false_eq_true, if_false, letv_eq, bnd2_s]
  rw [if_neg (by decide)]
  have ecut : f_X7_cutToWidth (103 + 2 * k) v Mc = f_X11_cut v (io w) (st Mr 0 0 0) := by
    unfold f_X7_cutToWidth f_X11_cut
    rw [q4]
  rw [ecut]
  refine ⟨0, _, _, rfl, rfl, h.rows (fun a ha => rfl) ⟨fun a ha => ?_, fun j hj => ?_⟩ (fun j hj => ?_)⟩
  · have h0 : a ≠ 0 := fun q => ha (by rw [q]; decide)
    funext j; simp [st, stL, h0]
  · simp [st, stL, hj]
  · have := h.2.2.1 j hj
    unfold RelW at *
    have p1 : (stL (st Mr 0 0 0) 3 (60 * k + i) (f_X11_cut v (io w) (st Mr 0 0 0))).1 1 j = Mr.1 1 j := by simp [st, stL]
    have p2 : (stL (st Mr 0 0 0) 3 (60 * k + i) (f_X11_cut v (io w) (st Mr 0 0 0))).1 2 j = Mr.1 2 j := by simp [st, stL]
    rw [p1, p2]
    rcases this with t | ⟨w', n', t1, t2, t3, t4, t5, t6, t7, t8⟩
    · exact Or.inl t
    · refine Or.inr ⟨w', n', t1, t2, t3, t4, t5, t6, t7, fun x hx => ?_⟩
      have t9 := t8 x hx
      by_cases e : j = k
      · subst e
        by_cases e2 : x = i
        · subst e2; simp [stL]
        · simp [stL, st, e2, t9]
      · have e3 : 104 + 2 * j ≠ 104 + 2 * k := by omega
        have e4 : 60 * j + x ≠ 60 * k + i := by omega
        simp only [stL, st, e3, e4, false_and, and_false, if_false, t9]
