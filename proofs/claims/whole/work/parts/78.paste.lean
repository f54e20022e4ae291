/-! PASTE, and what is rated -/
theorem sum64 (a b : Int32) : (a.toInt64 + b.toInt64).toInt = a.toInt + b.toInt := by
  rw [Int64.toInt_add, Int32.toInt_toInt64, Int32.toInt_toInt64]
  have h1 := Int32.le_toInt a
  have h2 := Int32.toInt_lt a
  have h3 := Int32.le_toInt b
  have h4 := Int32.toInt_lt b
  exact Int.bmod_eq_of_le (by omega) (by omega)
def hld (a n : Int32) (l : Nat) : Prop := 0 ≤ a.toInt ∧ 0 ≤ n.toInt ∧ a.toInt + n.toInt ≤ l
theorem neg_iff (a : Int32) : a < 0 ↔ ¬ 0 ≤ a.toInt := by
  rw [Int32.lt_iff_toInt_lt]
  have e2 : (0 : Int32).toInt = 0 := rfl
  omega
theorem holdsC {o l : Nat} {M : Mem} (h : M.1 o 2 = io l) (hl : l < 2147483648) (a n : Int32) : (f_X7_holds o a n M = 1 ∧ hld a n l) ∨ (f_X7_holds o a n M = 0 ∧ ¬ hld a n l) := by
  unfold f_X7_holds hld
  rw [h]
  by_cases c1 : a < 0
  · rw [if_pos c1]
    exact Or.inr ⟨rfl, fun q => (neg_iff a).mp c1 q.1⟩
  rw [if_neg c1]
  have d1 : 0 ≤ a.toInt := Classical.not_not.mp (fun q => c1 ((neg_iff a).mpr q))
  by_cases c2 : n < 0
  · rw [if_pos c2]
    exact Or.inr ⟨rfl, fun q => (neg_iff n).mp c2 q.2.1⟩
  rw [if_neg c2]
  have d2 : 0 ≤ n.toInt := Classical.not_not.mp (fun q => c2 ((neg_iff n).mpr q))
  by_cases c3 : (0 : Int32) < lg_cmp (a.toInt64 + n.toInt64) (io l).toInt64
  · rw [if_pos c3]
    rw [lg_cmp_gt, Int64.lt_iff_toInt_lt, sum64, Int32.toInt_toInt64, io_toInt hl] at c3
    exact Or.inr ⟨rfl, fun q => by omega⟩
  · rw [if_neg c3]
    rw [lg_cmp_gt, Int64.lt_iff_toInt_lt, sum64, Int32.toInt_toInt64, io_toInt hl] at c3
    exact Or.inl ⟨rfl, d1, d2, by omega⟩
theorem pasteL {a b i k n : Nat} {M : Mem} (ha : a < 4) (hb : b < 4) (hi : i + n ≤ 60) (hk : k + n ≤ 60) : ∃ M', lq2 (L_X11_paste_118 (io a) (io i) (io b) (io k) (io n)) FU 0 M = some (0, M') ∧ M'.1 = M.1 ∧ ∀ j, M'.2 3 j = if 60 * b + k ≤ j ∧ j < 60 * b + k + n then M.2 3 (60 * a + i + (j - (60 * b + k))) else M.2 3 j := by
  obtain ⟨x, M1, ⟨rfl, h1, h2, h3⟩, hM1⟩ := in2 (b := L_X11_paste_118 (io a) (io i) (io b) (io k) (io n)) (fun x v M1 => v = io x ∧ M1.1 = M.1 ∧ (∀ j, j < x → M1.2 4 j = M.2 3 (60 * a + i + j)) ∧ M1.2 3 = M.2 3) (fun _ M => lq2 (L_X11_paste_155 (io a) (io i) (io b) (io k) (io n)) FU 0 M) n (x := 0) (y := M) ⟨rfl, rfl, fun j hj => absurd hj (Nat.not_lt_zero _), rfl⟩ (by omega) (fun x v M1 hx h => by
      obtain ⟨rfl, h1, h2, h3⟩ := h
      refine ⟨io (x + 1), stL M1 4 x (M.2 3 (60 * a + i + x)), ⟨rfl, h1, fun j hj => ?_, ?_⟩, fun K => ?_⟩
      · by_cases e : j = x
        · subst e; simp [stL]
        · have := h2 j (by omega)
          simp [stL, e, this]
      · rw [← h3]; funext j; simp [stL]
      · unfold L_X11_paste_118
        simp only [lit, io_mul, io_add]
        rw [if_neg (show ¬ io n ≤ io x by rw [io_le (by omega) (by omega)]; omega), oob_f (show 60 * a + i + x < 240 by omega) (by omega), oob_f (show x < 60 by omega) (by omega), ix_io (show x < 2147483648 by omega), ix_io (show 60 * a + i + x < 2147483648 by omega), h3]
        simp only [Bool.false_eq_true, if_false, letv_eq]) (fun x M1 h K => by
      obtain ⟨rfl, -⟩ := h
      unfold L_X11_paste_118
      rw [if_pos (show io n ≤ io n by rw [io_le (by omega) (by omega)]; omega)])
  rw [hM1]
  clear hM1
  obtain ⟨x, M2, ⟨rfl, g1, g2⟩, hM2⟩ := in2 (b := L_X11_paste_155 (io a) (io i) (io b) (io k) (io n)) (fun x v M2 => v = io x ∧ M2.1 = M.1 ∧ M2.2 4 = M1.2 4 ∧ ∀ j, M2.2 3 j = if 60 * b + k ≤ j ∧ j < 60 * b + k + x then M.2 3 (60 * a + i + (j - (60 * b + k))) else M.2 3 j) (fun _ M => some (0, M)) n (x := 0) (y := M1) ⟨rfl, h1, rfl, fun j => by rw [if_neg (by omega), h3]⟩ (by omega) (fun x v M2 hx h => by
      obtain ⟨rfl, g1, g0, g2⟩ := h
      refine ⟨io (x + 1), stL M2 3 (60 * b + k + x) (M2.2 4 x), ⟨rfl, g1, by rw [← g0]; funext j; simp [stL], fun j => ?_⟩, fun K => ?_⟩
      · by_cases e : j = 60 * b + k + x
        · subst e
          rw [if_pos (by omega)]
          have := h2 x hx
          simp only [stL, and_self, if_true]
          rw [g0, this, show 60 * b + k + x - (60 * b + k) = x by omega]
        · have e2 : (stL M2 3 (60 * b + k + x) (M2.2 4 x)).2 3 j = M2.2 3 j := by simp [stL, e]
          rw [e2, g2 j]
          by_cases c : 60 * b + k ≤ j ∧ j < 60 * b + k + x
          · rw [if_pos c, if_pos (by omega)]
          · rw [if_neg c, if_neg (by omega)]
      · unfold L_X11_paste_155
        simp only [lit, io_mul, io_add]
        rw [if_neg (show ¬ io n ≤ io x by rw [io_le (by omega) (by omega)]; omega), oob_f (show 60 * b + k + x < 240 by omega) (by omega), oob_f (show x < 60 by omega) (by omega), ix_io (show x < 2147483648 by omega), ix_io (show 60 * b + k + x < 2147483648 by omega)]
        simp only [Bool.false_eq_true, if_false, letv_eq]) (fun x M2 h K => by
      obtain ⟨rfl, -⟩ := h
      unfold L_X11_paste_155
      rw [if_pos (show io n ≤ io n by rw [io_le (by omega) (by omega)]; omega)])
  exact ⟨M2, hM2, g1, g2.2⟩
theorem op_84 : ∀ (Mc Mr : Mem) (a1 a2 a3 a4 a5 : Int32), Rel Mc Mr → ∃ (r : Int32) (Mc' Mr' : Mem), f_X10_paste a1 a2 a3 a4 a5 Mc = some (r, Mc') ∧ f_X11_paste a1 a2 a3 a4 a5 Mr = some (r, Mr') ∧ Rel Mc' Mr' := by
  intro Mc Mr a i b k n h
  unfold f_X10_paste f_X11_paste
  rw [letv_eq, slotR, slotR, ite01, ite01]
  rcases below a 4 with hb | ⟨x, hx, rfl, hx2⟩
  · rw [rowC_none hb, if_neg hb]
    simp only [optc]
    refine ⟨-2, Mc, _, ?_, rfl, h.kr (kr0 Mr)⟩
    cases f_X10_rowOf b Mc <;> rfl
  rw [rowC_some hx, if_pos (pos_io hx hx2)]
  simp only [optc]
  rcases below b 4 with hb | ⟨y, hy, rfl, hy2⟩
  · rw [rowC_none hb, if_neg hb]
    exact ⟨-2, Mc, _, rfl, rfl, h.kr (kr0 Mr)⟩
  rw [rowC_some hy, if_pos (pos_io hy hy2), oob_f hx (by omega), oob_f hy (by omega), ix_io hx2, ix_io hy2]
  simp only [Bool.false_eq_true, if_false]
  have s1 : ∀ k, (st Mr 0 0 0).1 1 k = Mr.1 1 k := fun k => by simp [st]
  have s2 : ∀ k, (st Mr 0 0 0).1 2 k = Mr.1 2 k := fun k => by simp [st]
  rw [s1, s1, s2, s2]
  rcases h.2.2.1 x hx with ⟨q1, q2⟩ | ⟨w, l, hw, hl, q1, q2, q3, q4, q5, q6⟩
  · rw [q1, q2, if_pos (show io 0 = 0 from rfl), if_pos (show m1 = -1 from rfl)]
    exact ⟨_, _, _, rfl, rfl, h.kr (kr0 Mr)⟩
  rw [q1, q2, q3, if_neg (show ¬ io 1 = 0 by decide), if_neg (show ¬ io w = -1 from fun q => (io_m1 (a := w) (by omega)).mp q)]
  rcases h.2.2.1 y hy with ⟨p1, p2⟩ | ⟨w', l', hw', hl', p1, p2, p3, p4, p5, p6⟩
  · rw [p1, p2, if_pos (show io 0 = 0 from rfl), if_pos (show m1 = -1 from rfl)]
    exact ⟨_, _, _, rfl, rfl, h.kr (kr0 Mr)⟩
  rw [p1, p2, p3, if_neg (show ¬ io 1 = 0 by decide), if_neg (show ¬ io w' = -1 from fun q => (io_m1 (a := w') (by omega)).mp q), q4, p4]
  rcases (Classical.em (io w = io w')).symm with cw | cw
  · rw [if_neg cw, if_neg cw]
    exact ⟨_, _, _, rfl, rfl, h.kr (kr0 Mr)⟩
  rw [if_pos cw, if_pos cw]
  have h7 : ¬ (hld i n l ∧ hld k n l') → ∀ T : Option (Int32 × Mem), (if i < 0 then some (-7, st Mr 0 0 0) else if k < 0 then some (-7, st Mr 0 0 0) else if n < 0 then some (-7, st Mr 0 0 0) else if 0 < lg_cmp (i.toInt64 + n.toInt64) (io l).toInt64 then some (-7, st Mr 0 0 0) else if lg_cmp (k.toInt64 + n.toInt64) (io l').toInt64 ≤ 0 then T else some ((-7 : Int32), st Mr 0 0 0)) = some (-7, st Mr 0 0 0) := by
    intro hn T
    by_cases c1 : i < 0
    · rw [if_pos c1]
    rw [if_neg c1]
    by_cases c2 : k < 0
    · rw [if_pos c2]
    rw [if_neg c2]
    by_cases c3 : n < 0
    · rw [if_pos c3]
    rw [if_neg c3]
    by_cases c4 : 0 < lg_cmp (i.toInt64 + n.toInt64) (io l).toInt64
    · rw [if_pos c4]
    rw [if_neg c4]
    have d1 : 0 ≤ i.toInt := Classical.not_not.mp (fun q => c1 ((neg_iff i).mpr q))
    have d2 : 0 ≤ k.toInt := Classical.not_not.mp (fun q => c2 ((neg_iff k).mpr q))
    have d3 : 0 ≤ n.toInt := Classical.not_not.mp (fun q => c3 ((neg_iff n).mpr q))
    rw [lg_cmp_gt, Int64.lt_iff_toInt_lt, sum64, Int32.toInt_toInt64, io_toInt (by omega)] at c4
    rw [if_neg]
    rw [lg_cmp_le, Int64.le_iff_toInt_le, sum64, Int32.toInt_toInt64, io_toInt (by omega)]
    intro q
    exact hn ⟨⟨d1, d3, by omega⟩, ⟨d2, d3, q⟩⟩
  rcases (holdsC q5 (by omega) i n).symm with ⟨e1, H1⟩ | ⟨e1, H1⟩
  · rw [e1, if_pos rfl, h7 (fun q => H1 q.1)]
    exact ⟨_, _, _, rfl, rfl, h.kr (kr0 Mr)⟩
  rw [e1, if_neg (by decide)]
  rcases (holdsC p5 (by omega) k n).symm with ⟨e2, H2⟩ | ⟨e2, H2⟩
  · rw [e2, if_pos rfl, h7 (fun q => H2 q.2)]
    exact ⟨_, _, _, rfl, rfl, h.kr (kr0 Mr)⟩
  rw [e2, if_neg (by decide)]
  obtain ⟨I, hI, rfl⟩ := io_ex (Int32.le_iff_toInt_le.mpr (show (0 : Int32).toInt ≤ i.toInt from H1.1))
  obtain ⟨N, hN, rfl⟩ := io_ex (Int32.le_iff_toInt_le.mpr (show (0 : Int32).toInt ≤ n.toInt from H1.2.1))
  obtain ⟨K, hK, rfl⟩ := io_ex (Int32.le_iff_toInt_le.mpr (show (0 : Int32).toInt ≤ k.toInt from H2.1))
  have b1 := H1.2.2
  have b2 := H2.2.2
  rw [io_toInt hI, io_toInt hN] at b1
  rw [io_toInt hK, io_toInt hN] at b2
  have n4 : ¬ (0 : Int32) < lg_cmp ((io I).toInt64 + (io N).toInt64) (io l).toInt64 := by
    rw [lg_cmp_gt, Int64.lt_iff_toInt_lt, sum64, Int32.toInt_toInt64, io_toInt (show l < 2147483648 by omega)]
    have := H1.2.2
    omega
  have n5 : lg_cmp ((io K).toInt64 + (io N).toInt64) (io l').toInt64 ≤ 0 := by
    rw [lg_cmp_le, Int64.le_iff_toInt_le, sum64, Int32.toInt_toInt64, io_toInt (show l' < 2147483648 by omega)]
    exact H2.2.2
  have n1 : ¬ io I < 0 := fun q => (neg_iff _).mp q H1.1
  have n2 : ¬ io K < 0 := fun q => (neg_iff _).mp q H2.1
  have n3 : ¬ io N < 0 := fun q => (neg_iff _).mp q H1.2.1
  rw [if_neg n1, if_neg n2, if_neg n3, if_neg n4, if_pos n5]
  obtain ⟨M', eM, g1, g2⟩ := pasteL (a := x) (b := y) (i := I) (k := K) (n := N) (M := st Mr 0 0 0) hx hy (by omega) (by omega)
  rw [eM, oob2_io hI hN, oob2_io hK hN, decide_eq_false (show ¬ 60 < I + N by omega), decide_eq_false (show ¬ 60 < K + N by omega), (slots_rc hx).2, (slots_rc hy).2, ix_io hI, ix_io hN, ix_io hK]
  simp only [Bool.false_eq_true, if_false, letv_eq]
  refine ⟨0, _, M', rfl, rfl, h.rows (fun a ha => rfl) ⟨fun a ha => ?_, fun j hj => ?_⟩ (fun z hz => ?_)⟩
  · have h0 : a ≠ 0 := fun q => ha (by rw [q]; decide)
    rw [g1]; funext j; simp [st, h0]
  · rw [g1]; simp [st, hj]
  · have := h.2.2.1 z hz
    unfold RelW at *
    rw [g1, s1, s2]
    rcases this with t | ⟨wz, nz, t1, t2, t3, t4, t5, t6, t7, t8⟩
    · exact Or.inl t
    · refine Or.inr ⟨wz, nz, t1, t2, t3, t4, t5, t6, t7, fun j hj => ?_⟩
      rw [g2]
      have e3 : (st Mr 0 0 0).2 = Mr.2 := rfl
      rw [e3]
      by_cases e : z = y
      · subst e
        have en : nz = l' := by
          have := t4.symm.trans p2
          exact (io_inj (by omega) (by omega)).mp this
        subst en
        show (if 104 + 2 * z = 104 + 2 * z then va_cpy (Mc.2 (104 + 2 * x)) (Mc.2 (104 + 2 * z)) I K N j else _) = _
        rw [if_pos rfl]
        unfold va_cpy
        by_cases c : K ≤ j ∧ j < K + N
        · rw [if_pos c, if_pos (by omega), q6 _ (by omega)]
          exact congrArg (Mr.2 3) (by omega)
        · rw [if_neg c, if_neg (by omega)]
          exact t8 j hj
      · rw [if_neg (by omega)]
        show (if 104 + 2 * z = 104 + 2 * y then _ else Mc.2 (104 + 2 * z) j) = _
        rw [if_neg (by omega)]
        exact t8 j hj
