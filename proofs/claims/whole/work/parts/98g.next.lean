/-! THE NEXT TOKEN, the class -/
theorem nextC {n pos m a : Nat} {t : Nat → Int32} {M : Mem} (hn : n ≤ 600) (hT : TxC n t M) (h3 : M.1 6 3 = io pos) (hb : ∀ i, i < m → isB (t (pos + i))) (ha : a = pos + m) (han : a ≤ n) (hend : a = n ∨ ¬ isB (t a)) : (a = n → ∃ M', f_X6_nextToken M = some M' ∧ M'.1 6 1 = io 4 ∧ M'.1 6 2 = io a ∧ M'.1 6 3 = io a ∧ FtC M M') ∧ (a < n → ∀ kv l, kv ≤ 3 → (∀ M, f_X6_kindOf (t a) M = io kv) → ((l = 1 ∧ kv ≠ 1 ∧ kv ≠ 2) ∨ (1 ≤ l ∧ a + l ≤ n ∧ (kv = 1 ∨ kv = 2) ∧ (∀ i, i < l → ∀ M, f_X6_kindOf (t (a + i)) M = io kv) ∧ (a + l = n ∨ ∀ M, f_X6_kindOf (t (a + l)) M ≠ io kv))) → ∃ M', f_X6_nextToken M = some M' ∧ M'.1 6 1 = io kv ∧ M'.1 6 2 = io a ∧ M'.1 6 3 = io (a + l) ∧ FtC M M') := by
  have start : ∃ x, (x.1 6 2 = io a ∧ FtC M x) ∧ f_X6_nextToken M = J_X6_nextToken_52 x := by
    unfold f_X6_nextToken
    rw [letv_eq, h3]
    obtain ⟨x, ⟨hx1, hx2⟩, e⟩ := in1 (b := L_X6_nextToken_8) (fun i x => x.1 6 2 = io (pos + i) ∧ FtC M x) (fun x => J_X6_nextToken_52 x) m (x := st M 6 2 (io pos)) ⟨by simp [st], FtC.refl.sto (by decide)⟩ (by omega) (fun i x hi h => by
      obtain ⟨q1, q2⟩ := h
      refine ⟨st x 6 2 (io (pos + i + 1)), ⟨by simp [st]; rfl, q2.sto (by decide)⟩, fun K => ?_⟩
      unfold L_X6_nextToken_8
      rw [q1, (hT.f q2).1, if_neg (by rw [io_le (by omega) (by omega)]; omega), byteC hn (hT.f q2) (by omega), bnd_s, if_neg (fun q => (blankC _ _).mp q (hb i hi)), letv_eq, show io (pos + i) + (1 : Int32) = io (pos + i + 1) from io_add _ 1]) (fun x h K => by
      obtain ⟨q1, q2⟩ := h
      rw [← ha] at q1
      unfold L_X6_nextToken_8
      rw [q1, (hT.f q2).1]
      by_cases c : a = n
      · rw [if_pos (by rw [io_le (by omega) (by omega)]; omega)]
      · rw [if_neg (by rw [io_le (by omega) (by omega)]; omega), byteC hn (hT.f q2) (by omega), bnd_s, if_pos ((blankC _ _).mpr (hend.resolve_left c))])
    exact ⟨x, ⟨by rw [hx1, ha], hx2⟩, e⟩
  obtain ⟨x, ⟨x1, x2⟩, hx⟩ := start
  have s1 : (st x 6 3 (io a)).1 6 2 = io a := by rw [st_rd (by decide)]; exact x1
  have f1 : FtC M (st x 6 3 (io a)) := x2.sto (by decide)
  constructor
  · intro hc
    refine ⟨st (st x 6 3 (io a)) 6 1 (io 4), ?_, by simp [st], by rw [st_rd (by decide)]; exact s1, by rw [st_rd (by decide)]; simp [st], f1.sto (by decide)⟩
    rw [hx]
    unfold J_X6_nextToken_52
    rw [x1, letv_eq, s1, (hT.f f1).1, if_neg (by rw [io_lt (by omega) (by omega)]; omega)]
    rfl
  · intro hc kv l hkv hk0 hl
    have head : J_X6_nextToken_52 x = (if io kv = 1 then lq1 (L_X6_nextToken_125) FU (st (st (st x 6 3 (io a)) 6 1 (io kv)) 6 3 (io (a + 1))) else if io kv = 2 then lq1 (L_X6_nextToken_125) FU (st (st (st x 6 3 (io a)) 6 1 (io kv)) 6 3 (io (a + 1))) else some (st (st (st x 6 3 (io a)) 6 1 (io kv)) 6 3 (io (a + 1)))) := by
      unfold J_X6_nextToken_52
      rw [x1, letv_eq, s1, (hT.f f1).1, if_pos (by rw [io_lt (by omega) (by omega)]; exact hc), byteC hn (hT.f f1) hc, bnd_s, letv_eq, letv_eq, hk0, st_rd (i := 6) (j := 3) (k := 1) (by decide), show (st x 6 3 (io a)).1 6 3 = io a from by simp [st], show io a + (1 : Int32) = io (a + 1) from io_add a 1, st_rd (i := 6) (j := 1) (k := 3) (by decide), show (st (st x 6 3 (io a)) 6 1 (io kv)).1 6 1 = io kv from by simp [st]]
    have f3 : FtC M (st (st (st x 6 3 (io a)) 6 1 (io kv)) 6 3 (io (a + 1))) := (f1.sto (by decide)).sto (by decide)
    have r1 : (st (st (st x 6 3 (io a)) 6 1 (io kv)) 6 3 (io (a + 1))).1 6 1 = io kv := by rw [st_rd (by decide)]; simp [st]
    have r2 : (st (st (st x 6 3 (io a)) 6 1 (io kv)) 6 3 (io (a + 1))).1 6 2 = io a := by rw [st_rd (by decide), st_rd (by decide)]; exact s1
    have r3 : (st (st (st x 6 3 (io a)) 6 1 (io kv)) 6 3 (io (a + 1))).1 6 3 = io (a + 1) := by simp [st]
    rw [hx, head]
    generalize st (st (st x 6 3 (io a)) 6 1 (io kv)) 6 3 (io (a + 1)) = Y at f3 r1 r2 r3
    rcases hl with ⟨rfl, k1, k2⟩ | ⟨l1, l2, l3, l4, l5⟩
    · refine ⟨Y, ?_, r1, r2, r3, f3⟩
      rw [if_neg (show ¬ io kv = (1 : Int32) from fun q => k1 ((io_inj (b := 1) (by omega) (by omega)).mp q)), if_neg (show ¬ io kv = (2 : Int32) from fun q => k2 ((io_inj (b := 2) (by omega) (by omega)).mp q))]
    · have eif : (if io kv = 1 then lq1 (L_X6_nextToken_125) FU Y else if io kv = 2 then lq1 (L_X6_nextToken_125) FU Y else some Y) = lq1 (L_X6_nextToken_125) FU Y := by
        rcases l3 with rfl | rfl
        · exact if_pos rfl
        · rw [if_neg (by decide)]; exact if_pos rfl
      rw [eif]
      obtain ⟨r, hr, e⟩ := in1x (b := L_X6_nextToken_125) (fun i y => y.1 6 1 = io kv ∧ y.1 6 2 = io a ∧ y.1 6 3 = io (a + 1 + i) ∧ FtC M y) (fun r => r.1 6 1 = io kv ∧ r.1 6 2 = io a ∧ r.1 6 3 = io (a + l) ∧ FtC M r) (l - 1) (x := Y) ⟨r1, r2, r3, f3⟩ (by omega) (fun i y hi h => by
        obtain ⟨y1, y2, y3, yf⟩ := h
        refine ⟨st y 6 3 (io (a + 1 + i + 1)), ⟨by rw [st_rd (by decide)]; exact y1, by rw [st_rd (by decide)]; exact y2, by simp [st]; rfl, yf.sto (by decide)⟩, fun K => ?_⟩
        unfold L_X6_nextToken_125
        rw [y3, (hT.f yf).1, if_neg (by rw [io_le (by omega) (by omega)]; omega), byteC hn (hT.f yf) (by omega), bnd_s, y1, if_pos (by have := l4 (i + 1) (by omega) y; rwa [show a + (i + 1) = a + 1 + i by omega] at this), letv_eq, show io (a + 1 + i) + (1 : Int32) = io (a + 1 + i + 1) from io_add _ 1]) (fun y h => by
        obtain ⟨y1, y2, y3, yf⟩ := h
        rw [show a + 1 + (l - 1) = a + l by omega] at y3
        refine ⟨y, ⟨y1, y2, y3, yf⟩, fun K => ?_⟩
        unfold L_X6_nextToken_125
        rw [y3, (hT.f yf).1]
        by_cases c : a + l = n
        · rw [if_pos (by rw [io_le (by omega) (by omega)]; omega)]
        · rw [if_neg (by rw [io_le (by omega) (by omega)]; omega), byteC hn (hT.f yf) (by omega), bnd_s, y1, if_neg (l5.resolve_left c y)])
      exact ⟨r, e, hr⟩
