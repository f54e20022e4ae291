/-! WHAT IS DONE to the lehr of now: rate, fires, gusts, undo, anew -/
theorem gst_congr {L L' : Lh} (s : Nat) : ∀ {n : Nat}, (∀ a, a < n → L.2.2.2 a = L'.2.2.2 a) → gst L n s = gst L' n s
  | 0, _ => rfl
  | n + 1, h => by
    simp only [gst]
    rw [gst_congr s (fun a ha => h a (by omega)), h n (by omega)]
theorem hot_congr {L L' : Lh} (z s : Nat) : ∀ {n : Nat}, (∀ a, a < n → L.2.2.2 a = L'.2.2.2 a) → hot L n z s = hot L' n z s
  | 0, _ => rfl
  | n + 1, h => by
    simp only [hot]
    rw [hot_congr z s (fun a ha => h a (by omega)), h n (by omega)]
/-- of the reference only the lehr of now is another -/
def K0 (M M' : Mem) : Prop := (∀ a, a ∈ [1, 2, 5, 11] → M'.1 a = M.1 a) ∧ (∀ j, j ∈ [6, 14, 15] → M'.1 0 j = M.1 0 j) ∧ M'.2 3 = M.2 3 ∧ (∀ j, 1 ≤ j → M'.1 6 j = M.1 6 j) ∧ (∀ j, 8 ≤ j → M'.1 7 j = M.1 7 j) ∧ (∀ j, 7 ≤ j → M'.1 8 j = M.1 8 j) ∧ (∀ j, 24 ≤ j → M'.1 9 j = M.1 9 j) ∧ (∀ j, 120 ≤ j → M'.1 10 j = M.1 10 j)
theorem K0.refl {M : Mem} : K0 M M := ⟨fun _ _ => rfl, fun _ _ => rfl, rfl, fun _ _ => rfl, fun _ _ => rfl, fun _ _ => rfl, fun _ _ => rfl, fun _ _ => rfl⟩
theorem K0.trans {M M' M'' : Mem} (h : K0 M M') (g : K0 M' M'') : K0 M M'' := by
  obtain ⟨h1, h2, h3, h4, h5, h6, h7, h8⟩ := h
  obtain ⟨g1, g2, g3, g4, g5, g6, g7, g8⟩ := g
  exact ⟨fun a ha => (g1 a ha).trans (h1 a ha), fun a ha => (g2 a ha).trans (h2 a ha), g3.trans h3, fun j hj => (g4 j hj).trans (h4 j hj), fun j hj => (g5 j hj).trans (h5 j hj), fun j hj => (g6 j hj).trans (h6 j hj), fun j hj => (g7 j hj).trans (h7 j hj), fun j hj => (g8 j hj).trans (h8 j hj)⟩
theorem KR.k0 {M M' : Mem} (h : KR M M') : K0 M M' := ⟨fun a ha => h.1 a (by revert a; decide), h.2.1, h.2.2, fun j _ => congrFun (h.1 6 (by decide)) j, fun j _ => congrFun (h.1 7 (by decide)) j, fun j _ => congrFun (h.1 8 (by decide)) j, fun j _ => congrFun (h.1 9 (by decide)) j, fun j _ => congrFun (h.1 10 (by decide)) j⟩
theorem st_rd {M : Mem} {a k i j : Nat} {v : Int32} (h : ¬ (i = a ∧ j = k)) : (st M a k v).1 i j = M.1 i j := if_neg h
theorem K0.st7 {M M' : Mem} {k : Nat} {v : Int32} (h : K0 M M') (hk : k < 8) : K0 M (st M' 7 k v) := h.trans ⟨fun a ha => stne (by revert a; decide), fun j _ => st_rd (by omega), rfl, fun j _ => st_rd (by omega), fun j hj => st_rd (by omega), fun j _ => st_rd (by omega), fun j _ => st_rd (by omega), fun j _ => st_rd (by omega)⟩
theorem K0.st9 {M M' : Mem} {k : Nat} {v : Int32} (h : K0 M M') (hk : k < 24) : K0 M (st M' 9 k v) := h.trans ⟨fun a ha => stne (by revert a; decide), fun j _ => st_rd (by omega), rfl, fun j _ => st_rd (by omega), fun j _ => st_rd (by omega), fun j _ => st_rd (by omega), fun j hj => st_rd (by omega), fun j _ => st_rd (by omega)⟩
theorem K0.st10 {M M' : Mem} {k : Nat} {v : Int32} (h : K0 M M') (hk : k < 120) : K0 M (st M' 10 k v) := h.trans ⟨fun a ha => stne (by revert a; decide), fun j _ => st_rd (by omega), rfl, fun j _ => st_rd (by omega), fun j _ => st_rd (by omega), fun j _ => st_rd (by omega), fun j _ => st_rd (by omega), fun j hj => st_rd (by omega)⟩
theorem RelX.k0 {Mc Mr Mr' : Mem} (h : RelX Mc Mr) (k : K0 Mr Mr') : RelX Mc Mr' := by
  obtain ⟨h1, h2, h3, h4⟩ := h
  obtain ⟨k1, k2, k3, k6, k7, k8, k9, k10⟩ := k
  refine ⟨?_, ?_, fun i hi => ?_, fun i hi => ?_⟩
  · unfold RelT at *
    rw [k1 5 (by decide), k2 6 (by decide)]; exact h1
  · unfold RelF at *
    rw [k2 14 (by decide), k2 15 (by decide)]; exact h2
  · have := h3 i hi
    unfold RelW at *
    rw [k1 1 (by decide), k1 2 (by decide), k3]; exact this
  · rcases h4 i hi with h | ⟨h, h', L, ho, hc, r1, r2, r3, r4, r5⟩
    · exact Or.inl (by rw [k1 11 (by decide)]; exact h)
    · refine Or.inr ⟨h, by rw [k1 11 (by decide)]; exact h', L, ho, hc, ?_, fun j hj => ?_, fun z hz => ?_, fun p w hp hw => ?_, fun a ha => ?_⟩
      · rw [k6 _ (by omega)]; exact r1
      · rw [k7 _ (by omega)]; exact r2 j hj
      · rw [k8 _ (by omega)]; exact r3 z hz
      · rw [k9 _ (by omega)]; exact r4 p w hp hw
      · rw [k10 _ (by omega), k10 _ (by omega), k10 _ (by omega), k10 _ (by omega)]; exact r5 a ha
theorem op_78 : ∀ (Mc Mr : Mem) (a1 a2 : Int32), Rel Mc Mr → ∃ (r : Int32) (Mc' Mr' : Mem), f_X10_rate a1 a2 Mc = some (r, Mc') ∧ f_X11_rate a1 a2 Mr = some (r, Mr') ∧ Rel Mc' Mr' := by
  intro Mc Mr a b h
  obtain ⟨hX, L, hN⟩ := h.split
  have hk := kr0 Mr
  have hN1 := hN.kr hk
  have h7 := hN.1.2.2.1
  unfold f_X10_rate f_X11_rate
  rw [letv_eq]
  rw [show (letv (st Mr 0 0 0) fun M1 => bnd (f_X11_isPiece a.toInt64 M1) fun r2 => if r2 = 0 then some (-2, M1) else if f_X11_in b.toInt64 0 300 M1 = 0 then some (-2, M1) else if oob 7 40 = true then none else if M1.1 7 (ix 7) ≤ 0 then if oob (4 * a + 2) 120 = true then none else letv (M1.1 9 (ix (4 * a + 2))) fun x9 => if oob (4 * a + 2) 120 = true then none else letv (st M1 9 (ix (4 * a + 2)) b) fun M10 => some (x9, M10) else some ((-5 : Int32), M1)) = _ from letv_eq _ _]
  rw [pieceC (hN.2.1.1 7 (by omega)) (by omega), pieceR hN.1 hN1.2.2.1, bnd_s, ite01, ite01]
  rcases below a (L.1 7) with hb | ⟨p, hp, rfl, hp2⟩
  · rw [if_neg hb, if_neg hb]
    exact ⟨_, Mc, _, rfl, rfl, h.kr hk⟩
  rw [if_pos (pos_io hp hp2), if_pos (pos_io hp hp2), in_eq, ite01]
  have e600 : (300 : Int64).toInt = 300 := rfl
  have ez : (0 : Int64).toInt = 0 := rfl
  rcases below b 301 with hb | ⟨n, hn, rfl, hn2⟩
  · have hb2 : ¬ ((0 : Int64).toInt ≤ b.toInt64.toInt ∧ b.toInt64.toInt ≤ (300 : Int64).toInt) := by
      rw [e600, ez, Int32.toInt_toInt64]; omega
    rw [if_neg hb2]
    by_cases hb3 : b < 0
    · rw [if_pos hb3]
      exact ⟨_, Mc, _, rfl, rfl, h.kr hk⟩
    · have hb4 : ¬ b ≤ 300 := fun q => by
        have q1 := Int32.le_iff_toInt_le.mp q
        have q2 := Int32.le_iff_toInt_le.mp (Int32.not_lt.mp hb3)
        have e1 : (300 : Int32).toInt = 300 := rfl
        have e2 : (0 : Int32).toInt = 0 := rfl
        omega
      rw [if_neg hb3, if_neg hb4]
      exact ⟨_, Mc, _, rfl, rfl, h.kr hk⟩
  have hb2 : (0 : Int64).toInt ≤ (io n).toInt64.toInt ∧ (io n).toInt64.toInt ≤ (300 : Int64).toInt := by
    rw [e600, ez, Int32.toInt_toInt64, io_toInt hn2]; omega
  rw [if_pos hb2, if_neg (show ¬ io n < 0 by rw [show (0 : Int32) = io 0 from rfl, io_lt (by omega) (by omega)]; omega), if_pos (show io n ≤ 300 by rw [show (300 : Int32) = io 300 from rfl, io_le (by omega) (by omega)]; omega), show Mc.1 20 0 = io (L.1 8) from hN.2.1.2.1.1, show oob 7 40 = false from rfl, show ix 7 = 7 from rfl, show (st Mr 0 0 0).1 7 7 = io (L.1 8) from numR hN1.2.2.1 (by omega)]
  simp only [Bool.false_eq_true, if_false]
  by_cases c8 : L.1 8 = 0
  · have c9 : io (L.1 8) ≤ 0 := by rw [show (0 : Int32) = io 0 from rfl, io_le (by omega) (by omega)]; omega
    have e18 : Mc.1 18 p = io (L.2.2.1 p 2) := (hN.2.1.2.2.2.1 p hp).2.2.1
    have e9 : (st Mr 0 0 0).1 9 (4 * p + 2) = io (L.2.2.1 p 2) := by
      have := hN1.2.2.1.2.2.2.1 p 2 hp (by omega)
      rw [show 24 * 0 + (4 * p + 2) = 4 * p + 2 by omega] at this
      exact this
    rw [if_pos c9, if_pos c9, show (4 : Int32) * io p + 2 = io (4 * p + 2) from by rw [show (4 : Int32) = io 4 from rfl, show (2 : Int32) = io 2 from rfl, io_mul, io_add]]
    simp (disch := omega) only [oob_f, Bool.false_eq_true, if_false, ix_io, letv_eq, e18, e9]
    refine ⟨_, _, _, rfl, rfl, Rel.ofX (L := (L.1, L.2.1, fun q w => if q = p ∧ w = 2 then n else L.2.2.1 q w, L.2.2.2)) ?_ ⟨?_, ?_, ?_, ?_⟩⟩
    · exact (hX.kx ((KX.refl.sto (by decide)).sto (by decide))).k0 (hk.k0.st9 (by omega))
    · obtain ⟨o1, o2, o3, o4, o5, o6⟩ := hN.1
      refine ⟨o1, o2, o3, o4, fun q hq => ?_, o6⟩
      have := o5 q hq
      refine ⟨?_, ?_, ?_, ?_⟩
      · show (if q = p ∧ 0 = 2 then n else L.2.2.1 q 0) ≤ 600
        rw [if_neg (by omega)]; exact this.1
      · show 1 ≤ (if q = p ∧ 1 = 2 then n else L.2.2.1 q 1) ∧ (if q = p ∧ 1 = 2 then n else L.2.2.1 q 1) ≤ 9
        rw [if_neg (by omega)]; exact this.2.1
      · show (if q = p ∧ 2 = 2 then n else L.2.2.1 q 2) ≤ 300
        split <;> omega
      · show (if q = p ∧ 3 = 2 then n else L.2.2.1 q 3) ≤ 14
        rw [if_neg (by omega)]; exact this.2.2.2
    · obtain ⟨c1, c2, c3, c4, c5, c6⟩ := hN.2.1
      have g : ∀ a, a ≠ 18 → a ≠ 0 → (st (st Mc 18 p (io n)) 0 10 0).1 a = Mc.1 a := fun a h1 h2 => by rw [stne h2, stne h1]
      refine ⟨fun i hi => ?_, ⟨?_, ?_⟩, fun z hz => ?_, fun q hq => ⟨?_, ?_, ?_, ?_⟩, fun a ha => ?_, fun z s hz hs => ?_⟩
      · rw [g 14 (by decide) (by decide)]; exact c1 i hi
      · rw [g 20 (by decide) (by decide)]; exact c2.1
      · rw [g 20 (by decide) (by decide)]
        have := c2.2
        rw [show (14 + 6 : Nat) = 20 from rfl] at this
        rw [this]
        congr 1
        exact bN_congr (fun s _ => gst_congr s (fun _ _ => rfl))
      · rw [g 15 (by decide) (by decide)]; exact c3 z hz
      · rw [g 16 (by decide) (by decide)]
        show Mc.1 16 q = io (if q = p ∧ 0 = 2 then n else L.2.2.1 q 0)
        rw [if_neg (by omega)]; exact (c4 q hq).1
      · rw [g 17 (by decide) (by decide)]
        show Mc.1 17 q = io (if q = p ∧ 1 = 2 then n else L.2.2.1 q 1)
        rw [if_neg (by omega)]; exact (c4 q hq).2.1
      · show (st (st Mc 18 p (io n)) 0 10 0).1 18 q = io (if q = p ∧ 2 = 2 then n else L.2.2.1 q 2)
        rw [stne (by decide)]
        by_cases e : q = p
        · subst e; simp [st]
        · rw [if_neg (by omega)]
          have := (c4 q hq).2.2.1
          simp [st, e]
          exact this
      · rw [g 19 (by decide) (by decide)]
        show Mc.1 19 q = io (if q = p ∧ 3 = 2 then n else L.2.2.1 q 3)
        rw [if_neg (by omega)]; exact (c4 q hq).2.2.2
      · rw [g 21 (by decide) (by decide), g 22 (by decide) (by decide), g 23 (by decide) (by decide)]; exact c5 a ha
      · rw [g 24 (by decide) (by decide)]
        exact (c6 z s hz hs).trans (congrArg io (hot_congr z s (fun _ _ => rfl)))
    · obtain ⟨r1, r2, r3, r4, r5⟩ := hN1.2.2.1
      refine ⟨?_, fun i hi => ?_, fun z hz => ?_, fun q w hq hw => ?_, fun a ha => ?_⟩
      · rw [stne (by decide)]; exact r1
      · rw [stne (by decide)]; exact r2 i hi
      · rw [stne (by decide)]; exact r3 z hz
      · show (st (st Mr 0 0 0) 9 (4 * p + 2) (io n)).1 9 (24 * 0 + (4 * q + w)) = io (if q = p ∧ w = 2 then n else L.2.2.1 q w)
        by_cases e : q = p ∧ w = 2
        · rw [if_pos e, e.1, e.2, show 24 * 0 + (4 * p + 2) = 4 * p + 2 by omega]; simp [st]
        · rw [if_neg e, st_rd (by omega)]; exact r4 q w hq hw
      · rw [stne (by decide)]; exact r5 a ha
    · exact Or.inl (by simp [st]; rfl)
  · have c9 : ¬ io (L.1 8) ≤ 0 := by rw [show (0 : Int32) = io 0 from rfl, io_le (by omega) (by omega)]; omega
    rw [if_neg c9, if_neg c9]
    exact ⟨_, Mc, _, rfl, rfl, h.kr hk⟩
