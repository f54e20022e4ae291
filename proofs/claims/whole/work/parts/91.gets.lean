/-! GETS and RESTS -/
def gnT (L : Lh) (a b x y : Nat) : Nat → Nat := fun z => if z = a then L.2.1 a + 50 * x else if z = b then L.2.1 b + 50 * y else L.2.1 z
theorem gnT_le {L : Lh} (hL : OkL L) {a b x y : Nat} (ha : a < L.1 6) (hb : b < L.1 6) (hx : x ≤ 1) (hy : y ≤ 1) : ∀ z, z < L.1 6 → gnT L a b x y z ≤ 1000 := by
  intro z hz
  have := hL.2.2.2.1 z hz
  have := hL.2.2.2.1 a ha
  have := hL.2.2.2.1 b hb
  unfold gnT
  split
  · omega
  · split <;> omega
def msk (h : Nat) : Nat := if h = 0 then 21 else 42
def gnP (L : Lh) (a b x y h : Nat) : Nat := pop (nvc (tlF L (gnT L a b x y)) &&& msk h)
def gnV (L : Lh) (a b x y h : Nat) : Int32 := io (3 * gnP L a b x y h) - io (2 * (if h = 0 then x else y))
theorem pop_msk (f : Nat → Bool) {n h : Nat} (hn : n ≤ 6) (hh : h ≤ 1) : pop (bN f n &&& msk h) = cN (fun j => f (h + 2 * j)) ((n + 1 - h) / 2) := by
  have t21 : ∀ i, i < 8 → (21 : Nat).testBit i = (decide (i = 0) || decide (i = 2) || decide (i = 4)) := by decide
  have t42 : ∀ i, i < 8 → (42 : Nat).testBit i = (decide (i = 1) || decide (i = 3) || decide (i = 5)) := by decide
  have e : pop (bN f n &&& msk h) = cN (fun i => (decide (i < n) && f i) && (msk h).testBit i) 8 := by
    unfold pop
    exact cN_congr (fun i hi => by rw [Nat.testBit_and, bN_tb])
  rw [e]
  unfold msk
  have hn' : n = 0 ∨ n = 1 ∨ n = 2 ∨ n = 3 ∨ n = 4 ∨ n = 5 ∨ n = 6 := by omega
  have hh' : h = 0 ∨ h = 1 := by omega
  rcases hh' with rfl | rfl
  · rw [if_pos rfl, cN_congr (fun i hi => by rw [t21 i hi])]
    rcases hn' with rfl | rfl | rfl | rfl | rfl | rfl | rfl <;> simp [cN]
  · rw [if_neg (by decide), cN_congr (fun i hi => by rw [t42 i hi])]
    rcases hn' with rfl | rfl | rfl | rfl | rfl | rfl | rfl <;> simp [cN]
theorem c1 {x y : Nat} (hx : x ≤ 1) (hy : y ≤ 1) : (x + 2 * y) &&& 1 = x ∧ (x + 2 * y).testBit 1 = decide (y = 1) ∧ (x + 2 * y).testBit 0 = decide (x = 1) := by
  have hx' : x = 0 ∨ x = 1 := by omega
  have hy' : y = 0 ∨ y = 1 := by omega
  rcases hx' with rfl | rfl <;> rcases hy' with rfl | rfl <;> decide
theorem b1 {y : Nat} (hy : y ≤ 1) : (if decide (y = 1) = true then 1 else 0) = y := by
  have hy' : y = 0 ∨ y = 1 := by omega
  rcases hy' with rfl | rfl <;> rfl
theorem gainC {L : Lh} {M : Mem} {a b x y h : Nat} (hL : OkL L) (h0 : 0 < L.1 0) (hC : RpC 14 L M) (ha : a < L.1 6) (hb : b < L.1 6) (hab : a ≠ b) (hx : x ≤ 1) (hy : y ≤ 1) (hh : h ≤ 1) : ∃ M', f_X9_gain (io a) (io b) (io (x + 2 * y)) (io h) M = some (gnV L a b x y h, M') ∧ KC M M' ∧ M'.1 48 = M.1 48 := by
  have g := hL.2.2.1
  obtain ⟨M1, e1, hC1, k1, o1, l1⟩ := copyT2 hL hC
  have hla := hL.2.2.2.1 a ha
  have hlb := hL.2.2.2.1 b hb
  unfold f_X9_gain
  rw [e1, bnd_s, zoneC (hC1.1 6 (by omega)) (by omega), ite01, if_pos (pos_io ha (by omega)), zoneC (hC1.1 6 (by omega)) (by omega), ite01, if_pos (pos_io hb (by omega)), oob_f (show a < 7 by omega) (by omega), oob_f (show b < 7 by omega) (by omega), ix_io (by omega), ix_io (by omega)]
  simp only [Bool.false_eq_true, if_false, letv_eq]
  have e2 : M1.1 36 a + (50 : Int32) * (io (x + 2 * y) &&& 1) = io (L.2.1 a + 50 * x) := by
    rw [show M1.1 36 a = io (L.2.1 a) from hC1.2.2.1 a ha, show io (x + 2 * y) &&& (1 : Int32) = io ((x + 2 * y) &&& 1) from io_and _ _, (c1 hx hy).1, show (50 : Int32) = io 50 from rfl, io_mul, io_add]
  rw [e2]
  have e3 : (st M1 36 a (io (L.2.1 a + 50 * x))).1 36 b + (50 : Int32) * ((io (x + 2 * y) >>> ((1 : Int32) &&& 31)) &&& 1) = io (L.2.1 b + 50 * y) := by
    rw [st_rd (fun q => hab q.2.symm), show M1.1 36 b = io (L.2.1 b) from hC1.2.2.1 b hb, show (io (x + 2 * y) >>> ((1 : Int32) &&& 31)) &&& (1 : Int32) = io (if (x + 2 * y).testBit 1 then 1 else 0) from io_shr (n := 1) (by omega) (by omega), (c1 hx hy).2.1, b1 hy, show (50 : Int32) = io 50 from rfl, io_mul, io_add]
  rw [e3]
  have hT : Tc (tlF L (gnT L a b x y)) (st (st M1 36 a (io (L.2.1 a + 50 * x))) 36 b (io (L.2.1 b + 50 * y))) := by
    refine Tc_tl hL h0 hC1 (gnT_le hL ha hb hx hy) (fun c hc => by rw [stne (by revert c; decide), stne (by revert c; decide)]) (fun z hz => ?_)
    unfold gnT
    by_cases q1 : z = b
    · rw [if_neg (by omega), if_pos q1, q1]; simp [st]
    · rw [st_rd (fun q => q1 q.2)]
      by_cases q2 : z = a
      · rw [if_pos q2, q2]; simp [st]
      · rw [if_neg q2, if_neg q1, st_rd (fun q => q2 q.2)]; exact hC1.2.2.1 z hz
  have hok := (Lk.tl hL h0 (gnT_le hL ha hb hx hy)).ok hL
  obtain ⟨M2, e4, f2⟩ := tBits hok hT
  have hlt := nvc_lt hok
  have hK : KC M M2 := ((k1.sto (by omega)).sto (by omega)).trans (fr49 f2)
  have h48 : M2.1 48 = M.1 48 := by rw [f2.1 48 (by decide), stne (by decide), stne (by decide), o1 48 (by omega)]
  have hfin : ∀ w, J_X9_gain_99 (io a) (io b) (io (x + 2 * y)) (io h) (io w) (st (st M1 36 a (io (L.2.1 a + 50 * x))) 36 b (io (L.2.1 b + 50 * y))) = some (io (3 * pop (nvc (tlF L (gnT L a b x y)) &&& w)) - io (2 * (if (x + 2 * y).testBit h then 1 else 0)), M2) := by
    intro w
    unfold J_X9_gain_99
    rw [e4, bnd2_s, show (io (x + 2 * y) >>> (io h &&& 31)) &&& (1 : Int32) = io (if (x + 2 * y).testBit h then 1 else 0) from io_shr (by omega) (by omega), io_and, bitc (Nat.lt_of_le_of_lt Nat.and_le_left (by omega)), show (3 : Int32) = io 3 from rfl, show (2 : Int32) = io 2 from rfl, io_mul, io_mul]
    rfl
  refine ⟨M2, ?_, hK, h48⟩
  have hh' : h = 0 ∨ h = 1 := by omega
  unfold gnV gnP msk
  rcases hh' with rfl | rfl
  · rw [if_pos (show io 0 = 0 from rfl), show (21 : Int32) = io 21 from rfl, hfin, (c1 hx hy).2.2, b1 hx, if_pos rfl, if_pos rfl]
  · rw [if_neg (show ¬ io 1 = 0 by decide), show (42 : Int32) = io 42 from rfl, hfin, (c1 hx hy).2.1, b1 hy, if_neg (by decide), if_neg (by decide)]
theorem gainR {L : Lh} {M : Mem} {a b x y h : Nat} (hL : OkL L) (h0 : 0 < L.1 0) (hR : RpR 0 L M) (ha : a < L.1 6) (hb : b < L.1 6) (hab : a ≠ b) (hx : x ≤ 1) (hy : y ≤ 1) (hh : h ≤ 1) : ∃ M', f_X11_getsBy (io a) (io b) (io x) (io y) (io h) M = some (gnV L a b x y h, M') ∧ KR M M' := by
  have g := hL.2.2.1
  obtain ⟨M1, e1, hs1, k1⟩ := rLays hL hR
  have hla := hL.2.2.2.1 a ha
  have hlb := hL.2.2.2.1 b hb
  unfold f_X11_getsBy
  rw [e1, bnd_s, oob_f (show a < 7 by omega) (by omega), oob_f (show b < 7 by omega) (by omega), ix_io (by omega), ix_io (by omega)]
  simp only [Bool.false_eq_true, if_false, letv_eq]
  have e2 : M1.1 12 a + (50 : Int32) * io x = io (L.2.1 a + 50 * x) := by
    rw [hs1.2.1 a ha, show (50 : Int32) = io 50 from rfl, io_mul, io_add]
  rw [e2]
  have e3 : (st M1 12 a (io (L.2.1 a + 50 * x))).1 12 b + (50 : Int32) * io y = io (L.2.1 b + 50 * y) := by
    rw [st_rd (fun q => hab q.2.symm), hs1.2.1 b hb, show (50 : Int32) = io 50 from rfl, io_mul, io_add]
  rw [e3]
  have hs2 : Ls L L.1 L.2.2.1 (gnT L a b x y) 0 (L.1 6) (st (st M1 12 a (io (L.2.1 a + 50 * x))) 12 b (io (L.2.1 b + 50 * y))) := by
    refine hs1.tl (fun c hc => by rw [stne (by revert c; decide), stne (by revert c; decide)]) (fun z hz => ?_)
    unfold gnT
    by_cases q1 : z = b
    · rw [if_neg (by omega), if_pos q1, q1]; simp [st]
    · rw [st_rd (fun q => q1 q.2)]
      by_cases q2 : z = a
      · rw [if_pos q2, q2]; simp [st]
      · rw [if_neg q2, if_neg q1, st_rd (fun q => q2 q.2)]; exact hs1.2.1 z hz
  have k2 : KR M (st (st M1 12 a (io (L.2.1 a + 50 * x))) 12 b (io (L.2.1 b + 50 * y))) := (k1.sto (by decide)).sto (by decide)
  obtain ⟨M3, e4, -, -, k3, hc⟩ := cntR hL h0 (hR.kr k2) (gnT_le hL ha hb hx hy) hs2
  rw [e4, bnd_s]
  have hR3 := (hR.kr k2).kr k3
  have hpc := pop_msk (snd (tlF L (gnT L a b x y))) (n := L.1 7) (h := h) (by omega) hh
  have hnv : nvc (tlF L (gnT L a b x y)) = bN (snd (tlF L (gnT L a b x y))) (L.1 7) := Eq.refl _
  obtain ⟨r, ⟨r1, r2⟩, hr⟩ := in3x (b := L_X11_getsBy_42 (io a) (io b) (io x) (io y) (io h)) (fun i v w M4 => v = io (3 * cN (fun j => snd (tlF L (gnT L a b x y)) (h + 2 * j)) i) ∧ w = io (h + 2 * i) ∧ M4 = M3) (fun r => r.1 = gnV L a b x y h ∧ r.2 = M3) ((L.1 7 + 1 - h) / 2) (x := 0) (y := io h) (z := M3) ⟨rfl, rfl, rfl⟩ (by omega) (fun i v w M4 hi hq => by
      obtain ⟨rfl, rfl, rfl⟩ := hq
      have hp : h + 2 * i < L.1 7 := by omega
      have hcp := hc (h + 2 * i) hp
      refine ⟨io (3 * cN (fun j => snd (tlF L (gnT L a b x y)) (h + 2 * j)) (i + 1)), io (h + 2 * (i + 1)), M4, ⟨rfl, rfl, rfl⟩, fun K => ?_⟩
      unfold L_X11_getsBy_42
      rw [pieces0 hR3, bnd_s, if_neg (by rw [io_le (by omega) (by omega)]; omega), oob_f (show h + 2 * i < 6 by omega) (by omega), ix_io (by omega)]
      simp only [Bool.false_eq_true, if_false, letv_eq, cN]
      by_cases c : snd (tlF L (gnT L a b x y)) (h + 2 * i) = true
      · rw [if_pos (show M4.1 19 (h + 2 * i) = -1 from hcp.mpr c), if_pos c, show (3 : Int32) = io 3 from rfl, show (2 : Int32) = io 2 from rfl, io_add, io_add]; rfl
      · rw [if_neg (show ¬ M4.1 19 (h + 2 * i) = -1 from fun q => c (hcp.mp q)), if_neg c, show (0 : Int32) = io 0 from rfl, show (2 : Int32) = io 2 from rfl, io_add, io_add]; rfl) (fun v w M4 hq => by
      obtain ⟨rfl, rfl, rfl⟩ := hq
      refine ⟨(gnV L a b x y h, M4), ⟨rfl, rfl⟩, fun K => ?_⟩
      unfold L_X11_getsBy_42
      rw [pieces0 hR3, bnd_s, if_pos (by rw [io_le (by omega) (by omega)]; omega)]
      unfold gnV gnP
      rw [hnv, hpc, show (2 : Int32) = io 2 from rfl, io_mul, io_mul]
      have hh' : h = 0 ∨ h = 1 := by omega
      rcases hh' with rfl | rfl
      · rw [if_pos (show io 0 = 0 from rfl), if_pos rfl]
      · rw [if_neg (show ¬ io 1 = 0 by decide), if_neg (by decide)])
  exact ⟨r.2, by rw [hr, ← r1], r2 ▸ k2.trans k3⟩
/-- a pair of zones is asked -/
theorem pairs {L : Lh} {Mc Mr : Mem} (hN : RelN L Mc Mr) (a b : Int32) : (f_X10_isPairOfZones a b Mc = 0 ∧ f_X11_areTwo a b Mr = some 0) ∨ (f_X10_isPairOfZones a b Mc = 1 ∧ f_X11_areTwo a b Mr = some 1 ∧ ∃ z y, z < L.1 6 ∧ y < L.1 6 ∧ z ≠ y ∧ a = io z ∧ b = io y) := by
  have g := hN.1.2.2.1
  unfold f_X10_isPairOfZones f_X11_areTwo
  rw [zoneC (hN.2.1.1 6 (by omega)) (by omega), zoneC (hN.2.1.1 6 (by omega)) (by omega), zoneR hN.1 hN.2.2.1, zoneR hN.1 hN.2.2.1]
  rw [bnd_s, bnd_s, ite01, ite01, ite01, ite01]
  rcases below a (L.1 6) with hb | ⟨z, hz, rfl, hz2⟩
  · rw [if_neg hb, if_neg hb]; exact Or.inl ⟨rfl, rfl⟩
  rw [if_pos (pos_io hz hz2), if_pos (pos_io hz hz2)]
  rcases below b (L.1 6) with hb | ⟨y, hy, rfl, hy2⟩
  · rw [if_neg hb, if_neg hb]; exact Or.inl ⟨rfl, rfl⟩
  rw [if_pos (pos_io hy hy2), if_pos (pos_io hy hy2)]
  by_cases c : z = y
  · subst c; rw [if_pos rfl, if_pos rfl]; exact Or.inl ⟨rfl, rfl⟩
  · have : ¬ io z = io y := fun q => c ((io_inj (by omega) (by omega)).mp q)
    rw [if_neg this, if_neg this]
    exact Or.inr ⟨rfl, rfl, z, y, hz, hy, c, rfl, rfl⟩
theorem op_69 : ∀ (Mc Mr : Mem) (a1 a2 a3 a4 a5 : Int32), Rel Mc Mr → ∃ (r : Int32) (Mc' Mr' : Mem), f_X10_gets a1 a2 a3 a4 a5 Mc = some (r, Mc') ∧ f_X11_gets a1 a2 a3 a4 a5 Mr = some (r, Mr') ∧ Rel Mc' Mr' := by
  intro Mc Mr a1 a2 a3 a4 a5 h
  obtain ⟨hX, L, hN⟩ := h.split
  have hk := kr0 Mr
  have hN1 := hN.kr hk
  have g := hN.1.2.2.1
  have hf : ∀ a : Int32, f_X11_isHalf a (st Mr 0 0 0) = if 0 ≤ a.toInt ∧ a.toInt ≤ (1 : Nat) then 1 else 0 := fun a => in_le a (n := 1) (by decide) (st Mr 0 0 0)
  have bad : ∃ r Mc' Mr', some ((-1000 : Int32), Mc) = some (r, Mc') ∧ some ((-1000 : Int32), st Mr 0 0 0) = some (r, Mr') ∧ Rel Mc' Mr' := ⟨_, _, _, rfl, rfl, h.kr hk⟩
  unfold f_X10_gets f_X11_gets
  rw [letv_eq]
  rcases pairs hN1 a1 a2 with ⟨q1, q2⟩ | ⟨q1, q2, z, y, hz, hy, hzy, rfl, rfl⟩
  · rw [q1, q2, if_pos rfl, bnd_s, if_pos rfl]; exact bad
  rw [q1, q2, if_neg (show ¬ (1 : Int32) = 0 by decide), bnd_s, if_neg (show ¬ (1 : Int32) = 0 by decide), hf, hf, hf, ite01, ite01, ite01]
  have i0 : ∀ a : Int32, f_X10_isNoPart a Mc = if a = 0 ∨ a = 1 then 0 else 1 := by
    intro a
    unfold f_X10_isNoPart
    by_cases c : a = 0
    · rw [if_pos c, if_pos (Or.inl c)]
    · rw [if_neg c]
      by_cases c2 : a = 1
      · rw [if_pos c2, if_pos (Or.inr c2)]
      · rw [if_neg c2, if_neg (fun q => q.elim c c2)]
  rw [i0]
  have two : ∀ a : Int32, (¬ (0 ≤ a.toInt ∧ a.toInt ≤ (1 : Nat)) ∧ ¬ (a = 0 ∨ a = 1) ∧ (a < 0 ∨ (1 : Int32) < a)) ∨ ((0 ≤ a.toInt ∧ a.toInt ≤ (1 : Nat)) ∧ (a = 0 ∨ a = 1) ∧ ¬ a < 0 ∧ ¬ (1 : Int32) < a ∧ ∃ n, n ≤ 1 ∧ a = io n) := by
    intro a
    rcases below a 2 with hb | ⟨n, hn, rfl, hn2⟩
    · refine Or.inl ⟨fun q => hb ⟨q.1, by have := q.2; omega⟩, fun q => hb ?_, ?_⟩
      · rcases q with rfl | rfl <;> decide
      · by_cases c : a < 0
        · exact Or.inl c
        · refine Or.inr (Int32.lt_iff_toInt_lt.mpr ?_)
          have h1 : 0 ≤ a.toInt := Int32.le_iff_toInt_le.mp (Int32.not_lt.mp c)
          show (1 : Int) < a.toInt
          omega
    · refine Or.inr ⟨by have := pos_io hn hn2; omega, ?_, fun q => by have := (io_lt (b := 0) hn2 (by omega)).mp q; omega, fun q => by have := (io_lt (a := 1) (by omega) hn2).mp q; omega, n, by omega, rfl⟩
      have : n = 0 ∨ n = 1 := by omega
      rcases this with rfl | rfl
      · exact Or.inl rfl
      · exact Or.inr rfl
  rcases two a5 with ⟨p1, p2, p3⟩ | ⟨p1, p2, p3, p4, hh, hh2, rfl⟩
  · rw [if_neg p2, if_neg (show ¬ (1 : Int32) = 0 by decide), if_neg p1]
    have : ∀ (c1 c2 : Prop) [Decidable c1] [Decidable c2] (x : Option (Int32 × Mem)), (if c1 then if c2 then x else x else x) = x := by
      intro c1 c2 _ _ x
      by_cases q1 : c1
      · rw [if_pos q1]; by_cases q2 : c2
        · rw [if_pos q2]
        · rw [if_neg q2]
      · rw [if_neg q1]
    rw [this]; exact bad
  rw [if_pos p2, if_pos rfl, if_pos p1]
  rcases two a3 with ⟨r1, r2, r3⟩ | ⟨r1, r2, r3, r4, x, hx, rfl⟩
  · rw [if_neg r1]
    rcases r3 with r3 | r3
    · rw [if_pos r3]; exact bad
    · by_cases c : a3 < 0
      · rw [if_pos c]; exact bad
      · rw [if_neg c, if_pos r3]; exact bad
  rw [if_pos r1, if_neg r3, if_neg r4]
  rcases two a4 with ⟨s1, s2, s3⟩ | ⟨s1, s2, s3, s4, w, hw, rfl⟩
  · rw [if_neg s1]
    rcases s3 with s3 | s3
    · rw [if_pos s3]; exact bad
    · by_cases c : a4 < 0
      · rw [if_pos c]; exact bad
      · rw [if_neg c, if_neg (Int32.not_le.mpr s3)]; exact bad
  rw [if_pos s1, if_neg s3, if_pos (Int32.not_lt.mp s4), bnd2_id, bnd2_id, show (2 : Int32) = io 2 from rfl, io_mul, io_add]
  have h0 := hN.1.pos (i := 6) (by omega)
  obtain ⟨M1, m1, m2, -⟩ := gainC hN.1 h0 hN.2.1 hz hy hzy hx hw hh2
  exact twoWays (h.kr hk) ⟨M1, m1, m2⟩ (gainR hN.1 h0 hN1.2.2.1 hz hy hzy hx hw hh2)
