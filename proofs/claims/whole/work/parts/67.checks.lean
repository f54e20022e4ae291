/-! WHAT IS ASKED FIRST, on both sides -/
theorem in_eq (x lo hi : Int64) (M : Mem) : f_X11_in x lo hi M = if lo.toInt ≤ x.toInt ∧ x.toInt ≤ hi.toInt then 1 else 0 := by
  unfold f_X11_in
  by_cases h : lo.toInt ≤ x.toInt
  · rw [if_neg (by rw [lg_cmp_lt, Int64.lt_iff_toInt_lt]; omega)]
    by_cases h2 : x.toInt ≤ hi.toInt
    · rw [if_neg (by rw [lg_cmp_gt, Int64.lt_iff_toInt_lt]; omega), if_pos ⟨h, h2⟩]
    · rw [if_pos (by rw [lg_cmp_gt, Int64.lt_iff_toInt_lt]; omega), if_neg (fun q => h2 q.2)]
  · rw [if_pos (by rw [lg_cmp_lt, Int64.lt_iff_toInt_lt]; omega), if_neg (fun q => h q.1)]
theorem dec1 {n : Nat} (h : n < 2147483648) : ((io n).toInt64 - 1).toInt = (n : Int) - 1 := by
  rw [Int64.toInt_sub, Int32.toInt_toInt64, io_toInt h]
  exact Int.bmod_eq_of_le (by show _ ≤ (n : Int) - 1; omega) (by show (n : Int) - 1 < _; omega)
theorem in_n (a : Int32) {n : Nat} (h : n < 2147483648) (M : Mem) : f_X11_in a.toInt64 0 ((io n).toInt64 - 1) M = if 0 ≤ a.toInt ∧ a.toInt < n then 1 else 0 := by
  rw [in_eq, dec1 h, Int32.toInt_toInt64]
  by_cases h2 : 0 ≤ a.toInt ∧ a.toInt < n
  · rw [if_pos h2, if_pos ⟨by exact h2.1, by omega⟩]
  · rw [if_neg h2, if_neg (fun q => h2 ⟨q.1, by omega⟩)]
theorem in_le (a : Int32) {n : Nat} (h : n < 2147483648) (M : Mem) : f_X11_in a.toInt64 0 (io n).toInt64 M = if 0 ≤ a.toInt ∧ a.toInt ≤ n then 1 else 0 := by
  rw [in_eq, Int32.toInt_toInt64, Int32.toInt_toInt64, io_toInt h]; rfl
/-- a number below n, or none -/
theorem below (a : Int32) (n : Nat) : (¬ (0 ≤ a.toInt ∧ a.toInt < n)) ∨ ∃ p, p < n ∧ a = io p ∧ p < 2147483648 := by
  by_cases h : 0 ≤ a.toInt ∧ a.toInt < n
  · right
    have h0 : (0 : Int32) ≤ a := Int32.le_iff_toInt_le.mpr h.1
    obtain ⟨p, hp, rfl⟩ := io_ex h0
    rw [io_toInt hp] at h
    exact ⟨p, by omega, rfl, hp⟩
  · exact Or.inl h
theorem ite01 {α : Sort _} {c : Prop} [Decidable c] {x y : α} : (if (if c then (1 : Int32) else 0) = 0 then x else y) = if c then y else x := by
  by_cases h : c
  · rw [if_pos h, if_pos h, if_neg (by decide)]
  · rw [if_neg h, if_neg h, if_pos rfl]
theorem pos_io {p n : Nat} (h : p < n) (hp : p < 2147483648) : 0 ≤ (io p).toInt ∧ (io p).toInt < n := by
  rw [io_toInt hp]; omega
theorem pos_le {p n : Nat} (h : p ≤ n) (hp : p < 2147483648) : 0 ≤ (io p).toInt ∧ (io p).toInt ≤ n := by
  rw [io_toInt hp]; omega
theorem hasC {a : Int32} {n : Nat} (h : n < 2147483648) : (if a < 0 then (0 : Int32) else if io n ≤ a then 0 else 1) = if 0 ≤ a.toInt ∧ a.toInt < n then 1 else 0 := by
  by_cases h0 : a < 0
  · rw [if_pos h0, if_neg (fun q => by have := Int32.lt_iff_toInt_lt.mp h0; have e : (0 : Int32).toInt = 0 := Eq.refl _; omega)]
  · have h1 : 0 ≤ a.toInt := Int32.le_iff_toInt_le.mp (Int32.not_lt.mp h0)
    rw [if_neg h0]
    by_cases h2 : io n ≤ a
    · have := Int32.le_iff_toInt_le.mp h2
      rw [io_toInt h] at this
      rw [if_pos h2, if_neg (fun q => by omega)]
    · have : ¬ (n : Int) ≤ a.toInt := fun q => h2 (Int32.le_iff_toInt_le.mpr (by rw [io_toInt h]; exact q))
      rw [if_neg h2, if_pos ⟨h1, by omega⟩]
theorem pieceC {P : Nat} {M : Mem} {n : Nat} (h : M.1 P 7 = io n) (hn : n < 2147483648) (a : Int32) : f_X5_hasPiece P a M = if 0 ≤ a.toInt ∧ a.toInt < n then 1 else 0 := by
  unfold f_X5_hasPiece
  rw [h]; exact hasC hn
theorem zoneC {P : Nat} {M : Mem} {n : Nat} (h : M.1 P 6 = io n) (hn : n < 2147483648) (a : Int32) : f_X5_hasZone P a M = if 0 ≤ a.toInt ∧ a.toInt < n then 1 else 0 := by
  unfold f_X5_hasZone
  rw [h]; exact hasC hn
theorem toldC {P : Nat} {M : Mem} {n : Nat} (h : M.1 P 0 = io n) (hn : n < 2147483648) : f_X5_isTold P M = if 0 < n then 1 else 0 := by
  unfold f_X5_isTold
  rw [h]
  simp only [lit]
  by_cases h2 : 0 < n
  · rw [if_neg (by rw [io_le (by omega) (by omega)]; omega), if_pos h2]
  · rw [if_pos (by rw [io_le (by omega) (by omega)]; omega), if_neg h2]
theorem stepC {P : Nat} {M : Mem} {n m : Nat} (h0 : M.1 P 0 = io m) (hm : m < 2147483648) (h : M.1 P 1 = io n) (hn : n < 2147483648) (a : Int32) : f_X5_hasStep P a M = if 0 < m ∧ 0 ≤ a.toInt ∧ a.toInt ≤ n then 1 else 0 := by
  unfold f_X5_hasStep
  rw [toldC h0 hm, h]
  by_cases h1 : 0 < m
  · rw [if_pos h1, if_neg (by decide)]
    by_cases h2 : a < 0
    · rw [if_pos h2, if_neg (fun q => by have := Int32.lt_iff_toInt_lt.mp h2; have e : (0 : Int32).toInt = 0 := Eq.refl _; omega)]
    · have h3 : 0 ≤ a.toInt := Int32.le_iff_toInt_le.mp (Int32.not_lt.mp h2)
      rw [if_neg h2]
      by_cases h4 : io n < a
      · have := Int32.lt_iff_toInt_lt.mp h4
        rw [io_toInt hn] at this
        rw [if_pos h4, if_neg (fun q => by omega)]
      · have : ¬ (n : Int) < a.toInt := fun q => h4 (Int32.lt_iff_toInt_lt.mpr (by rw [io_toInt hn]; exact q))
        rw [if_neg h4, if_pos ⟨h1, h3, by omega⟩]
  · rw [if_neg h1, if_pos rfl, if_neg (fun q => h1 q.1)]
theorem aheadC {P : Nat} {M : Mem} {n m : Nat} (h0 : M.1 P 0 = io m) (hm : m < 2147483648) (h : M.1 P 1 = io n) (hn : n < 2147483648) (a : Int32) : f_X5_hasStepAhead P a M = if 0 < m ∧ 0 ≤ a.toInt ∧ a.toInt < n then 1 else 0 := by
  unfold f_X5_hasStepAhead
  rw [stepC h0 hm h hn, h]
  by_cases h1 : 0 < m ∧ 0 ≤ a.toInt ∧ a.toInt ≤ n
  · rw [if_pos h1, if_neg (by decide)]
    by_cases h4 : io n ≤ a
    · have := Int32.le_iff_toInt_le.mp h4
      rw [io_toInt hn] at this
      rw [if_pos h4, if_neg (fun q => by omega)]
    · have : ¬ (n : Int) ≤ a.toInt := fun q => h4 (Int32.le_iff_toInt_le.mpr (by rw [io_toInt hn]; exact q))
      rw [if_neg h4, if_pos ⟨h1.1, h1.2.1, by omega⟩]
  · rw [if_neg h1, if_pos rfl, if_neg (fun q => h1 ⟨q.1, q.2.1, by omega⟩)]
theorem lehrR {L : Lh} {M : Mem} (hL : OkL L) (hR : RpR 0 L M) : f_X11_isLehr M = some (if 0 < L.1 0 then 1 else 0) := by
  have h6 := hL.2.2.1.1
  unfold f_X11_isLehr
  simp only [lit]
  simp (disch := omega) only [oob_f, Bool.false_eq_true, if_false, ix_io]
  rw [hR.1]
  by_cases h2 : 0 < L.1 0
  · rw [if_neg (by rw [io_le (by omega) (by omega)]; omega), if_pos h2]
  · rw [if_pos (by rw [io_le (by omega) (by omega)]; omega), if_neg h2]
theorem numR {L : Lh} {M : Mem} {i : Nat} (hR : RpR 0 L M) (hi : i < 8) : M.1 7 i = io (L.1 (i + 1)) := by
  have := hR.2.1 i hi
  rw [show 8 * 0 + i = i by omega] at this
  exact this
theorem pieces0 {L : Lh} {M : Mem} (hR : RpR 0 L M) : f_X11_pieces M = some (io (L.1 7)) := by
  unfold f_X11_pieces
  simp only [lit]
  simp (disch := omega) only [oob_f, Bool.false_eq_true, if_false, ix_io]
  rw [numR hR (by omega)]
theorem steps0 {L : Lh} {M : Mem} (hR : RpR 0 L M) : f_X11_steps M = some (io (L.1 1)) := by
  unfold f_X11_steps
  simp only [lit]
  simp (disch := omega) only [oob_f, Bool.false_eq_true, if_false, ix_io]
  rw [numR hR (by omega)]
theorem pieceR {L : Lh} {M : Mem} (hL : OkL L) (hR : RpR 0 L M) (a : Int32) : f_X11_isPiece a.toInt64 M = some (if 0 ≤ a.toInt ∧ a.toInt < L.1 7 then 1 else 0) := by
  have := hL.2.2.1.2.2.2.2.2.2.2.1
  unfold f_X11_isPiece
  rw [pieces0 hR]
  simp only [bnd_s]
  rw [in_n a (by omega)]
theorem zoneR {L : Lh} {M : Mem} (hL : OkL L) (hR : RpR 0 L M) (a : Int32) : f_X11_isZone a M = some (if 0 ≤ a.toInt ∧ a.toInt < L.1 6 then 1 else 0) := by
  have := hL.2.2.1.2.2.2.2.2.2.1
  unfold f_X11_isZone
  simp only [lit]
  simp (disch := omega) only [oob_f, Bool.false_eq_true, if_false, ix_io]
  rw [show M.1 7 5 = io (L.1 6) from numR hR (by omega), in_n a (by omega)]
  rfl
theorem stepR {L : Lh} {M : Mem} (hL : OkL L) (hR : RpR 0 L M) (a : Int32) : f_X11_isStep a.toInt64 M = some (if 0 < L.1 0 ∧ 0 ≤ a.toInt ∧ a.toInt ≤ L.1 1 then 1 else 0) := by
  have := hL.2.2.1.2.1
  unfold f_X11_isStep
  rw [lehrR hL hR]
  simp only [bnd_s]
  by_cases h : 0 < L.1 0
  · rw [if_pos h, if_neg (by decide), steps0 hR]
    simp only [bnd_s]
    rw [in_le a (by omega)]
    by_cases h2 : 0 ≤ a.toInt ∧ a.toInt ≤ L.1 1
    · rw [if_pos h2, if_neg (by decide), if_pos ⟨h, h2⟩]
    · rw [if_neg h2, if_pos rfl, if_neg (fun q => h2 q.2)]
  · rw [if_neg h, if_pos rfl, if_neg (fun q => h q.1)]
theorem aheadR {L : Lh} {M : Mem} (hL : OkL L) (hR : RpR 0 L M) (a : Int32) : f_X11_isAhead a M = some (if 0 ≤ a.toInt ∧ a.toInt < L.1 1 then 1 else 0) := by
  have := hL.2.2.1.2.1
  unfold f_X11_isAhead
  rw [steps0 hR]
  simp only [bnd_s]
  rw [in_n a (by omega)]
theorem thenR {L : Lh} {M : Mem} (hL : OkL L) (hR : RpR 0 L M) (a b : Int32) : f_X11_isThen a b M = some (if (0 ≤ a.toInt ∧ a.toInt < L.1 7) ∧ 0 < L.1 0 ∧ 0 ≤ b.toInt ∧ b.toInt ≤ L.1 1 then 1 else 0) := by
  unfold f_X11_isThen
  rw [pieceR hL hR]
  simp only [bnd_s]
  by_cases h : 0 ≤ a.toInt ∧ a.toInt < L.1 7
  · rw [if_pos h, if_neg (by decide), stepR hL hR]
    simp only [bnd_s]
    by_cases h2 : 0 < L.1 0 ∧ 0 ≤ b.toInt ∧ b.toInt ≤ L.1 1
    · rw [if_pos h2, if_neg (by decide), if_pos ⟨h, h2⟩]
    · rw [if_neg h2, if_pos rfl, if_neg (fun q => h2 q.2)]
  · rw [if_neg h, if_pos rfl, if_neg (fun q => h q.1)]
/-- where there is a piece, or a zone, there is a lehr -/
theorem OkL.pos {L : Lh} (hL : OkL L) {i : Nat} (h : 0 < L.1 i) : 0 < L.1 0 := by
  rcases Nat.eq_zero_or_pos (L.1 0) with e | e
  · have := hL.1 e i; omega
  · exact e
/-! the class's air, and its followed course -/
theorem airC_of {b P A : Nat} {M : Mem} {z s g tl ht : Nat} (hP : rC b 0 = P) (hA : rC b 1 = A) (hP8 : rC P 8 = P + 1) (hA5 : rC A 5 = P + 10) (h1 : M.1 (P + 1) z = io tl) (h2 : M.1 (P + 10) (z * 15 + s) = io ht) (hz : z < 7) (hs : s < 15) (hg : g < 2147483648) (hb : tl + ht ≤ 100000) : f_X1_airAt b (io z) (io s) (io g) M = some (io (airN (tl + ht) (g.testBit s))) := by
  unfold f_X1_airAt J_X1_airAt_61
  simp only [hP, hA, hP8, hA5, lit, letv_eq]
  rw [if_neg (by rw [io_lt (by omega) (by omega)]; omega), if_neg (by rw [io_le (by omega) (by omega)]; omega), if_neg (by rw [io_lt (by omega) (by omega)]; omega), if_pos (by rw [io_lt (by omega) (by omega)]; omega)]
  simp (disch := omega) only [io_mul, io_add, oob_f, Bool.false_eq_true, if_false, ix_io, h1, h2, io_shr]
  unfold airN
  by_cases h : g.testBit s = true
  · rw [if_pos h, if_pos h, if_neg (by decide), if_neg (by decide), max80 hb]
  · rw [if_neg h, if_neg h, if_pos rfl, if_pos trivial]
theorem gbits (L : Lh) (n d s : Nat) (hs : s < 15) : (bN (gst L n) 15 ||| d).testBit s = (gst L n s || d.testBit s) := by
  rw [Nat.testBit_or, bN_tb]; simp [hs]
/-- the class's belt of now, with draughts d -/
theorem CnNow {L : Lh} {M : Mem} {d : Nat} (hL : OkL L) (hC : RpC 14 L M) (hd : d < 16384) : Cn_25 (mk L.1 L.2.2.1 L.2.1 (hot L (L.1 8)) (fun s => gst L (L.1 8) s || d.testBit s)) (st M 25 2 (M.1 20 1 ||| io d)) ∧ Cn_59 (mk L.1 L.2.2.1 L.2.1 (hot L (L.1 8)) (fun s => gst L (L.1 8) s || d.testBit s)) (st M 59 2 (M.1 20 1 ||| io d)) := by
  obtain ⟨h1, h2, h3, h4, -, h6⟩ := hC
  have hg := h2.2
  have hb := bN_lt (gst L (L.1 8)) 15
  have hlt : bN (gst L (L.1 8)) 15 ||| d < 2147483648 := Nat.lt_of_lt_of_le (Nat.or_lt_two_pow (n := 15) hb (by omega)) (by decide)
  refine ⟨⟨?_, ?_, ?_⟩, ⟨?_, ?_, ?_⟩⟩
  · exact ⟨by simp [st, h1]; rfl, by simp [st, h1]; rfl, by simp [st, h1]; rfl, by simp [st, h1]; rfl, by simp [st, h1]; rfl, by simp [st, h1]; rfl⟩
  · intro p hp
    have := h4 p hp
    simp [st]
    exact this
  · intro z s hz hs
    have hz7 := hL.2.2.1.2.2.2.2.2.2.1
    have hz' : z < L.1 6 := hz
    have hx := hL.2.2.2.1 z hz'
    have hh := hot_lt hL z s
    have e1 : (st M 25 2 (M.1 20 1 ||| io d)).1 25 2 = io (bN (gst L (L.1 8)) 15 ||| d) := by
      rw [← io_or]; simp [st]; rw [← hg]
    rw [e1, airC_of (P := 14) (A := 20) (tl := L.2.1 z) (ht := hot L (L.1 8) z s) (by decide) (by decide) (by decide) (by decide) (by simp [st]; exact h3 z hz') (by simp [st]; exact h6 z s (by omega) (by omega)) (by omega) (by omega) hlt (by omega), gbits L _ d s (by omega)]
    rfl
  · exact ⟨by simp [st, h1]; rfl, by simp [st, h1]; rfl, by simp [st, h1]; rfl, by simp [st, h1]; rfl, by simp [st, h1]; rfl, by simp [st, h1]; rfl⟩
  · intro p hp
    have := h4 p hp
    simp [st]
    exact this
  · intro z s hz hs
    have hz7 := hL.2.2.1.2.2.2.2.2.2.1
    have hz' : z < L.1 6 := hz
    have hx := hL.2.2.2.1 z hz'
    have hh := hot_lt hL z s
    have e1 : (st M 59 2 (M.1 20 1 ||| io d)).1 59 2 = io (bN (gst L (L.1 8)) 15 ||| d) := by
      rw [← io_or]; simp [st]; rw [← hg]
    rw [e1, airC_of (P := 14) (A := 20) (tl := L.2.1 z) (ht := hot L (L.1 8) z s) (by decide) (by decide) (by decide) (by decide) (by simp [st]; exact h3 z hz') (by simp [st]; exact h6 z s (by omega) (by omega)) (by omega) (by omega) hlt (by omega), gbits L _ d s (by omega)]
    rfl
theorem cf0 (L : Lh) : mk L.1 L.2.2.1 L.2.1 (hot L (L.1 8)) (fun s => gst L (L.1 8) s || (0 : Nat).testBit s) = cfN L := by
  unfold cfN mk
  congr; funext z s; simp
theorem followedC {L : Lh} {Mc Mr : Mem} (hN : RelN L Mc Mr) (h0 : 0 < L.1 0) : ∃ M', f_X10_followedCourse Mc = some M' ∧ RelN L M' Mr ∧ Ct_25 (cfN L) (fun _ => True) (L.1 1) (fun _ => L.1 1) M' ∧ KX Mc M' := by
  obtain ⟨hL, hC, hR, hF⟩ := hN
  unfold f_X10_followedCourse
  simp only [lit]
  rcases hF with hF | ⟨hF, hT⟩
  · rw [hF, if_pos rfl]
    have hs14 := hL.2.2.1.2.1
    have hc := (CnNow (d := 0) hL hC (by decide)).1
    rw [cf0] at hc
    obtain ⟨M', hM', hT, hFr, -⟩ := followC_25 (u := L.1 1) (pw := 63) (hL.ok h0) hc (by omega) (by decide)
    rw [hC.1 1 (by omega), hM']
    simp only [bnd_s]
    refine letv_ex (fun M2 e2 => ⟨M2, rfl, ?_⟩)
    have hm : min (L.1 1) 14 = L.1 1 := by omega
    rw [hm] at hT
    have w63 : ∀ q, q < 6 → (63 : Nat).testBit q = true := by decide
    have h7 := hL.2.2.1.2.2.2.2.2.2.2.1
    have hT2 : Ct_25 (cfN L) (fun _ => True) (L.1 1) (fun _ => L.1 1) M2 := by
      have := ctcongr_25 hT (W' := fun _ => True) (fun q hq _ => Or.inr (w63 q (by have : q < L.1 7 := hq; omega))) (fun q hq _ => rfl)
      refine Ct25.congr this (fun a h1 h2 => ?_)
      have : a ≠ 0 := by omega
      subst e2; funext j; simp [st, this]
    have hC2 : RpC 14 L M2 := hC.congr (fun a h1 h2 => by
      have : a ≠ 0 := by omega
      have e : M2.1 a = M'.1 a := by subst e2; funext j; simp [st, this]
      rw [e]; exact hFr.1 a (by simp [Cs_25]; omega))
    refine ⟨⟨hL, hC2, hR, Or.inr ⟨by subst e2; simp [st], hT2⟩⟩, hT2, ?_⟩
    subst e2
    exact (KX.refl.fr hFr (by decide)).sto (by decide)
  · rw [hF, if_neg (by decide)]
    exact ⟨Mc, rfl, ⟨hL, hC, hR, Or.inr ⟨hF, hT⟩⟩, hT, KX.refl⟩
