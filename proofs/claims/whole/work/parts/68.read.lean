/-! WHAT IS READ of a lehr and of its course, on both sides -/
def sk (L : Lh) (p s : Nat) : Nat := (run (cfN L) s p).1
def co (L : Lh) (p s : Nat) : Nat := (run (cfN L) s p).2.1
def sa (L : Lh) (p s : Nat) : Nat := apt (sk L p s) (co L p s)
def ck (L : Lh) (p : Nat) : Option Nat := (run (cfN L) (L.1 1) p).2.2.2.2.1
def cm (L : Lh) (p : Nat) : Nat := L.2.2.1 p 3
def VC (L : Lh) (M : Mem) : Prop := OkL L ∧ 0 < L.1 0 ∧ RpC 14 L M ∧ Ct_25 (cfN L) (fun _ => True) (L.1 1) (fun _ => L.1 1) M
def VR (L : Lh) (M : Mem) : Prop := OkL L ∧ 0 < L.1 0 ∧ RpR 0 L M ∧ Rn (cfN L) M ∧ Rt (cfN L) (fun _ => L.1 1) M
theorem placeP {P : Nat} {c : Cf} {M : Mem} {p s : Nat} (hok : OkC c) (h4 : M.1 P 4 = io (c.1 4)) (h6 : M.1 P 6 = io (c.1 6)) (h7 : M.1 P 7 = io (c.1 7)) (e12 : rC P 12 = P + 5) (e3 : M.1 (P + 5) p = io (c.2.1 p 3)) (hp : p < c.1 7) (hs : s ≤ 20) : f_X5_placeAt P (io p) (io s) M = some (pli (plc c p s)) := by
  obtain ⟨hs1, hl, hpa, hset, hz, hnp, hpp, -⟩ := hok
  have hcm := (hpp p hp).2.2.2
  unfold f_X5_placeAt plc
  simp only [lit, letv_eq, nio1, e12]
  rw [h7, h4, h6]
  simp (disch := omega) only [io_lt_f, io_le_f, if_false, oob_f, Bool.false_eq_true, ix_io, e3]
  by_cases hh : s < c.2.1 p 3
  · simp (disch := omega) only [io_le_f, if_false, if_pos hh, pli, if_true]
  · have hq : (s - c.2.1 p 3) / c.1 4 ≤ s := Nat.le_trans (Nat.div_le_self ..) (Nat.sub_le ..)
    simp (disch := omega) only [io_le_t, if_true, if_neg hh, io_ne, if_false, io_sub, io_div]
    by_cases hz2 : (s - c.2.1 p 3) / c.1 4 < c.1 6
    · rw [if_neg (by rw [io_le (by omega) (by omega)]; omega), if_pos hz2, pli_io (by omega)]
    · rw [if_pos (by rw [io_le (by omega) (by omega)]; omega), if_neg hz2]; rfl
theorem place14 {L : Lh} {M : Mem} {p s : Nat} (hL : OkL L) (h0 : 0 < L.1 0) (hC : RpC 14 L M) (hp : p < L.1 7) (hs : s ≤ 20) : f_X5_placeAt 14 (io p) (io s) M = some (pli (plc (cfN L) p s)) :=
  placeP (hL.ok h0) (hC.1 4 (by omega)) (hC.1 6 (by omega)) (hC.1 7 (by omega)) (by decide) (hC.2.2.2.1 p hp).2.2.2 hp hs
theorem come14 {L : Lh} {M : Mem} {p s : Nat} (hL : OkL L) (hC : RpC 14 L M) (hp : p < L.1 7) (hs : s < 2147483648) : f_X5_hasCome 14 (io p) (io s) M = some (if cm L p ≤ s then 1 else 0) := by
  have h7 := hL.2.2.1.2.2.2.2.2.2.2.1
  have h3 := (hL.2.2.2.2.1 p hp).2.2.2
  unfold f_X5_hasCome
  rw [pieceC (hC.1 7 (by omega)) (by omega), if_pos (pos_io hp (by omega))]
  simp only [lit, show rC 14 12 = 19 by decide]
  simp (disch := omega) only [oob_f, Bool.false_eq_true, if_false, ix_io, io_ne]
  rw [(hC.2.2.2.1 p hp).2.2.2]
  by_cases h : cm L p ≤ s
  · rw [if_neg (by rw [io_lt (by omega) (by omega)]; exact Nat.not_lt.mpr h), if_pos h]
  · rw [if_pos (by rw [io_lt (by omega) (by omega)]; exact Nat.lt_of_not_le h), if_neg h]
theorem comeR {L : Lh} {M : Mem} {p s : Nat} (hL : OkL L) (h0 : 0 < L.1 0) (hR : Rn (cfN L) M) (hp : p < L.1 7) (hs : s < 2147483648) : f_X11_hasCome (io p) (io s) M = some (if cm L p ≤ s then 1 else 0) := by
  have h3 : cm L p ≤ 14 := (hL.2.2.2.2.1 p hp).2.2.2
  unfold f_X11_hasCome
  rw [comesR (hL.ok h0) hR hp]
  simp only [bnd_s, lit]
  show (if io s < io (cm L p) then some (io 0) else some (io 1)) = some (if cm L p ≤ s then io 1 else io 0)
  by_cases h : cm L p ≤ s
  · rw [if_neg (by rw [io_lt (by omega) (Nat.lt_of_le_of_lt h3 (by decide))]; exact Nat.not_lt.mpr h), if_pos h]
  · rw [if_pos (by rw [io_lt (by omega) (Nat.lt_of_le_of_lt h3 (by decide))]; exact Nat.lt_of_not_le h), if_neg h]
theorem sk_le {L : Lh} (hL : OkL L) (h0 : 0 < L.1 0) {p : Nat} (hp : p < L.1 7) (s : Nat) : sk L p s ≤ 20000 ∧ co L p s ≤ 20000 := run_le (hL.ok h0) s p hp
theorem sa_le {L : Lh} (hL : OkL L) (h0 : 0 < L.1 0) {p : Nat} (hp : p < L.1 7) (s : Nat) : sa L p s ≤ 20000 := apt_le (sk_le hL h0 hp s).1 (sk_le hL h0 hp s).2
theorem vC {L : Lh} {M : Mem} {p s : Nat} (h : VC L M) (hp : p < L.1 7) (hs : s ≤ L.1 1) : f_X2_valueAt 25 0 (io p) (io s) M = some (io (sk L p s)) ∧ f_X2_valueAt 25 1 (io p) (io s) M = some (io (co L p s)) ∧ f_X2_valueAt 25 2 (io p) (io s) M = some (io (sa L p s)) := by
  obtain ⟨hL, h0, hC, hT⟩ := h
  have h7 := hL.2.2.1.2.2.2.2.2.2.2.1
  have h1 := hL.2.2.1.2.1
  have a2 := (hT p hp trivial).2.1 s hs
  have hb := sk_le hL h0 hp s
  have e1 : M.1 27 (p * 15 + s) = io (sk L p s) := a2.1
  have e2 : M.1 28 (p * 15 + s) = io (co L p s) := a2.2
  have hh : f_X5_hasPiece 14 (io p) M = io 1 := by
    rw [pieceC (hC.1 7 (by omega)) (by omega), if_pos (pos_io hp (by omega))]; rfl
  have key : ∀ k : Nat, k ≤ 2 → f_X2_valueAt 25 (io k) (io p) (io s) M = if io k = io 0 then some (io (sk L p s)) else if io k = io 1 then some (io (co L p s)) else some (io (sa L p s)) := by
    intro k hk
    unfold f_X2_valueAt
    simp only [lit, letv_eq, show rC 25 1 = 14 by decide, show rC 25 4 = 27 by decide, show rC 25 5 = 28 by decide, hh]
    rw [if_neg (by decide), if_neg (by rw [io_lt (by omega) (by omega)]; omega), if_pos (by rw [io_lt (by omega) (by omega)]; omega)]
    simp (disch := omega) only [io_mul, io_add, oob_f, Bool.false_eq_true, if_false, ix_io, e1, e2, abs_io]
    rfl
  exact ⟨key 0 (by omega), key 1 (by omega), key 2 (by omega)⟩
theorem skC {L : Lh} {M : Mem} {p s : Nat} (h : VC L M) (hp : p < L.1 7) (hs : s ≤ L.1 1) : f_X2_skinAt 25 (io p) (io s) M = some (io (sk L p s)) := by
  unfold f_X2_skinAt; rw [(vC h hp hs).1]; rfl
theorem saC {L : Lh} {M : Mem} {p s : Nat} (h : VC L M) (hp : p < L.1 7) (hs : s ≤ L.1 1) : f_X2_strainAt 25 (io p) (io s) M = some (io (sa L p s)) := by
  unfold f_X2_strainAt; rw [(vC h hp hs).2.2]; rfl
theorem fallC {L : Lh} {M : Mem} {p s : Nat} (h : VC L M) (hp : p < L.1 7) (hs : s < L.1 1) : f_X2_skinFall 25 (io p) (io s) M = some (io (sk L p s) - io (sk L p (s + 1))) := by
  unfold f_X2_skinFall
  simp only [lit, io_add]
  rw [skC h hp (by omega), skC h hp (by omega)]; rfl
theorem skR {L : Lh} {M : Mem} {p s : Nat} (h : VR L M) (hp : p < L.1 7) (hs : s ≤ L.1 1) : f_X11_skinOf (io p) (io s) M = some (io (sk L p s)) :=
  skinR (h.1.ok h.2.1) h.2.2.2.2 hp hs (by have := h.1.2.2.1.2.1; omega)
theorem coR {L : Lh} {M : Mem} {p s : Nat} (h : VR L M) (hp : p < L.1 7) (hs : s ≤ L.1 1) : f_X11_coreOf (io p) (io s) M = some (io (co L p s)) :=
  coreR (h.1.ok h.2.1) h.2.2.2.2 hp hs (by have := h.1.2.2.1.2.1; omega)
theorem saR {L : Lh} {M : Mem} {p s : Nat} (h : VR L M) (hp : p < L.1 7) (hs : s ≤ L.1 1) : f_X11_strainOf (io p) (io s) M = some (io (sa L p s)) := by
  have a2 := (h.2.2.2.2 p hp).1 s hs
  have hb := sk_le h.1 h.2.1 hp s
  exact rdSt (by have := h.1.2.2.1.2.2.2.2.2.2.2.1; omega) (by have := h.1.2.2.1.2.1; omega) a2.1 a2.2 hb.1 hb.2
theorem dropR {L : Lh} {M : Mem} {p s : Nat} (h : VR L M) (hp : p < L.1 7) (hs : s < L.1 1) : f_X11_dropOf (io p) (io s) M = some (io (sk L p s) - io (sk L p (s + 1))) := by
  unfold f_X11_dropOf
  simp only [lit, io_add]
  rw [skR h hp (by omega), skR h hp (by omega)]; rfl
theorem stepsV {L : Lh} {M : Mem} (h : VR L M) : f_X11_steps M = some (io (L.1 1)) := steps0 h.2.2.1
theorem piecesV {L : Lh} {M : Mem} (h : VR L M) : f_X11_pieces M = some (io (L.1 7)) := pieces0 h.2.2.1
theorem comesV {L : Lh} {M : Mem} {p : Nat} (h : VR L M) (hp : p < L.1 7) : f_X11_comes (io p) M = some (io (cm L p)) := comesR (c := cfN L) (h.1.ok h.2.1) h.2.2.2.1 hp
theorem ck_le {L : Lh} (hL : OkL L) (h0 : 0 < L.1 0) {p : Nat} (hp : p < L.1 7) : ∀ n, ck L p = some n → n ≤ L.1 1 := (run_ok (hL.ok h0) (L.1 1) p hp).2.2.1
theorem ck14 {L : Lh} (hL : OkL L) (h0 : 0 < L.1 0) {p : Nat} (hp : p < L.1 7) {n : Nat} (h : ck L p = some n) : n ≤ 14 := Nat.le_trans (ck_le hL h0 hp n h) hL.2.2.1.2.1
theorem max_more (x y : Int32) (M : Mem) : f_X11_moreOf x y M = f_max x y := by
  unfold f_X11_moreOf f_max
  by_cases h : x ≤ y
  · rw [if_pos h]
    by_cases h2 : x < y
    · rw [if_pos h2]
    · rw [if_neg h2]
      apply Int32.toInt_inj.mp
      have := Int32.le_iff_toInt_le.mp h
      have : ¬ x.toInt < y.toInt := fun q => h2 (Int32.lt_iff_toInt_lt.mpr q)
      omega
  · rw [if_neg h, if_neg (fun q => h (Int32.le_of_lt q))]
theorem or0 (x : Int32) : x ||| io 0 = x := Int32.or_zero
theorem add0 (x : Int32) : x + io 0 = x := Int32.add_zero x
theorem bit_step {f : Nat → Bool} {n : Nat} (hn : n < 31) : io (bN f (n + 1)) = if f n = true then io (bN f n) ||| (io 1 <<< (io n &&& io 31)) else io (bN f n) := by
  simp only [bN]
  by_cases h : f n = true
  · rw [if_pos h, if_pos h, io_bor hn]
  · rw [if_neg h, if_neg h]; rfl
theorem cnt_step {f : Nat → Bool} {n : Nat} : io (cN f (n + 1)) = if f n = true then io (cN f n) + io 1 else io (cN f n) := by
  simp only [cN]
  by_cases h : f n = true
  · rw [if_pos h, if_pos h, io_add]
  · rw [if_neg h, if_neg h]; rfl
/-! questions of a piece, a step, a lehr: the frame of each -/
theorem RelN.vc {L : Lh} {Mc Mr : Mem} (hN : RelN L Mc Mr) (h0 : 0 < L.1 0) : ∃ M', f_X10_followedCourse Mc = some M' ∧ RelN L M' Mr ∧ VC L M' ∧ KX Mc M' := by
  obtain ⟨M', h, hN', hT, hk⟩ := followedC hN h0
  exact ⟨M', h, hN', ⟨hN'.1, h0, hN'.2.1, hT⟩, hk⟩
theorem RelN.vr {L : Lh} {Mc Mr : Mem} (hN : RelN L Mc Mr) (h0 : 0 < L.1 0) : ∃ M', f_X11_laysNow Mr = some M' ∧ VR L M' ∧ KR Mr M' := by
  obtain ⟨hL, hC, hR, hF⟩ := hN
  obtain ⟨M', h, hn, hT, hk, hok⟩ := laysNowR hL h0 hR
  exact ⟨M', h, ⟨hL, h0, hR.congr (fun a ha => hk.1 a (by revert a; decide)), hn, hT⟩, hk⟩
theorem kr0 (M : Mem) : KR M (st M 0 0 0) := KR.refl.st0 (by decide)
/-- both go to their runs, and are asked -/
theorem both {L : Lh} {Mc Mr : Mem} {ρ : Type} (hX : RelX Mc Mr) (hN : RelN L Mc Mr) (h0 : 0 < L.1 0) (qc qr : Mem → Option (ρ × Mem)) (H : ∀ Mc Mr, VC L Mc → VR L Mr → ∃ r, qc Mc = some (r, Mc) ∧ qr Mr = some (r, Mr)) : ∃ (r : ρ) (Mc' Mr' : Mem), bnd (f_X10_followedCourse Mc) qc = some (r, Mc') ∧ bnd (f_X11_laysNow Mr) qr = some (r, Mr') ∧ Rel Mc' Mr' := by
  obtain ⟨M1, e1, hN1, hv1, hk1⟩ := hN.vc h0
  obtain ⟨M2, e2, hv2, hk2⟩ := hN.vr h0
  obtain ⟨r, q1, q2⟩ := H M1 M2 hv1 hv2
  refine ⟨r, M1, M2, ?_, ?_, Rel.ofX ((hX.kx hk1).kr hk2) (hN1.kr hk2)⟩
  · rw [e1]; exact q1
  · rw [e2]; exact q2
theorem opP {d : Int32} {fc fr : Int32 → Mem → Option (Int32 × Mem)} (qc qr : Int32 → Mem → Option (Int32 × Mem)) (ec : ∀ a M, fc a M = if f_X5_hasPiece 14 a M = 0 then some (d, M) else bnd (f_X10_followedCourse M) (qc a)) (er : ∀ a M, fr a M = bnd (f_X11_isPiece a.toInt64 (st M 0 0 0)) (fun r => if r = 0 then some (d, st M 0 0 0) else bnd (f_X11_laysNow (st M 0 0 0)) (qr a))) (H : ∀ L p Mc Mr, p < L.1 7 → VC L Mc → VR L Mr → ∃ r, qc (io p) Mc = some (r, Mc) ∧ qr (io p) Mr = some (r, Mr)) : ∀ (Mc Mr : Mem) (a1 : Int32), Rel Mc Mr → ∃ (r : Int32) (Mc' Mr' : Mem), fc a1 Mc = some (r, Mc') ∧ fr a1 Mr = some (r, Mr') ∧ Rel Mc' Mr' := by
  intro Mc Mr a h
  obtain ⟨hX, L, hN⟩ := h.split
  have hk := kr0 Mr
  have hN1 := hN.kr hk
  have h7 := hN.1.2.2.1.2.2.2.2.2.2.2.1
  rw [ec, er, pieceC (hN.2.1.1 7 (by omega)) (by omega), pieceR hN.1 hN1.2.2.1]
  simp only [bnd_s]
  rcases below a (L.1 7) with hb | ⟨p, hp, rfl, hp2⟩
  · rw [ite01, ite01, if_neg hb, if_neg hb]
    exact ⟨d, Mc, _, rfl, rfl, h.kr hk⟩
  · rw [ite01, ite01, if_pos (pos_io hp hp2), if_pos (pos_io hp hp2)]
    exact both (hX.kr hk) hN1 (hN.1.pos (i := 7) (by omega)) _ _ (fun Mc Mr h1 h2 => H L p Mc Mr hp h1 h2)
theorem opS {d : Int32} {fc fr : Int32 → Mem → Option (Int32 × Mem)} (qc qr : Int32 → Mem → Option (Int32 × Mem)) (ec : ∀ a M, fc a M = if f_X5_hasStep 14 a M = 0 then some (d, M) else bnd (f_X10_followedCourse M) (qc a)) (er : ∀ a M, fr a M = bnd (f_X11_isStep a.toInt64 (st M 0 0 0)) (fun r => if r = 0 then some (d, st M 0 0 0) else bnd (f_X11_laysNow (st M 0 0 0)) (qr a))) (H : ∀ L s Mc Mr, s ≤ L.1 1 → VC L Mc → VR L Mr → ∃ r, qc (io s) Mc = some (r, Mc) ∧ qr (io s) Mr = some (r, Mr)) : ∀ (Mc Mr : Mem) (a1 : Int32), Rel Mc Mr → ∃ (r : Int32) (Mc' Mr' : Mem), fc a1 Mc = some (r, Mc') ∧ fr a1 Mr = some (r, Mr') ∧ Rel Mc' Mr' := by
  intro Mc Mr a h
  obtain ⟨hX, L, hN⟩ := h.split
  have hk := kr0 Mr
  have hN1 := hN.kr hk
  have h7 := hN.1.2.2.1
  rw [ec, er, stepC (hN.2.1.1 0 (by omega)) (by omega) (hN.2.1.1 1 (by omega)) (by omega), stepR hN.1 hN1.2.2.1]
  simp only [bnd_s]
  by_cases h0 : 0 < L.1 0
  · rcases below a (L.1 1 + 1) with hb | ⟨p, hp, rfl, hp2⟩
    · have hb2 : ¬ (0 < L.1 0 ∧ 0 ≤ a.toInt ∧ a.toInt ≤ L.1 1) := fun q => hb ⟨q.2.1, by omega⟩
      rw [ite01, ite01, if_neg hb2, if_neg hb2]
      exact ⟨d, Mc, _, rfl, rfl, h.kr hk⟩
    · have hb2 : 0 < L.1 0 ∧ 0 ≤ (io p).toInt ∧ (io p).toInt ≤ L.1 1 := ⟨h0, pos_le (Nat.le_of_lt_succ hp) hp2⟩
      rw [ite01, ite01, if_pos hb2, if_pos hb2]
      exact both (hX.kr hk) hN1 h0 _ _ (fun Mc Mr h1 h2 => H L p Mc Mr (by omega) h1 h2)
  · have hb2 : ¬ (0 < L.1 0 ∧ 0 ≤ a.toInt ∧ a.toInt ≤ L.1 1) := fun q => h0 q.1
    rw [ite01, ite01, if_neg hb2, if_neg hb2]
    exact ⟨d, Mc, _, rfl, rfl, h.kr hk⟩
theorem opL {d : Int32} {fc fr : Mem → Option (Int32 × Mem)} (qc qr : Mem → Option (Int32 × Mem)) (ec : ∀ M, fc M = if f_X5_isTold 14 M = 0 then some (d, M) else bnd (f_X10_followedCourse M) qc) (er : ∀ M, fr M = bnd (f_X11_isLehr (st M 0 0 0)) (fun r => if r = 0 then some (d, st M 0 0 0) else bnd (f_X11_laysNow (st M 0 0 0)) qr)) (H : ∀ L Mc Mr, VC L Mc → VR L Mr → ∃ r, qc Mc = some (r, Mc) ∧ qr Mr = some (r, Mr)) : ∀ (Mc Mr : Mem), Rel Mc Mr → ∃ (r : Int32) (Mc' Mr' : Mem), fc Mc = some (r, Mc') ∧ fr Mr = some (r, Mr') ∧ Rel Mc' Mr' := by
  intro Mc Mr h
  obtain ⟨hX, L, hN⟩ := h.split
  have hk := kr0 Mr
  have hN1 := hN.kr hk
  have h7 := hN.1.2.2.1
  rw [ec, er, toldC (hN.2.1.1 0 (by omega)) (by omega), lehrR hN.1 hN1.2.2.1]
  simp only [bnd_s]
  by_cases h0 : 0 < L.1 0
  · rw [ite01, ite01, if_pos h0, if_pos h0]
    exact both (hX.kr hk) hN1 h0 _ _ (fun Mc Mr h1 h2 => H L Mc Mr h1 h2)
  · rw [ite01, ite01, if_neg h0, if_neg h0]
    exact ⟨d, Mc, _, rfl, rfl, h.kr hk⟩
