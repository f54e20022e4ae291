/-! QUESTIONS that need no course -/
def VLn (L : Lh) (M : Mem) : Prop := OkL L ∧ 0 < L.1 0 ∧ RpR 0 L M ∧ Rn (cfN L) M ∧ Ly L M
theorem laysV {L : Lh} {M : Mem} (hL : OkL L) (h0 : 0 < L.1 0) (hR : RpR 0 L M) : ∃ M', f_X11_lays M = some M' ∧ VLn L M' ∧ KR M M' := by
  obtain ⟨M1, hM1, hy, hk⟩ := laysR hL hR
  have hR1 := hR.congr (M' := M1) (fun a ha => hk.1 a (by revert a; decide))
  have hn : Rn (cfN L) M1 := mk_congr (Rn_of (nums := L.1) (pz := L.2.2.1) (tl := L.2.1) (d := 0) (sk := L.1 6) hL hR1 rfl rfl rfl hy.1.1 hy.1.2.1 hy.1.2.2.2.1 hL.2.2.1.2.2.2.2.2.2.1 hy.1.2.2.1 (by decide) hy.1.2.2.2.2 hL.2.2.1.2.2.2.2.2.2.1 (fun z hz => ⟨hy.2.1 z hz, Nat.le_trans (hL.2.2.2.1 z hz) (by decide)⟩) (fun p hp => ⟨rfl, (hy.2.2 p hp).1, (hy.2.2 p hp).2, rfl⟩)) (fun z s hz hs => ⟨by rw [if_pos hz], by simp⟩)
  exact ⟨M1, hM1, ⟨hL, h0, hR1, hn, hy⟩, hk⟩
theorem both2 {L : Lh} {Mc Mr : Mem} {ρ : Type} (hX : RelX Mc Mr) (hN : RelN L Mc Mr) (h0 : 0 < L.1 0) (qc : Option ρ) (qr : Mem → Option (ρ × Mem)) (H : ∀ Mr, VLn L Mr → ∃ r, qc = some r ∧ qr Mr = some (r, Mr)) : ∃ (r : ρ) (Mr' : Mem), qc = some r ∧ bnd (f_X11_lays Mr) qr = some (r, Mr') ∧ Rel Mc Mr' := by
  obtain ⟨M2, e2, hv2, hk2⟩ := laysV hN.1 h0 hN.2.2.1
  obtain ⟨r, q1, q2⟩ := H M2 hv2
  exact ⟨r, M2, q1, by rw [e2, bnd_s]; exact q2, Rel.ofX (hX.kr hk2) (hN.kr hk2)⟩
def ar (L : Lh) (z s : Nat) : Nat := airN (L.2.1 z + hot L (L.1 8) z s) (gst L (L.1 8) s)
theorem ar_le {L : Lh} (hL : OkL L) {z : Nat} (hz : z < L.1 6) (s : Nat) : ar L z s ≤ 20000 := by
  have h1 := airN_le (L.2.1 z + hot L (L.1 8) z s) (gst L (L.1 8) s)
  have h2 := hot_lt hL z s
  have h3 := hL.2.2.2.1 z hz
  unfold ar; omega
theorem airL {L : Lh} {M : Mem} {z s : Nat} (h : VLn L M) (hz : z < L.1 6) (hs : s < 15) : f_X11_airOf (io z) (io s) M = some (io (ar L z s)) := by
  obtain ⟨hL, h0, hR, -, hy⟩ := h
  have h6 := hL.2.2.1.2.2.2.2.2.2.1
  rw [airR_of hL hR hy.1.2.2.1 (by decide) hy.1.2.2.2.2 h6 (hy.2.1 z hz) (Nat.le_trans (hL.2.2.2.1 z hz) (by decide)) (by omega) hs, if_pos hz]
  unfold ar
  simp
theorem airC14 {L : Lh} {M : Mem} {z s : Nat} (hL : OkL L) (hC : RpC 14 L M) (hz : z < L.1 6) (hs : s < 15) : f_X1_airAt 13 (io z) (io s) (M.1 20 1) M = some (io (ar L z s)) := by
  have h6 := hL.2.2.1.2.2.2.2.2.2.1
  have h1 := hL.2.2.2.1 z hz
  have h2 := hot_lt hL z s
  have hb := bN_lt (gst L (L.1 8)) 15
  rw [show M.1 20 1 = io (bN (gst L (L.1 8)) 15) from hC.2.1.2, airC_of (P := 14) (A := 20) (tl := L.2.1 z) (ht := hot L (L.1 8) z s) (by decide) (by decide) (by decide) (by decide) (hC.2.2.1 z hz) (hC.2.2.2.2.2 z s (by omega) hs) (by omega) hs (by omega) (by omega), bN_tb, decide_eq_true hs, Bool.true_and]
  rfl
theorem airNowC {L : Lh} {M : Mem} {z s : Nat} (hL : OkL L) (hC : RpC 14 L M) (hz : z < L.1 6) (hs : s < 15) : f_X10_airNow (io z) (io s) M = some (io (ar L z s)) := by
  unfold f_X10_airNow
  rw [airC14 hL hC hz hs, bnd_s]
theorem op_3 : ∀ (Mc Mr : Mem) (a1 : Int32), Rel Mc Mr → ∃ (r : Int32) (Mr' : Mem), f_X10_fault a1 Mc = r ∧ f_X11_fault a1 Mr = some (r, Mr') ∧ Rel Mc Mr' := by
  intro Mc Mr a h
  have hF := h.2.1
  refine ⟨_, st Mr 0 0 0, rfl, ?_, h.kr (kr0 Mr)⟩
  unfold f_X10_fault f_X11_fault
  rw [letv_eq]
  by_cases c0 : a = 0
  · rw [if_pos c0, if_pos c0]
    have : (st Mr 0 0 0).1 0 14 = Mr.1 0 14 := by simp [st]
    rw [this, hF.1]
  · rw [if_neg c0, if_neg c0]
    by_cases c1 : a = 1
    · rw [if_pos c1, if_pos c1]
      have : (st Mr 0 0 0).1 0 15 = Mr.1 0 15 := by simp [st]
      rw [this, hF.2]
    · rw [if_neg c1, if_neg c1]
theorem op_4 : ∀ (Mc Mr : Mem) (a1 : Int32), Rel Mc Mr → ∃ (r : Int32) (Mr' : Mem), f_X10_zone a1 Mc = some r ∧ f_X11_zone a1 Mr = some (r, Mr') ∧ Rel Mc Mr' := by
  intro Mc Mr a h
  obtain ⟨hX, L, hN⟩ := h.split
  have hk := kr0 Mr
  have hN1 := hN.kr hk
  have h7 := hN.1.2.2.1
  unfold f_X10_zone f_X11_zone
  rw [letv_eq, zoneC (hN.2.1.1 6 (by omega)) (by omega), zoneR hN.1 hN1.2.2.1]
  rw [bnd_s, ite01, ite01]
  rcases below a (L.1 6) with hb | ⟨z, hz, rfl, hz2⟩
  · rw [if_neg hb, if_neg hb]
    exact ⟨_, _, rfl, rfl, h.kr hk⟩
  rw [if_pos (pos_io hz hz2), if_pos (pos_io hz hz2)]
  have e1 : Mc.1 15 z = io (L.2.1 z) := hN.2.1.2.2.1 z hz
  have e2 : (st Mr 0 0 0).1 8 z = io (L.2.1 z) := by
    have := hN1.2.2.1.2.2.1 z hz
    rw [show 7 * 0 + z = z by omega] at this
    exact this
  simp (disch := omega) only [oob_f, Bool.false_eq_true, if_false, ix_io, e1, e2]
  exact ⟨_, _, rfl, rfl, h.kr hk⟩
theorem op_5 : ∀ (Mc Mr : Mem) (a1 a2 : Int32), Rel Mc Mr → ∃ (r : Int32) (Mr' : Mem), f_X10_piece a1 a2 Mc = some r ∧ f_X11_piece a1 a2 Mr = some (r, Mr') ∧ Rel Mc Mr' := by
  intro Mc Mr a b h
  obtain ⟨hX, L, hN⟩ := h.split
  have hk := kr0 Mr
  have hN1 := hN.kr hk
  have h7 := hN.1.2.2.1
  unfold f_X10_piece f_X11_piece
  rw [letv_eq, pieceC (hN.2.1.1 7 (by omega)) (by omega), pieceR hN.1 hN1.2.2.1]
  rw [bnd_s, ite01, ite01]
  rcases below a (L.1 7) with hb | ⟨p, hp, rfl, hp2⟩
  · rw [if_neg hb, if_neg hb]
    exact ⟨_, _, rfl, rfl, h.kr hk⟩
  rw [if_pos (pos_io hp hp2), if_pos (pos_io hp hp2), in_eq, ite01]
  obtain ⟨e0, e1, e2, e3⟩ := hN.2.1.2.2.2.1 p hp
  have er : ∀ w, w < 4 → (st Mr 0 0 0).1 9 (4 * p + w) = io (L.2.2.1 p w) := fun w hw => by
    have := hN1.2.2.1.2.2.2.1 p w hp hw
    rw [show 24 * 0 + (4 * p + w) = 4 * p + w by omega] at this
    exact this
  have e600 : (3 : Int64).toInt = 3 := rfl
  have ez : (0 : Int64).toInt = 0 := rfl
  rcases below b 4 with hb | ⟨w, hw, rfl, hw2⟩
  · have hb2 : ¬ ((0 : Int64).toInt ≤ b.toInt64.toInt ∧ b.toInt64.toInt ≤ (3 : Int64).toInt) := by
      rw [e600, ez, Int32.toInt_toInt64]; omega
    rw [if_neg hb2]
    have hn : ∀ k : Nat, k < 4 → b ≠ io k := fun k hk q => hb (by rw [q]; exact pos_io hk (by omega))
    rw [if_neg (show ¬ b = 0 from hn 0 (by omega)), if_neg (show ¬ b = 1 from hn 1 (by omega)), if_neg (show ¬ b = 2 from hn 2 (by omega)), if_neg (show ¬ b = 3 from hn 3 (by omega))]
    exact ⟨_, _, rfl, rfl, h.kr hk⟩
  have hb2 : (0 : Int64).toInt ≤ (io w).toInt64.toInt ∧ (io w).toInt64.toInt ≤ (3 : Int64).toInt := by
    rw [e600, ez, Int32.toInt_toInt64, io_toInt hw2]; omega
  rw [if_pos hb2]
  simp (disch := omega) only [lit, io_mul, io_add, oob_f, Bool.false_eq_true, if_false, ix_io, er w hw]
  have hw4 : w = 0 ∨ w = 1 ∨ w = 2 ∨ w = 3 := by omega
  refine ⟨io (L.2.2.1 p w), st Mr 0 0 0, ?_, (by show some ((st Mr 0 0 0).1 9 (4 * p + w), st Mr 0 0 0) = _; rw [er w hw]), h.kr hk⟩
  rcases hw4 with rfl | rfl | rfl | rfl
  · rw [if_pos rfl]; exact congrArg some e0
  · rw [if_neg (by decide), if_pos rfl]; exact congrArg some e1
  · rw [if_neg (by decide), if_neg (by decide), if_pos rfl]; exact congrArg some e2
  · rw [if_neg (by decide), if_neg (by decide), if_neg (by decide), if_pos rfl]; exact congrArg some e3
/-- a zone and a step are asked -/
theorem opZS {d : Int32} {fc : Int32 → Int32 → Mem → Option Int32} {fr : Int32 → Int32 → Mem → Option (Int32 × Mem)} (qc : Int32 → Int32 → Mem → Option Int32) (qr : Int32 → Int32 → Mem → Option (Int32 × Mem)) (ec : ∀ a b M, fc a b M = if f_X5_hasZone 14 a M = 0 then some d else if f_X5_hasStep 14 b M = 0 then some d else qc a b M) (er : ∀ a b M, fr a b M = bnd (f_X11_isZone a (st M 0 0 0)) (fun r => if r = 0 then some (d, st M 0 0 0) else bnd (f_X11_isStep b.toInt64 (st M 0 0 0)) (fun r => if r = 0 then some (d, st M 0 0 0) else bnd (f_X11_lays (st M 0 0 0)) (qr a b)))) (H : ∀ L z s Mc Mr, z < L.1 6 → s ≤ L.1 1 → OkL L → RpC 14 L Mc → VLn L Mr → ∃ r, qc (io z) (io s) Mc = some r ∧ qr (io z) (io s) Mr = some (r, Mr)) : ∀ (Mc Mr : Mem) (a1 a2 : Int32), Rel Mc Mr → ∃ (r : Int32) (Mr' : Mem), fc a1 a2 Mc = some r ∧ fr a1 a2 Mr = some (r, Mr') ∧ Rel Mc Mr' := by
  intro Mc Mr a b h
  obtain ⟨hX, L, hN⟩ := h.split
  have hk := kr0 Mr
  have hN1 := hN.kr hk
  have h7 := hN.1.2.2.1
  rw [ec, er, zoneC (hN.2.1.1 6 (by omega)) (by omega), stepC (hN.2.1.1 0 (by omega)) (by omega) (hN.2.1.1 1 (by omega)) (by omega), zoneR hN.1 hN1.2.2.1, stepR hN.1 hN1.2.2.1]
  rw [bnd_s, bnd_s, ite01, ite01, ite01, ite01]
  rcases below a (L.1 6) with hb | ⟨z, hz, rfl, hz2⟩
  · rw [if_neg hb, if_neg hb]
    exact ⟨_, _, rfl, rfl, h.kr hk⟩
  rw [if_pos (pos_io hz hz2), if_pos (pos_io hz hz2)]
  rcases Classical.em (0 < L.1 0 ∧ 0 ≤ b.toInt ∧ b.toInt ≤ L.1 1) with hb | hb
  · rw [if_pos hb, if_pos hb]
    obtain ⟨s, hs, rfl, hs2⟩ := (below b (L.1 1 + 1)).resolve_left (fun q => q ⟨hb.2.1, by omega⟩)
    exact both2 (hX.kr hk) hN1 hb.1 _ _ (fun Mr hr => H L z s Mc Mr hz (by omega) hN.1 hN.2.1 hr)
  · rw [if_neg hb, if_neg hb]
    exact ⟨_, _, rfl, rfl, h.kr hk⟩
theorem opS2 {d : Int32} {fc : Int32 → Mem → Option Int32} {fr : Int32 → Mem → Option (Int32 × Mem)} (qc : Int32 → Mem → Option Int32) (qr : Int32 → Mem → Option (Int32 × Mem)) (ec : ∀ a M, fc a M = if f_X5_hasStep 14 a M = 0 then some d else qc a M) (er : ∀ a M, fr a M = bnd (f_X11_isStep a.toInt64 (st M 0 0 0)) (fun r => if r = 0 then some (d, st M 0 0 0) else bnd (f_X11_lays (st M 0 0 0)) (qr a))) (H : ∀ L s Mc Mr, s ≤ L.1 1 → OkL L → RpC 14 L Mc → VLn L Mr → ∃ r, qc (io s) Mc = some r ∧ qr (io s) Mr = some (r, Mr)) : ∀ (Mc Mr : Mem) (a1 : Int32), Rel Mc Mr → ∃ (r : Int32) (Mr' : Mem), fc a1 Mc = some r ∧ fr a1 Mr = some (r, Mr') ∧ Rel Mc Mr' := by
  intro Mc Mr b h
  obtain ⟨hX, L, hN⟩ := h.split
  have hk := kr0 Mr
  have hN1 := hN.kr hk
  have h7 := hN.1.2.2.1
  rw [ec, er, stepC (hN.2.1.1 0 (by omega)) (by omega) (hN.2.1.1 1 (by omega)) (by omega), stepR hN.1 hN1.2.2.1]
  rw [bnd_s, ite01, ite01]
  rcases Classical.em (0 < L.1 0 ∧ 0 ≤ b.toInt ∧ b.toInt ≤ L.1 1) with hb | hb
  · rw [if_pos hb, if_pos hb]
    obtain ⟨s, hs, rfl, hs2⟩ := (below b (L.1 1 + 1)).resolve_left (fun q => q ⟨hb.2.1, by omega⟩)
    exact both2 (hX.kr hk) hN1 hb.1 _ _ (fun Mr hr => H L s Mc Mr (by omega) hN.1 hN.2.1 hr)
  · rw [if_neg hb, if_neg hb]
    exact ⟨_, _, rfl, rfl, h.kr hk⟩
theorem opZ2 {d : Int32} {fc : Int32 → Mem → Option Int32} {fr : Int32 → Mem → Option (Int32 × Mem)} (qc : Int32 → Mem → Option Int32) (qr : Int32 → Mem → Option (Int32 × Mem)) (ec : ∀ a M, fc a M = if f_X5_hasZone 14 a M = 0 then some d else qc a M) (er : ∀ a M, fr a M = bnd (f_X11_isZone a (st M 0 0 0)) (fun r => if r = 0 then some (d, st M 0 0 0) else bnd (f_X11_lays (st M 0 0 0)) (qr a))) (H : ∀ L z Mc Mr, z < L.1 6 → OkL L → RpC 14 L Mc → VLn L Mr → ∃ r, qc (io z) Mc = some r ∧ qr (io z) Mr = some (r, Mr)) : ∀ (Mc Mr : Mem) (a1 : Int32), Rel Mc Mr → ∃ (r : Int32) (Mr' : Mem), fc a1 Mc = some r ∧ fr a1 Mr = some (r, Mr') ∧ Rel Mc Mr' := by
  intro Mc Mr a h
  obtain ⟨hX, L, hN⟩ := h.split
  have hk := kr0 Mr
  have hN1 := hN.kr hk
  have h7 := hN.1.2.2.1
  rw [ec, er, zoneC (hN.2.1.1 6 (by omega)) (by omega), zoneR hN.1 hN1.2.2.1]
  rw [bnd_s, ite01, ite01]
  rcases below a (L.1 6) with hb | ⟨z, hz, rfl, hz2⟩
  · rw [if_neg hb, if_neg hb]
    exact ⟨_, _, rfl, rfl, h.kr hk⟩
  rw [if_pos (pos_io hz hz2), if_pos (pos_io hz hz2)]
  exact both2 (hX.kr hk) hN1 (hN.1.pos (i := 6) (by omega)) _ _ (fun Mr hr => H L z Mc Mr hz hN.1 hN.2.1 hr)
theorem opL2 {d : Int32} {fc : Mem → Option Int32} {fr : Mem → Option (Int32 × Mem)} (qc : Mem → Option Int32) (qr : Mem → Option (Int32 × Mem)) (ec : ∀ M, fc M = if f_X5_isTold 14 M = 0 then some d else qc M) (er : ∀ M, fr M = bnd (f_X11_isLehr (st M 0 0 0)) (fun r => if r = 0 then some (d, st M 0 0 0) else bnd (f_X11_lays (st M 0 0 0)) qr)) (H : ∀ L Mc Mr, OkL L → RpC 14 L Mc → VLn L Mr → ∃ r, qc Mc = some r ∧ qr Mr = some (r, Mr)) : ∀ (Mc Mr : Mem), Rel Mc Mr → ∃ (r : Int32) (Mr' : Mem), fc Mc = some r ∧ fr Mr = some (r, Mr') ∧ Rel Mc Mr' := by
  intro Mc Mr h
  obtain ⟨hX, L, hN⟩ := h.split
  have hk := kr0 Mr
  have hN1 := hN.kr hk
  have h7 := hN.1.2.2.1
  rw [ec, er, toldC (hN.2.1.1 0 (by omega)) (by omega), lehrR hN.1 hN1.2.2.1]
  rw [bnd_s, ite01, ite01]
  by_cases h0 : 0 < L.1 0
  · rw [if_pos h0, if_pos h0]
    exact both2 (hX.kr hk) hN1 h0 _ _ (fun Mr hr => H L Mc Mr hN.1 hN.2.1 hr)
  · rw [if_neg h0, if_neg h0]
    exact ⟨_, _, rfl, rfl, h.kr hk⟩
theorem op_6 : ∀ (Mc Mr : Mem) (a1 a2 : Int32), Rel Mc Mr → ∃ (r : Int32) (Mr' : Mem), f_X10_air a1 a2 Mc = some r ∧ f_X11_air a1 a2 Mr = some (r, Mr') ∧ Rel Mc Mr' :=
  opZS (fun a b M => bnd (f_X1_airAt 13 a b (M.1 20 1) M) (fun r => some r)) (fun a b M => bnd (f_X11_airOf a b M) (fun r => some (r, M))) (fun _ _ _ => rfl) (fun _ _ _ => rfl) (fun L z s Mc Mr hz hs hL hC hr => by
    have hb := hL.2.2.1
    exact ⟨io (ar L z s), by rw [airC14 hL hC hz (by omega), bnd_s], by rw [airL hr hz (by omega), bnd_s]⟩)
theorem op_8 : ∀ (Mc Mr : Mem) (a1 a2 : Int32), Rel Mc Mr → ∃ (r : Int32) (Mr' : Mem), f_X10_inside a1 a2 Mc = some r ∧ f_X11_inside a1 a2 Mr = some (r, Mr') ∧ Rel Mc Mr' :=
  opZS (fun a b M => bnd (f_X5_piecesAt 14 a b M) (fun r => some r)) (fun a b M => bnd (f_X11_insideOf a b M) (fun r => some (r, M))) (fun _ _ _ => rfl) (fun _ _ _ => rfl) (fun L z s Mc Mr hz hs hL hC hr => by
    have hb := hL.2.2.1
    exact ⟨io (ins L (io z) s), by rw [insC hL hC (by omega), bnd_s], by rw [insR hL hr.2.1 hr.2.2.1 hr.2.2.2.1 (by omega), bnd_s]⟩)
theorem op_9 : ∀ (Mc Mr : Mem) (a1 : Int32), Rel Mc Mr → ∃ (r : Int32) (Mr' : Mem), f_X10_out a1 Mc = some r ∧ f_X11_out a1 Mr = some (r, Mr') ∧ Rel Mc Mr' :=
  opS2 (fun a M => bnd (f_X5_piecesAt 14 10 a M) (fun r => some r)) (fun a M => bnd (f_X11_insideOf 10 a M) (fun r => some (r, M))) (fun _ _ => rfl) (fun _ _ => rfl) (fun L s Mc Mr hs hL hC hr => by
    have hb := hL.2.2.1
    exact ⟨io (ins L 10 s), by rw [insC hL hC (by omega), bnd_s], by rw [insR hL hr.2.1 hr.2.2.1 hr.2.2.2.1 (by omega), bnd_s]⟩)
theorem op_7 : ∀ (Mc Mr : Mem) (a1 a2 : Int32), Rel Mc Mr → ∃ (r : Int32) (Mr' : Mem), f_X10_where a1 a2 Mc = some r ∧ f_X11_where a1 a2 Mr = some (r, Mr') ∧ Rel Mc Mr' := by
  intro Mc Mr a b h
  obtain ⟨hX, L, hN⟩ := h.split
  have hk := kr0 Mr
  have hN1 := hN.kr hk
  have h7 := hN.1.2.2.1
  unfold f_X10_where f_X11_where
  rw [letv_eq, pieceC (hN.2.1.1 7 (by omega)) (by omega), stepC (hN.2.1.1 0 (by omega)) (by omega) (hN.2.1.1 1 (by omega)) (by omega), thenR hN.1 hN1.2.2.1]
  rw [bnd_s, ite01, ite01, ite01]
  rcases below a (L.1 7) with hb | ⟨p, hp, rfl, hp2⟩
  · have hb2 : ¬ ((0 ≤ a.toInt ∧ a.toInt < L.1 7) ∧ 0 < L.1 0 ∧ 0 ≤ b.toInt ∧ b.toInt ≤ L.1 1) := fun q => hb q.1
    rw [if_neg hb, if_neg hb2]
    exact ⟨_, _, rfl, rfl, h.kr hk⟩
  rw [if_pos (pos_io hp hp2)]
  rcases Classical.em (0 < L.1 0 ∧ 0 ≤ b.toInt ∧ b.toInt ≤ L.1 1) with hb | hb
  · have hb2 : (0 ≤ (io p).toInt ∧ (io p).toInt < L.1 7) ∧ 0 < L.1 0 ∧ 0 ≤ b.toInt ∧ b.toInt ≤ L.1 1 := ⟨pos_io hp hp2, hb⟩
    rw [if_pos hb, if_pos hb2]
    obtain ⟨s, hs, rfl, hs2⟩ := (below b (L.1 1 + 1)).resolve_left (fun q => q ⟨hb.2.1, by omega⟩)
    exact both2 (hX.kr hk) hN1 hb.1 _ _ (fun Mr hr => ⟨pli (plc (cfN L) p s), by rw [place14 hN.1 hb.1 hN.2.1 hp (by omega), bnd_s], by rw [placeR (hN.1.ok hb.1) hr.2.2.2.1 hp (by omega), bnd_s]⟩)
  · have hb2 : ¬ ((0 ≤ (io p).toInt ∧ (io p).toInt < L.1 7) ∧ 0 < L.1 0 ∧ 0 ≤ b.toInt ∧ b.toInt ≤ L.1 1) := fun q => hb q.2
    rw [if_neg hb, if_neg hb2]
    exact ⟨_, _, rfl, rfl, h.kr hk⟩
theorem plc_out {L : Lh} (hL : OkL L) (h0 : 0 < L.1 0) (p s : Nat) : plc (cfN L) p s = 10 ↔ cm L p + L.1 6 * L.1 4 ≤ s := by
  have h6 := hL.2.2.1.2.2.2.2.2.2.1
  have h4 := (hL.2.1 h0).2
  show (if s < cm L p then 11 else if (s - cm L p) / L.1 4 < L.1 6 then (s - cm L p) / L.1 4 else 10) = 10 ↔ _
  have hd := Nat.le_div_iff_mul_le (x := L.1 6) (y := s - cm L p) (k := L.1 4) h4
  by_cases c : s < cm L p
  · rw [if_pos c]; omega
  · rw [if_neg c]
    by_cases c2 : (s - cm L p) / L.1 4 < L.1 6
    · rw [if_pos c2]
      have : ¬ L.1 6 * L.1 4 ≤ s - cm L p := fun q => by have := hd.mpr q; omega
      omega
    · rw [if_neg c2]
      have := hd.mp (by omega)
      omega
theorem op_10 : ∀ (Mc Mr : Mem) (a1 : Int32), Rel Mc Mr → ∃ (r : Int32) (Mr' : Mem), f_X10_leaves a1 Mc = some r ∧ f_X11_leaves a1 Mr = some (r, Mr') ∧ Rel Mc Mr' := by
  intro Mc Mr a h
  obtain ⟨hX, L, hN⟩ := h.split
  have hk := kr0 Mr
  have hN1 := hN.kr hk
  have h7 := hN.1.2.2.1
  unfold f_X10_leaves f_X11_leaves
  rw [letv_eq, pieceC (hN.2.1.1 7 (by omega)) (by omega), pieceR hN.1 hN1.2.2.1]
  rw [bnd_s, ite01, ite01]
  rcases below a (L.1 7) with hb | ⟨p, hp, rfl, hp2⟩
  · rw [if_neg hb, if_neg hb]
    exact ⟨_, _, rfl, rfl, h.kr hk⟩
  rw [if_pos (pos_io hp hp2), if_pos (pos_io hp hp2)]
  have h0 := hN.1.pos (i := 7) (by omega)
  refine both2 (hX.kr hk) hN1 h0 _ _ (fun Mr hr => ?_)
  have hcm : cm L p ≤ 14 := (hN.1.2.2.2.2.1 p hp).2.2.2
  have hzp : L.1 6 * L.1 4 ≤ 7 * 4 := Nat.mul_le_mul h7.2.2.2.2.2.2.1 h7.2.2.2.2.1
  have e1 : f_X5_leavingStep 14 (io p) Mc = some (if cm L p + L.1 6 * L.1 4 ≤ L.1 1 then io (cm L p + L.1 6 * L.1 4) else m1) := by
    unfold f_X5_leavingStep
    rw [pieceC (hN.2.1.1 7 (by omega)) (by omega), ite01, if_pos (pos_io hp hp2), show rC 14 12 = 19 by decide, hN.2.1.1 6 (by omega), hN.2.1.1 4 (by omega), hN.2.1.1 1 (by omega)]
    have e19 : Mc.1 19 p = io (cm L p) := (hN.2.1.2.2.2.1 p hp).2.2.2
    simp (disch := omega) only [oob_f, Bool.false_eq_true, if_false, ix_io, e19, letv_eq, io_mul, io_add]
    by_cases c : cm L p + L.1 6 * L.1 4 ≤ L.1 1
    · rw [if_neg (by rw [io_lt (by omega) (by omega)]; omega), if_pos c]
    · rw [if_pos (by rw [io_lt (by omega) (by omega)]; omega), if_neg c]; rfl
  have gR : ∀ i, i ≤ L.1 1 → ∀ K, L_X11_leaves_23 (io p) K (io i) Mr = if cm L p + L.1 6 * L.1 4 ≤ i then some (io i, Mr) else K (io (i + 1)) Mr := by
    intro i hi K
    unfold L_X11_leaves_23
    rw [steps0 hr.2.2.1, bnd_s, if_neg (by rw [io_lt (by omega) (by omega)]; omega), placeR (hN.1.ok h0) hr.2.2.2.1 hp (by omega)]
    simp only [bnd_s, lit, io_add]
    have hpl : plc (cfN L) p i < 2147483648 := by rcases plc_cases (cfN L) p i with e | e | e; omega; omega; exact Nat.lt_of_lt_of_le e (by show L.1 6 ≤ _; omega)
    by_cases c : cm L p + L.1 6 * L.1 4 ≤ i
    · rw [if_pos ((pli_10 hpl).mpr ((plc_out hN.1 h0 p i).mpr c)), if_pos c]
    · rw [if_neg (fun q => c ((plc_out hN.1 h0 p i).mp ((pli_10 hpl).mp q))), if_neg c]
  rw [e1, bnd_s]
  refine ⟨_, rfl, ?_⟩
  by_cases c : cm L p + L.1 6 * L.1 4 ≤ L.1 1
  · rw [if_pos c]
    refine up2 (fun i => io i) (fun _ => Mr) (cm L p + L.1 6 * L.1 4) rfl rfl (by omega) (fun i hi K => ?_) (fun K => ?_)
    · rw [gR i (by omega), if_neg (by omega)]
    · rw [gR _ c, if_pos (Nat.le_refl _)]
  · rw [if_neg c]
    refine up2 (fun i => io i) (fun _ => Mr) (L.1 1 + 1) rfl rfl (by omega) (fun i hi K => ?_) (fun K => ?_)
    · rw [gR i (by omega), if_neg (by omega)]
    · unfold L_X11_leaves_23
      rw [steps0 hr.2.2.1, bnd_s, if_pos (by rw [io_lt (by omega) (by omega)]; omega)]
      rfl
