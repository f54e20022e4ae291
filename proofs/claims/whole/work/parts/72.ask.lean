/-! the last questions of the course of now -/
def ins (L : Lh) (x : Int32) (s : Nat) : Nat := bN (fun p => decide (pli (plc (cfN L) p s) = x)) (L.1 7)
theorem insC {L : Lh} {M : Mem} {x : Int32} {s : Nat} (hL : OkL L) (hC : RpC 14 L M) (hs : s ≤ 20) : f_X5_piecesAt 14 x (io s) M = some (io (ins L x s)) := by
  have h7 := hL.2.2.1.2.2.2.2.2.2.2.1
  unfold f_X5_piecesAt
  refine up2 (fun i => io (bN (fun p => decide (pli (plc (cfN L) p s) = x)) i)) (fun i => io i) (L.1 7) rfl rfl (by omega) (fun i hi K => ?_) (fun K => ?_)
  · unfold L_X5_piecesAt_5
    rw [hC.1 7 (by omega), if_neg (by rw [io_le (by omega) (by omega)]; omega), place14 hL (hL.pos (i := 7) (by omega)) hC hi hs, bit_step (by omega)]
    simp only [bnd_s, letv_eq, lit, io_add, decide_eq_true_eq]
    by_cases c : pli (plc (cfN L) i s) = x
    · rw [if_pos c, if_pos c]
    · rw [if_neg c, if_neg c]
  · unfold L_X5_piecesAt_5
    rw [hC.1 7 (by omega), if_pos (by rw [io_le (by omega) (by omega)]; omega)]
    rfl
theorem insR {L : Lh} {M : Mem} {x : Int32} {s : Nat} (hL : OkL L) (h0 : 0 < L.1 0) (hR : RpR 0 L M) (hn : Rn (cfN L) M) (hs : s ≤ 20) : f_X11_insideOf x (io s) M = some (io (ins L x s)) := by
  have h7 := hL.2.2.1.2.2.2.2.2.2.2.1
  unfold f_X11_insideOf
  refine up2 (fun i => io (bN (fun p => decide (pli (plc (cfN L) p s) = x)) i)) (fun i => io i) (L.1 7) rfl rfl (by omega) (fun i hi K => ?_) (fun K => ?_)
  · unfold L_X11_insideOf_5
    rw [pieces0 hR]
    simp only [bnd_s]
    rw [if_neg (by rw [io_le (by omega) (by omega)]; omega), placeR (hL.ok h0) hn hi hs, bit_step (by omega)]
    simp only [bnd_s, letv_eq, lit, io_add, decide_eq_true_eq, or0]
    by_cases c : pli (plc (cfN L) i s) = x
    · rw [if_pos c, if_pos c]
    · rw [if_neg c, if_neg c]
  · unfold L_X11_insideOf_5
    rw [pieces0 hR]
    simp only [bnd_s]
    rw [if_pos (by rw [io_le (by omega) (by omega)]; omega)]
    rfl
theorem comeByC {L : Lh} {M : Mem} {s : Nat} (hL : OkL L) (hC : RpC 14 L M) (hs : s ≤ 20) : f_X5_comeBy 14 (io s) M = some (io (bN (fun p => decide (cm L p ≤ s)) (L.1 7))) := by
  have h7 := hL.2.2.1.2.2.2.2.2.2.2.1
  unfold f_X5_comeBy
  refine up2 (fun i => io (bN (fun p => decide (cm L p ≤ s)) i)) (fun i => io i) (L.1 7) rfl rfl (by omega) (fun i hi K => ?_) (fun K => ?_)
  · unfold L_X5_comeBy_4
    rw [hC.1 7 (by omega), if_neg (by rw [io_le (by omega) (by omega)]; omega), come14 hL hC hi (by omega), bit_step (by omega)]
    simp only [bnd_s, ite01, letv_eq, decide_eq_true_eq]
    by_cases c : cm L i ≤ s
    · rw [if_pos c, if_pos c]
      simp only [lit, io_add]
    · rw [if_neg c, if_neg c]
      simp only [lit, io_add]
  · unfold L_X5_comeBy_4
    rw [hC.1 7 (by omega), if_pos (by rw [io_le (by omega) (by omega)]; omega)]
def unk (L : Lh) (s p : Nat) : Bool := match ck L p with
  | none => true
  | some n => decide (s < n)
theorem unk_none {L : Lh} {s p : Nat} (e : ck L p = none) : unk L s p = true := by unfold unk; rw [e]
theorem unk_some {L : Lh} {s p n : Nat} (e : ck L p = some n) : unk L s p = decide (s < n) := by unfold unk; rw [e]
theorem uncrK {L : Lh} {M : Mem} {s : Nat} (h : VC L M) (hs : s ≤ 14) : f_X2_uncrackedAt 25 (io s) M = some (io (bN (unk L s) (L.1 7))) := uncrV h hs
theorem wholeR {L : Lh} {M : Mem} {p s : Nat} (h : VR L M) (hp : p < L.1 7) (hs : s ≤ 14) : f_X11_isWhole (io p) (io s) M = some (if unk L s p = true then 1 else 0) := by
  have hb := h.b
  unfold f_X11_isWhole
  simp (disch := omega) only [lit, nio1, oob_f, Bool.false_eq_true, if_false, ix_io]
  rw [(h.pc hp).1]
  cases e : ck L p with
  | none => rw [if_pos (by rw [oi_none]), unk_none e]; rfl
  | some n =>
    have := ck14 h.1 h.2.1 hp e
    rw [oi_some, if_neg (fun q => (io_m1 (a := n) (by omega)).mp q), unk_some e]
    by_cases c : n ≤ s
    · rw [if_pos (by rw [io_le (by omega) (by omega)]; exact c), if_neg (by simp; omega)]
    · rw [if_neg (by rw [io_le (by omega) (by omega)]; exact c), if_pos (by simp; omega)]
theorem op_20 : ∀ (Mc Mr : Mem) (a1 : Int32), Rel Mc Mr → ∃ (r : Int32) (Mc' Mr' : Mem), f_X10_whole a1 Mc = some (r, Mc') ∧ f_X11_whole a1 Mr = some (r, Mr') ∧ Rel Mc' Mr' := by
  intro Mc Mr a h
  obtain ⟨hX, L, hN⟩ := h.split
  have hk := kr0 Mr
  have hN1 := hN.kr hk
  have h7 := hN.1.2.2.1
  unfold f_X10_whole f_X11_whole
  rw [letv_eq, stepC (hN.2.1.1 0 (by omega)) (by omega) (hN.2.1.1 1 (by omega)) (by omega), stepR hN.1 hN1.2.2.1]
  rw [bnd_s, ite01, ite01]
  rcases Classical.em (0 < L.1 0 ∧ 0 ≤ a.toInt ∧ a.toInt ≤ L.1 1) with hb | hb
  · rw [if_pos hb, if_pos hb]
    obtain ⟨s, hs, rfl, hs2⟩ := (below a (L.1 1 + 1)).resolve_left (fun q => q ⟨hb.2.1, by omega⟩)
    rw [comeByC hN.1 hN.2.1 (by omega), bnd_s]
    refine both (hX.kr hk) hN1 hb.1 _ _ (fun Mc Mr hc hr => ⟨io (bN (fun p => decide (cm L p ≤ s) && unk L s p) (L.1 7)), ?_, ?_⟩)
    · rw [uncrK hc (by omega), bnd_s, io_and, bN_and]
    · refine up3 (fun i => io (bN (fun p => decide (cm L p ≤ s) && unk L s p) i)) (fun i => io i) (fun _ => Mr) (L.1 7) rfl rfl rfl (by omega) (fun i hi K => ?_) (fun K => ?_)
      · unfold L_X11_whole_25
        rw [piecesV hr]
        simp only [bnd_s]
        rw [if_neg (by rw [io_le (by omega) (by omega)]; omega), comeW hr hi (by omega), bit_step (by omega)]
        simp only [bnd_s, ite01]
        by_cases c : cm L i ≤ s
        · rw [if_pos c, wholeR hr hi (by omega)]
          simp only [bnd_s, ite01]
          by_cases c2 : unk L s i = true
          · rw [if_pos c2, if_pos (by rw [c2, decide_eq_true c]; rfl)]
            simp only [letv_eq, lit, io_add, or0]
          · rw [if_neg c2, if_neg (by rw [decide_eq_true c, Bool.true_and]; exact c2)]
            simp only [letv_eq, lit, io_add, or0]
        · rw [if_neg c, if_neg (by rw [decide_eq_false c, Bool.false_and]; exact Bool.false_ne_true)]
          simp only [lit, letv_eq, io_add, or0]
      · unfold L_X11_whole_25
        rw [piecesV hr]
        simp only [bnd_s]
        rw [if_pos (by rw [io_le (by omega) (by omega)]; omega)]
  · rw [if_neg hb, if_neg hb]
    exact ⟨_, Mc, _, rfl, rfl, h.kr hk⟩
theorem op_22 : ∀ (Mc Mr : Mem), Rel Mc Mr → ∃ (r : Int32) (Mc' Mr' : Mem), f_X10_good Mc = some (r, Mc') ∧ f_X11_good Mr = some (r, Mr') ∧ Rel Mc' Mr' := by
  intro Mc Mr h
  obtain ⟨hX, L, hN⟩ := h.split
  have hk := kr0 Mr
  have hN1 := hN.kr hk
  have h7 := hN.1.2.2.1
  unfold f_X10_good f_X11_good
  rw [letv_eq, toldC (hN.2.1.1 0 (by omega)) (by omega), lehrR hN.1 hN1.2.2.1]
  rw [bnd_s, ite01, ite01]
  by_cases h0 : 0 < L.1 0
  · rw [if_pos h0, if_pos h0, hN.2.1.1 1 (by omega), insC hN.1 hN.2.1 (by omega), bnd_s]
    refine both (hX.kr hk) hN1 h0 _ _ (fun Mc Mr hc hr => ⟨io (ins L 10 (L.1 1) &&& nev L), ?_, ?_⟩)
    · rw [neverV hc, bnd_s, io_and]
    · rw [stepsV hr, bnd_s, insR hr.1 hr.2.1 hr.2.2.1 hr.2.2.2.1 (by omega), bnd_s, soundV hr, bnd_s, io_and]
  · rw [if_neg h0, if_neg h0]
    exact ⟨_, Mc, _, rfl, rfl, h.kr hk⟩
/-! the zone in which most crack -/
def crI (L : Lh) (z : Nat) : Nat → Bool := fun p => match ck L p with | none => false | some s => decide (plc (cfN L) p s = z)
theorem op_27 : ∀ (Mc Mr : Mem), Rel Mc Mr → ∃ (r : Int32) (Mc' Mr' : Mem), f_X10_sore Mc = some (r, Mc') ∧ f_X11_sore Mr = some (r, Mr') ∧ Rel Mc' Mr' :=
  opL (fun M => bnd (f_X2_sorestZone 25 M) (fun r => some (r, M))) (fun M => lq4 (L_X11_sore_25) FU (-1) 0 0 M) (fun _ => rfl) (fun _ => rfl) (fun L Mc Mr hc hr => by
    have hb := hc.b
    have hpz : ∀ p s z, z < L.1 6 → ((pli (plc (cfN L) p s) = io z) ↔ plc (cfN L) p s = z) := fun p s z hz => by
      have e : pli z = io z := pli_io (by omega)
      rw [← e, pli_inj (by rcases plc_cases (cfN L) p s with q | q | q; omega; omega; exact Nat.lt_of_lt_of_le q (by show L.1 6 ≤ _; omega)) (by omega)]
    refine ⟨oi (ws (fun z => io (cN (crI L z) (L.1 7))) (L.1 6)), ?_, ?_⟩
    · have eI : ∀ z, z < L.1 6 → f_X2_crackingIn 25 (io z) Mc = some (io (cN (crI L z) (L.1 7))) := by
        intro z hz
        unfold f_X2_crackingIn
        refine up2 (fun i => io (cN (crI L z) i)) (fun i => io i) (L.1 7) rfl rfl (by omega) (fun i hi K => ?_) (fun K => ?_)
        · unfold L_X2_crackingIn_4
          rw [e25.1, e25.2.1, hc.num (by omega), if_neg (by rw [io_le (by omega) (by omega)]; omega)]
          simp (disch := omega) only [lit, nio1, oob_f, Bool.false_eq_true, if_false, ix_io, io_add]
          rw [(hc.pc hi).1, cnt_step]
          cases e : ck L i with
          | none =>
            rw [if_pos (by rw [oi_none]), if_neg (by unfold crI; rw [e]; exact Bool.false_ne_true)]
          | some s =>
            have hs := ck14 hc.1 hc.2.1 hi e
            rw [oi_some, if_neg (fun q => (io_m1 (a := s) (by omega)).mp q), place14 hc.1 hc.2.1 hc.2.2.1 hi (by omega)]
            simp only [bnd_s, io_add]
            by_cases c : plc (cfN L) i s = z
            · rw [if_pos ((hpz i s z hz).mpr c), if_pos (by unfold crI; rw [e]; exact decide_eq_true c)]
            · rw [if_neg (fun q => c ((hpz i s z hz).mp q)), if_neg (by unfold crI; rw [e]; simpa using c)]
        · unfold L_X2_crackingIn_4
          rw [e25.1, hc.num (by omega), if_pos (by rw [io_le (by omega) (by omega)]; omega)]
      have e : f_X2_sorestZone 25 Mc = some (oi (ws (fun z => io (cN (crI L z) (L.1 7))) (L.1 6))) := by
        unfold f_X2_sorestZone
        refine up3 (fun i => oi (ws (fun z => io (cN (crI L z) (L.1 7))) i)) (fun i => wv (fun z => io (cN (crI L z) (L.1 7))) (ws (fun z => io (cN (crI L z) (L.1 7))) i)) (fun i => io i) (L.1 6) rfl rfl rfl (by omega) (fun i hi K => ?_) (fun K => ?_)
        · unfold L_X2_sorestZone_6
          rw [e25.1, hc.num (by omega), if_neg (by rw [io_le (by omega) (by omega)]; omega), eI i hi, ws_step]
          simp only [bnd_s, lit, io_add]
          split
          · rfl
          · rfl
        · unfold L_X2_sorestZone_6
          rw [e25.1, hc.num (by omega), if_pos (by rw [io_le (by omega) (by omega)]; omega)]
      rw [e]; rfl
    · obtain ⟨x, y, z, w, ⟨rfl, -, rfl, rfl⟩, he⟩ := in4 (b := L_X11_sore_25) (fun i x y z w => x = oi (ws (fun z => io (cN (crI L z) (L.1 7))) i) ∧ y = wv (fun z => io (cN (crI L z) (L.1 7))) (ws (fun z => io (cN (crI L z) (L.1 7))) i) ∧ z = io i ∧ w = Mr) (fun x _ _ w => some (x, w)) (L.1 6) (x := -1) (y := 0) (z := 0) (w := Mr) ⟨rfl, rfl, rfl, rfl⟩ (by omega) (fun i x y z w hi h => by
          obtain ⟨rfl, rfl, rfl, rfl⟩ := h
          refine ⟨_, _, _, _, ⟨rfl, rfl, rfl, rfl⟩, fun K => ?_⟩
          unfold L_X11_sore_25
          rw [show w.1 0 25 = io (L.1 6) from hr.2.2.2.1.1.2.2.2.2.1, if_neg (by rw [io_le (by omega) (by omega)]; omega), ws_step]
          refine up3 (fun j => io (cN (crI L i) j)) (fun j => io j) (fun _ => w) (L.1 7) rfl rfl rfl (by omega) (fun j hj K2 => ?_) (fun K2 => ?_)
          · unfold L_X11_sore_39
            rw [piecesV hr]
            simp only [bnd_s]
            rw [if_neg (by rw [io_le (by omega) (by omega)]; omega)]
            simp (disch := omega) only [lit, nio1, oob_f, Bool.false_eq_true, if_false, ix_io, io_add]
            rw [(hr.pc hj).1, cnt_step]
            cases e : ck L j with
            | none =>
              rw [if_pos (by rw [oi_none]), if_neg (by unfold crI; rw [e]; exact Bool.false_ne_true)]
              simp only [letv_eq, Nat.add_zero]
            | some s =>
              have hs := ck14 hc.1 hc.2.1 hj e
              rw [oi_some, if_neg (fun q => (io_m1 (a := s) (by omega)).mp q), placeR (hr.1.ok hr.2.1) hr.2.2.2.1 hj (by omega)]
              simp only [bnd_s, letv_eq, Nat.add_zero, io_add]
              by_cases c : plc (cfN L) j s = i
              · rw [if_pos ((hpz j s i hi).mpr c), if_pos (by unfold crI; rw [e]; exact decide_eq_true c)]
              · rw [if_neg (fun q => c ((hpz j s i hi).mp q)), if_neg (by unfold crI; rw [e]; simpa using c)]
          · unfold L_X11_sore_39
            rw [piecesV hr]
            simp only [bnd_s]
            rw [if_pos (by rw [io_le (by omega) (by omega)]; omega)]
            simp only [lit, io_add]
            by_cases c : io (cN (crI L i) (L.1 7)) ≤ wv (fun z => io (cN (crI L z) (L.1 7))) (ws (fun z => io (cN (crI L z) (L.1 7))) i)
            · rw [if_neg (fun q => Int32.not_lt.mpr c q), if_pos c]
            · rw [if_pos (Int32.not_le.mp c), if_neg c]; rfl) (fun x y z w h K => by
          obtain ⟨rfl, rfl, rfl, rfl⟩ := h
          unfold L_X11_sore_25
          rw [show w.1 0 25 = io (L.1 6) from hr.2.2.2.1.1.2.2.2.2.1, if_pos (by rw [io_le (by omega) (by omega)]; omega)])
      exact he)
/-! the coolest -/
def ls (f : Nat → Nat) (g : Nat → Bool) : Nat → Option Nat
  | 0 => none
  | n + 1 => if g n = true then (match ls f g n with | none => some (f n) | some b => if b ≤ f n then some b else some (f n)) else ls f g n
theorem ls_none {f : Nat → Nat} {g : Nat → Bool} : ∀ {n : Nat}, (∀ i, i < n → g i = false) → ls f g n = none
  | 0, _ => rfl
  | n + 1, h => by
    simp only [ls]
    rw [h n (by omega)]
    exact ls_none (fun i hi => h i (by omega))
theorem ls_le {f : Nat → Nat} {g : Nat → Bool} {k : Nat} : ∀ {n b : Nat}, (∀ i, f i ≤ k) → ls f g n = some b → b ≤ k
  | 0, b, _, h => by cases h
  | n + 1, b, hf, h => by
    have hfn := hf n
    simp only [ls] at h
    by_cases c : g n = true
    · rw [if_pos c] at h
      cases e : ls f g n with
      | none => rw [e] at h; cases h; omega
      | some x =>
        rw [e] at h
        have := ls_le hf e
        simp only at h
        split at h <;> cases h <;> omega
    · rw [if_neg c] at h
      exact ls_le hf h
theorem op_37 : ∀ (Mc Mr : Mem) (a1 : Int32), Rel Mc Mr → ∃ (r : Int32) (Mc' Mr' : Mem), f_X10_least a1 Mc = some (r, Mc') ∧ f_X11_least a1 Mr = some (r, Mr') ∧ Rel Mc' Mr' :=
  opP (fun a M => bnd (f_X2_leastSkin 25 a M) (fun r => some (r, M))) (fun a M => bnd (f_X11_comes a M) (fun r8 => lq3 (L_X11_least_29 a) FU (-1) r8 M)) (fun _ _ => rfl) (fun _ _ => rfl) (fun L p Mc Mr hp hc hr => by
    have hb := hc.b
    have hk := fun s => (sk_le hc.1 hc.2.1 hp s).1
    refine ⟨oi (ls (sk L p) (fun s => decide (cm L p ≤ s)) (L.1 1 + 1)), ?_, ?_⟩
    · have e : f_X2_leastSkin 25 (io p) Mc = some (oi (ls (sk L p) (fun s => decide (cm L p ≤ s)) (L.1 1 + 1))) := by
        unfold f_X2_leastSkin
        refine up2 (fun i => oi (ls (sk L p) (fun s => decide (cm L p ≤ s)) i)) (fun i => io i) (L.1 1 + 1) rfl rfl (by omega) (fun i hi K => ?_) (fun K => ?_)
        · unfold L_X2_leastSkin_4
          rw [e25.1, hc.num (by omega), if_neg (by rw [io_lt (by omega) (by omega)]; omega), skC hc hp (by omega)]
          simp only [bnd_s]
          rw [comeV hc hp (by omega)]
          simp only [bnd_s, ite01, ls, decide_eq_true_eq]
          by_cases c : cm L p ≤ i
          · rw [if_pos c, if_pos c]
            simp only [lit, nio1, io_add]
            cases e : ls (sk L p) (fun s => decide (cm L p ≤ s)) i with
            | none => rw [if_pos (by rw [oi_none])]; rfl
            | some b =>
              have hbk := ls_le hk e
              have hki := hk i
              rw [oi_some, if_neg (fun q => (io_m1 (a := b) (by omega)).mp q)]
              by_cases c2 : b ≤ sk L p i
              · rw [if_pos (by rw [io_le (by omega) (by omega)]; exact c2)]
                simp only [if_pos c2]; rfl
              · rw [if_neg (by rw [io_le (by omega) (by omega)]; exact c2)]
                simp only [if_neg c2]; rfl
          · rw [if_neg c, if_neg c]
            simp only [lit, io_add]
        · unfold L_X2_leastSkin_4
          rw [e25.1, hc.num (by omega), if_pos (by rw [io_lt (by omega) (by omega)]; omega)]
      rw [e]; rfl
    · have hcm : cm L p ≤ 14 := (hc.1.2.2.2.2.1 p hp).2.2.2
      rw [comesV hr hp]
      simp only [bnd_s]
      have hz : ∀ n, n ≤ cm L p → ls (sk L p) (fun s => decide (cm L p ≤ s)) n = none := fun n hn => ls_none (fun i hi => decide_eq_false (by omega))
      by_cases cc : cm L p ≤ L.1 1
      · refine up3 (fun i => oi (ls (sk L p) (fun s => decide (cm L p ≤ s)) (cm L p + i))) (fun i => io (cm L p + i)) (fun _ => Mr) (L.1 1 + 1 - cm L p) (by rw [Nat.add_zero, hz _ (Nat.le_refl _)]; rfl) rfl rfl (by omega) (fun i hi K => ?_) (fun K => ?_)
        · unfold L_X11_least_29
          rw [stepsV hr]
          simp only [bnd_s]
          rw [if_neg (by rw [io_lt (by omega) (by omega)]; omega), skR hr hp (by omega), ← Nat.add_assoc]
          simp only [bnd_s, lit, nio1, io_add, letv_eq, ls, decide_eq_true_eq]
          rw [if_pos (by omega : cm L p ≤ cm L p + i)]
          cases e : ls (sk L p) (fun s => decide (cm L p ≤ s)) (cm L p + i) with
          | none => rw [if_pos (by rw [oi_none])]; rfl
          | some b =>
            have hbk := ls_le hk e
            have hki := hk (cm L p + i)
            rw [oi_some, if_neg (fun q => (io_m1 (a := b) (by omega)).mp q)]
            unfold f_X11_lessOf
            by_cases c2 : b ≤ sk L p (cm L p + i)
            · simp only [if_pos c2]
              by_cases c3 : sk L p (cm L p + i) ≤ b
              · rw [if_pos (by rw [io_le (by omega) (by omega)]; exact c3), show sk L p (cm L p + i) = b by omega]; rfl
              · rw [if_neg (by rw [io_le (by omega) (by omega)]; exact c3)]; rfl
            · simp only [if_neg c2]
              rw [if_pos (by rw [io_le (by omega) (by omega)]; omega)]; rfl
        · unfold L_X11_least_29
          rw [stepsV hr]
          simp only [bnd_s]
          rw [if_pos (by rw [io_lt (by omega) (by omega)]; omega), show cm L p + (L.1 1 + 1 - cm L p) = L.1 1 + 1 by omega]
      · refine up3 (fun _ => m1) (fun i => io (cm L p)) (fun _ => Mr) 0 rfl rfl rfl (by omega) (fun i hi K => absurd hi (Nat.not_lt_zero _)) (fun K => ?_)
        unfold L_X11_least_29
        rw [stepsV hr]
        simp only [bnd_s]
        rw [if_pos (by rw [io_lt (by omega) (by omega)]; omega), hz _ (by omega)]; rfl)
theorem op_30 : ∀ (Mc Mr : Mem) (a1 a2 : Int32), Rel Mc Mr → ∃ (r : Int32) (Mc' Mr' : Mem), f_X10_cool a1 a2 Mc = some (r, Mc') ∧ f_X11_cool a1 a2 Mr = some (r, Mr') ∧ Rel Mc' Mr' := by
  intro Mc Mr a b h
  obtain ⟨hX, L, hN⟩ := h.split
  have hk := kr0 Mr
  have hN1 := hN.kr hk
  have h7 := hN.1.2.2.1
  unfold f_X10_cool f_X11_cool
  rw [letv_eq, pieceC (hN.2.1.1 7 (by omega)) (by omega), pieceR hN.1 hN1.2.2.1]
  rw [bnd_s, ite01, ite01]
  rcases below a (L.1 7) with hb | ⟨p, hp, rfl, hp2⟩
  · rw [if_neg hb, if_neg hb]
    exact ⟨_, Mc, _, rfl, rfl, h.kr hk⟩
  rw [if_pos (pos_io hp hp2), if_pos (pos_io hp hp2), in_eq, ite01]
  rcases below b 601 with hb | ⟨n, hn, rfl, hn2⟩
  · have e600 : (600 : Int64).toInt = 600 := rfl
    have e0 : (0 : Int64).toInt = 0 := rfl
    have hb2 : ¬ ((0 : Int64).toInt ≤ b.toInt64.toInt ∧ b.toInt64.toInt ≤ (600 : Int64).toInt) := by
      rw [e600, e0, Int32.toInt_toInt64]; omega
    rw [if_neg hb2]
    by_cases hb3 : b < 0
    · rw [if_pos hb3]
      exact ⟨_, Mc, _, rfl, rfl, h.kr hk⟩
    · have hb4 : ¬ b ≤ 600 := fun q => by
        have q1 := Int32.le_iff_toInt_le.mp q
        have q2 := Int32.le_iff_toInt_le.mp (Int32.not_lt.mp hb3)
        have e1 : (600 : Int32).toInt = 600 := rfl
        have e2 : (0 : Int32).toInt = 0 := rfl
        omega
      rw [if_neg hb3, if_neg hb4]
      exact ⟨_, Mc, _, rfl, rfl, h.kr hk⟩
  have hb2 : (0 : Int64).toInt ≤ (io n).toInt64.toInt ∧ (io n).toInt64.toInt ≤ (600 : Int64).toInt := by
    have e600 : (600 : Int64).toInt = 600 := rfl
    have e0 : (0 : Int64).toInt = 0 := rfl
    rw [e600, e0, Int32.toInt_toInt64, io_toInt hn2]; omega
  rw [if_pos hb2, if_neg (by rw [show (0 : Int32) = io 0 from rfl, io_lt (by omega) (by omega)]; omega), if_pos (by rw [show (600 : Int32) = io 600 from rfl, io_le (by omega) (by omega)]; omega)]
  refine both (hX.kr hk) hN1 (hN.1.pos (i := 7) (by omega)) _ _ (fun Mc Mr hc hr => ?_)
  rw [comesV hr hp]
  simp only [bnd_s]
  have hkk := fun s => (sk_le hc.1 hc.2.1 hp s).1
  have hcm : cm L p ≤ 14 := (hc.1.2.2.2.2.1 p hp).2.2.2
  have gC : ∀ i, i ≤ L.1 1 → ∀ K, L_X2_firstStepAtMost_2 25 (io p) (io n) Mc K (io i) = if cm L p ≤ i ∧ sk L p i ≤ n then some (io i) else K (io (i + 1)) := by
    intro i hi K
    unfold L_X2_firstStepAtMost_2
    have := hkk i
    rw [e25.1, hc.num (by omega), if_neg (by rw [io_lt (by omega) (by omega)]; omega), comeV hc hp (by omega)]
    simp only [bnd_s, ite01]
    by_cases c : cm L p ≤ i
    · rw [if_pos c, skC hc hp hi]
      simp only [bnd_s, lit, io_add]
      by_cases c2 : sk L p i ≤ n
      · rw [if_neg (by rw [io_lt (by omega) (by omega)]; omega), if_pos ⟨c, c2⟩]
      · rw [if_pos (by rw [io_lt (by omega) (by omega)]; omega), if_neg (fun q => c2 q.2)]
    · rw [if_neg c, if_neg (fun q => c q.1)]
      simp only [lit, io_add]
  have gR : ∀ i, i ≤ L.1 1 → ∀ K, L_X11_cool_39 (io p) (io n) K (io i) Mr = if sk L p i ≤ n then some (io i, Mr) else K (io (i + 1)) Mr := by
    intro i hi K
    unfold L_X11_cool_39
    have := hkk i
    rw [stepsV hr, bnd_s, if_neg (by rw [io_lt (by omega) (by omega)]; omega), skR hr hp hi]
    simp only [bnd_s, lit, io_add]
    by_cases c2 : sk L p i ≤ n
    · rw [if_neg (by rw [io_lt (by omega) (by omega)]; omega), if_pos c2]
    · rw [if_pos (by rw [io_lt (by omega) (by omega)]; omega), if_neg c2]
  have eC : ∀ K, L_X2_firstStepAtMost_2 25 (io p) (io n) Mc K (io (L.1 1 + 1)) = some (-1) := by
    intro K
    unfold L_X2_firstStepAtMost_2
    rw [e25.1, hc.num (by omega), if_pos (by rw [io_lt (by omega) (by omega)]; omega)]
  have eR : ∀ i, L.1 1 < i → i ≤ 20 → ∀ K, L_X11_cool_39 (io p) (io n) K (io i) Mr = some (-1, Mr) := by
    intro i hi hi2 K
    unfold L_X11_cool_39
    rw [stepsV hr, bnd_s, if_pos (by rw [io_lt (by omega) (by omega)]; omega)]
  rcases first_or (fun i => cm L p ≤ i ∧ sk L p i ≤ n) (L.1 1 + 1) with ha | ⟨m, hm, hm1, hm2⟩
  · refine ⟨-1, ?_, ?_⟩
    · have e : f_X2_firstStepAtMost 25 (io p) (io n) Mc = some (-1) := by
        unfold f_X2_firstStepAtMost
        exact up1 (fun i => io i) (L.1 1 + 1) rfl (by omega) (fun i hi K => by rw [gC i (by omega), if_neg (ha i hi)]) (fun K => eC K)
      rw [e, bnd_s]
    · by_cases cc : cm L p ≤ L.1 1
      · refine up2 (fun i => io (cm L p + i)) (fun _ => Mr) (L.1 1 + 1 - cm L p) rfl rfl (by omega) (fun i hi K => ?_) (fun K => ?_)
        · rw [gR _ (by omega), if_neg (fun q => ha (cm L p + i) (by omega) ⟨by omega, q⟩), Nat.add_assoc]
        · rw [show cm L p + (L.1 1 + 1 - cm L p) = L.1 1 + 1 by omega, eR _ (by omega) (by omega)]
      · exact up2 (fun i => io (cm L p)) (fun _ => Mr) 0 rfl rfl (by omega) (fun i hi K => absurd hi (Nat.not_lt_zero _)) (fun K => by rw [eR _ (by omega) (by omega)])
  · refine ⟨io m, ?_, ?_⟩
    · have e : f_X2_firstStepAtMost 25 (io p) (io n) Mc = some (io m) := by
        unfold f_X2_firstStepAtMost
        exact up1 (fun i => io i) m rfl (by omega) (fun i hi K => by rw [gC i (by omega), if_neg (hm2 i hi)]) (fun K => by rw [gC m (by omega), if_pos hm1])
      rw [e, bnd_s]
    · refine up2 (fun i => io (cm L p + i)) (fun _ => Mr) (m - cm L p) rfl rfl (by omega) (fun i hi K => ?_) (fun K => ?_)
      · rw [gR _ (by omega), if_neg (fun q => hm2 (cm L p + i) (by omega) ⟨by omega, q⟩), Nat.add_assoc]
      · have := hm1.1
        rw [show cm L p + (m - cm L p) = m by omega, gR m (by omega), if_pos hm1.2]
theorem op_39 : ∀ (Mc Mr : Mem) (a1 a2 : Int32), Rel Mc Mr → ∃ (r : Int32) (Mc' Mr' : Mem), f_X10_drop a1 a2 Mc = some (r, Mc') ∧ f_X11_drop a1 a2 Mr = some (r, Mr') ∧ Rel Mc' Mr' := by
  intro Mc Mr a b h
  obtain ⟨hX, L, hN⟩ := h.split
  have hk := kr0 Mr
  have hN1 := hN.kr hk
  have h7 := hN.1.2.2.1
  unfold f_X10_drop f_X11_drop
  rw [letv_eq, pieceC (hN.2.1.1 7 (by omega)) (by omega), pieceR hN.1 hN1.2.2.1, aheadC (hN.2.1.1 0 (by omega)) (by omega) (hN.2.1.1 1 (by omega)) (by omega), aheadR hN.1 hN1.2.2.1]
  rw [bnd_s, bnd_s, ite01, ite01, ite01, ite01]
  rcases below a (L.1 7) with hb | ⟨p, hp, rfl, hp2⟩
  · rw [if_neg hb, if_neg hb]
    exact ⟨_, Mc, _, rfl, rfl, h.kr hk⟩
  have h0 := hN.1.pos (i := 7) (by omega)
  rw [if_pos (pos_io hp hp2), if_pos (pos_io hp hp2)]
  rcases below b (L.1 1) with hb | ⟨s, hs, rfl, hs2⟩
  · have hb2 : ¬ (0 < L.1 0 ∧ 0 ≤ b.toInt ∧ b.toInt < L.1 1) := fun q => hb q.2
    rw [if_neg hb, if_neg hb2]
    exact ⟨_, Mc, _, rfl, rfl, h.kr hk⟩
  have hb2 : 0 < L.1 0 ∧ 0 ≤ (io s).toInt ∧ (io s).toInt < L.1 1 := ⟨h0, pos_io hs hs2⟩
  rw [if_pos hb2, if_pos (pos_io hs hs2)]
  exact both (hX.kr hk) hN1 h0 _ _ (fun Mc Mr hc hr => ⟨io (sk L p s) - io (sk L p (s + 1)), by rw [fallC hc hp hs, bnd_s], by rw [dropR hr hp hs, bnd_s]⟩)
theorem op_45 : ∀ (Mc Mr : Mem) (a1 : Int32), Rel Mc Mr → ∃ (r : Int32) (Mc' Mr' : Mem), f_X10_tally a1 Mc = some (r, Mc') ∧ f_X11_tally a1 Mr = some (r, Mr') ∧ Rel Mc' Mr' := by
  intro Mc Mr b h
  obtain ⟨hX, L, hN⟩ := h.split
  have hk := kr0 Mr
  have hN1 := hN.kr hk
  have h7 := hN.1.2.2.1
  unfold f_X10_tally f_X11_tally
  rw [letv_eq, toldC (hN.2.1.1 0 (by omega)) (by omega), lehrR hN.1 hN1.2.2.1]
  rw [bnd_s, ite01, ite01]
  rcases (Classical.em (0 < L.1 0)).symm with h0 | h0
  · rw [if_neg h0, if_neg h0]
    exact ⟨_, Mc, _, rfl, rfl, h.kr hk⟩
  rw [if_pos h0, if_pos h0, in_eq, ite01]
  rcases below b 3 with hb | ⟨n, hn, rfl, hn2⟩
  · have e600 : (2 : Int64).toInt = 2 := rfl
    have e0 : (0 : Int64).toInt = 0 := rfl
    have hb2 : ¬ ((0 : Int64).toInt ≤ b.toInt64.toInt ∧ b.toInt64.toInt ≤ (2 : Int64).toInt) := by
      rw [e600, e0, Int32.toInt_toInt64]; omega
    rw [if_neg hb2]
    by_cases hb3 : b < 0
    · rw [if_pos hb3]
      exact ⟨_, Mc, _, rfl, rfl, h.kr hk⟩
    · have hb4 : ¬ b ≤ 2 := fun q => by
        have q1 := Int32.le_iff_toInt_le.mp q
        have q2 := Int32.le_iff_toInt_le.mp (Int32.not_lt.mp hb3)
        have e1 : (2 : Int32).toInt = 2 := rfl
        have e2 : (0 : Int32).toInt = 0 := rfl
        omega
      rw [if_neg hb3, if_neg hb4]
      exact ⟨_, Mc, _, rfl, rfl, h.kr hk⟩
  have hb2 : (0 : Int64).toInt ≤ (io n).toInt64.toInt ∧ (io n).toInt64.toInt ≤ (2 : Int64).toInt := by
    have e600 : (2 : Int64).toInt = 2 := rfl
    have e0 : (0 : Int64).toInt = 0 := rfl
    rw [e600, e0, Int32.toInt_toInt64, io_toInt hn2]; omega
  rw [if_pos hb2, if_neg (by rw [show (0 : Int32) = io 0 from rfl, io_lt (by omega) (by omega)]; omega), if_pos (by rw [show (2 : Int32) = io 2 from rfl, io_le (by omega) (by omega)]; omega)]
  refine both (hX.kr hk) hN1 h0 _ _ (fun Mc Mr hc hr => ⟨io (cN (fun p => decide (io (run (cfN L) (L.1 1) p).2.2.2.2.2 = io n)) (L.1 7)), ?_, ?_⟩)
  · have hb := hc.b
    have e : f_X2_countOfReason 25 (io n) Mc = some (io (cN (fun p => decide (io (run (cfN L) (L.1 1) p).2.2.2.2.2 = io n)) (L.1 7))) := by
      unfold f_X2_countOfReason
      refine up2 (fun i => io (cN (fun p => decide (io (run (cfN L) (L.1 1) p).2.2.2.2.2 = io n)) i)) (fun i => io i) (L.1 7) rfl rfl (by omega) (fun i hi K => ?_) (fun K => ?_)
      · unfold L_X2_countOfReason_4
        rw [e25.1, e25.2.2.1, hc.num (by omega), if_neg (by rw [io_le (by omega) (by omega)]; omega)]
        simp (disch := omega) only [oob_f, Bool.false_eq_true, if_false, ix_io]
        rw [(hc.pc hi).2.1, cnt_step]
        simp only [lit, io_add, decide_eq_true_eq]
        split
        · rfl
        · rfl
      · unfold L_X2_countOfReason_4
        rw [e25.1, hc.num (by omega), if_pos (by rw [io_le (by omega) (by omega)]; omega)]
    rw [e, bnd_s]
  · have hb := hc.b
    refine up3 (fun i => io (cN (fun p => decide (io (run (cfN L) (L.1 1) p).2.2.2.2.2 = io n)) i)) (fun i => io i) (fun _ => Mr) (L.1 7) rfl rfl rfl (by omega) (fun i hi K => ?_) (fun K => ?_)
    · unfold L_X11_tally_35
      rw [piecesV hr, bnd_s, if_neg (by rw [io_le (by omega) (by omega)]; omega)]
      simp (disch := omega) only [oob_f, Bool.false_eq_true, if_false, ix_io]
      rw [(hr.pc hi).2.1, cnt_step]
      simp only [lit, letv_eq, io_add, decide_eq_true_eq, Nat.add_zero]
      split
      · rfl
      · rfl
    · unfold L_X11_tally_35
      rw [piecesV hr, bnd_s, if_pos (by rw [io_le (by omega) (by omega)]; omega)]
