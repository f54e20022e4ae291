/-! more questions that need no course -/
theorem op_35 : ∀ (Mc Mr : Mem) (a1 a2 : Int32), Rel Mc Mr → ∃ (r : Int32) (Mr' : Mem), f_X10_fall a1 a2 Mc = some r ∧ f_X11_fall a1 a2 Mr = some (r, Mr') ∧ Rel Mc Mr' := by
  intro Mc Mr a b h
  obtain ⟨hX, L, hN⟩ := h.split
  have hk := kr0 Mr
  have hN1 := hN.kr hk
  have h7 := hN.1.2.2.1
  unfold f_X10_fall f_X11_fall
  rw [letv_eq, zoneC (hN.2.1.1 6 (by omega)) (by omega), zoneC (hN.2.1.1 6 (by omega)) (by omega), stepC (hN.2.1.1 0 (by omega)) (by omega) (hN.2.1.1 1 (by omega)) (by omega), zoneR hN.1 hN1.2.2.1, stepR hN.1 hN1.2.2.1]
  rw [bnd_s, bnd_s, ite01, ite01, ite01, ite01, ite01]
  rcases below a (L.1 6) with hb | ⟨z, hz, rfl, hz2⟩
  · rw [if_neg hb, if_neg hb]
    exact ⟨_, _, rfl, rfl, h.kr hk⟩
  rw [if_pos (pos_io hz hz2), if_pos (pos_io hz hz2), show ix 5 = 5 from rfl, show (st Mr 0 0 0).1 7 5 = io (L.1 6) from numR hN1.2.2.1 (by omega), show oob 5 40 = false from rfl]
  simp only [Bool.false_eq_true, if_false]
  rw [show io z + 1 = io (z + 1) from io_add z 1, show io (L.1 6) - 1 = io (L.1 6 - 1) from io_sub (b := 1) (by omega)]
  by_cases c : z + 1 < L.1 6
  · have ne : ¬ io z = io (L.1 6 - 1) := by rw [io_inj (by omega) (by omega)]; omega
    rw [if_pos (pos_io c (by omega)), if_neg ne]
    rcases Classical.em (0 < L.1 0 ∧ 0 ≤ b.toInt ∧ b.toInt ≤ L.1 1) with hb | hb
    · rw [if_pos hb, if_pos hb]
      obtain ⟨s, hs, rfl, hs2⟩ := (below b (L.1 1 + 1)).resolve_left (fun q => q ⟨hb.2.1, by omega⟩)
      refine both2 (hX.kr hk) hN1 hb.1 _ _ (fun Mr hr => ⟨io (ar L z s) - io (ar L (z + 1) s), ?_, ?_⟩)
      · unfold f_X10_airFall
        rw [airNowC hN.1 hN.2.1 hz (by omega), bnd_s, show io z + (1 : Int32) = io (z + 1) from io_add z 1, airNowC hN.1 hN.2.1 c (by omega), bnd_s, bnd_s]
      · unfold f_X11_fallOf
        rw [airL hr hz (by omega), bnd_s, show io z + (1 : Int32) = io (z + 1) from io_add z 1, airL hr c (by omega), bnd_s, bnd_s]
    · rw [if_neg hb, if_neg hb]
      exact ⟨_, _, rfl, rfl, h.kr hk⟩
  · have hb2 : ¬ (0 ≤ (io (z + 1)).toInt ∧ (io (z + 1)).toInt < L.1 6) := by rw [io_toInt (by omega)]; omega
    rw [if_neg hb2, if_pos (by congr 1; omega)]
    exact ⟨_, _, rfl, rfl, h.kr hk⟩
theorem op_34 : ∀ (Mc Mr : Mem) (a1 : Int32), Rel Mc Mr → ∃ (r : Int32) (Mr' : Mem), f_X10_oven a1 Mc = some r ∧ f_X11_oven a1 Mr = some (r, Mr') ∧ Rel Mc Mr' :=
  opS2 (fun a M => lq2 (L_X10_oven_21 a M) FU (-1) 0) (fun a M => lq3 (L_X11_oven_25 a) FU (-1) 0 M) (fun _ _ => rfl) (fun _ _ => rfl) (fun L s Mc Mr hs hL hC hr => by
    have hb := hL.2.2.1
    refine ⟨oi (mo (fun z => ar L z s) (fun _ => true) (L.1 6)), ?_, ?_⟩
    · refine up2 (fun i => oi (mo (fun z => ar L z s) (fun _ => true) i)) (fun i => io i) (L.1 6) rfl rfl (by omega) (fun i hi K => ?_) (fun K => ?_)
      · unfold L_X10_oven_21
        rw [hC.1 6 (by omega), if_neg (by rw [io_le (by omega) (by omega)]; omega)]
        simp only [lit, nio1, io_add, mo, if_true]
        cases e : mo (fun z => ar L z s) (fun _ => true) i with
        | none => rw [if_pos (by rw [oi_none])]; rfl
        | some b =>
          have hbl := mo_lt e
          rw [oi_some, if_neg (fun q => (io_m1 (a := b) (by omega)).mp q), airNowC hL hC hi (by omega), airNowC hL hC (by omega) (by omega)]
          simp only [bnd_s]
          have h1 := ar_le hL hi s
          have h2 := ar_le hL (z := b) (by omega) s
          by_cases c2 : ar L i s ≤ ar L b s
          · rw [if_pos (by rw [io_le (by omega) (by omega)]; exact c2)]
            simp only [if_pos c2]; rfl
          · rw [if_neg (by rw [io_le (by omega) (by omega)]; exact c2)]
            simp only [if_neg c2]; rfl
      · unfold L_X10_oven_21
        rw [hC.1 6 (by omega), if_pos (by rw [io_le (by omega) (by omega)]; omega)]
    · refine up3 (fun i => oi (mo (fun z => ar L z s) (fun _ => true) i)) (fun i => io i) (fun _ => Mr) (L.1 6) rfl rfl rfl (by omega) (fun i hi K => ?_) (fun K => ?_)
      · unfold L_X11_oven_25
        rw [hr.2.2.2.2.1.2.2.2.1, if_neg (by rw [io_le (by omega) (by omega)]; omega)]
        simp only [lit, nio1, io_add, mo, if_true]
        cases e : mo (fun z => ar L z s) (fun _ => true) i with
        | none => rw [if_pos (by rw [oi_none])]; rfl
        | some b =>
          have hbl := mo_lt e
          rw [oi_some, if_neg (fun q => (io_m1 (a := b) (by omega)).mp q), airL hr hi (by omega), airL hr (by omega) (by omega)]
          simp only [bnd_s]
          have h1 := ar_le hL hi s
          have h2 := ar_le hL (z := b) (by omega) s
          by_cases c2 : ar L i s ≤ ar L b s
          · rw [if_pos (by rw [io_le (by omega) (by omega)]; exact c2)]
            simp only [if_pos c2]; rfl
          · rw [if_neg (by rw [io_le (by omega) (by omega)]; exact c2)]
            simp only [if_neg c2]; rfl
      · unfold L_X11_oven_25
        rw [hr.2.2.2.2.1.2.2.2.1, if_pos (by rw [io_le (by omega) (by omega)]; omega)])
/-- the first of the most, of the machine's numbers -/
def mi (f : Nat → Int32) : Nat → Option Nat
  | 0 => none
  | n + 1 => match mi f n with
    | none => some n
    | some b => if f n ≤ f b then some b else some n
theorem mi_lt {f : Nat → Int32} : ∀ {n b : Nat}, mi f n = some b → b < n
  | 0, b, h => by cases h
  | n + 1, b, h => by
    simp only [mi] at h
    cases e : mi f n with
    | none => rw [e] at h; simp only at h; cases h; omega
    | some x =>
      rw [e] at h
      have := mi_lt e
      simp only at h
      split at h <;> cases h <;> omega
theorem mi_none {f : Nat → Int32} {n : Nat} (e : mi f n = none) : mi f (n + 1) = some n := by simp only [mi]; rw [e]
theorem mi_some {f : Nat → Int32} {n b : Nat} (e : mi f n = some b) : mi f (n + 1) = if f n ≤ f b then some b else some n := by simp only [mi]; rw [e]
theorem op_36 : ∀ (Mc Mr : Mem) (a1 : Int32), Rel Mc Mr → ∃ (r : Int32) (Mr' : Mem), f_X10_cliff a1 Mc = some r ∧ f_X11_cliff a1 Mr = some (r, Mr') ∧ Rel Mc Mr' :=
  opS2 (fun a M => lq2 (L_X10_cliff_21 a M) FU (-1) 0) (fun a M => lq3 (L_X11_cliff_25 a) FU (-1) 0 M) (fun _ _ => rfl) (fun _ _ => rfl) (fun L s Mc Mr hs hL hC hr => by
    have hb := hL.2.2.1
    have fC : ∀ z, z + 1 < L.1 6 → f_X10_airFall (io z) (io s) Mc = some (io (ar L z s) - io (ar L (z + 1) s)) := fun z hz => by
      unfold f_X10_airFall
      rw [airNowC hL hC (by omega) (by omega), bnd_s, show io z + (1 : Int32) = io (z + 1) from io_add z 1, airNowC hL hC hz (by omega), bnd_s]
    have fR : ∀ z, z + 1 < L.1 6 → f_X11_fallOf (io z) (io s) Mr = some (io (ar L z s) - io (ar L (z + 1) s)) := fun z hz => by
      unfold f_X11_fallOf
      rw [airL hr (by omega) (by omega), bnd_s, show io z + (1 : Int32) = io (z + 1) from io_add z 1, airL hr hz (by omega), bnd_s]
    refine ⟨oi (mi (fun z => io (ar L z s) - io (ar L (z + 1) s)) (L.1 6 - 1)), ?_, ?_⟩
    · refine up2 (fun i => oi (mi (fun z => io (ar L z s) - io (ar L (z + 1) s)) i)) (fun i => io i) (L.1 6 - 1) rfl rfl (by omega) (fun i hi K => ?_) (fun K => ?_)
      · unfold L_X10_cliff_21
        simp only [lit, nio1, io_add]
        rw [hC.1 6 (by omega), if_neg (by rw [io_le (by omega) (by omega)]; omega)]
        cases e : mi (fun z => io (ar L z s) - io (ar L (z + 1) s)) i with
        | none => rw [if_pos (by rw [oi_none]), mi_none e]; rfl
        | some b =>
          have hbl := mi_lt e
          rw [oi_some, if_neg (fun q => (io_m1 (a := b) (by omega)).mp q), fC i (by omega), fC b (by omega), mi_some e]
          simp only [bnd_s]
          split
          · rfl
          · rfl
      · unfold L_X10_cliff_21
        simp only [lit, nio1, io_add]
        rw [hC.1 6 (by omega), if_pos (by rw [io_le (by omega) (by omega)]; omega)]
    · refine up3 (fun i => oi (mi (fun z => io (ar L z s) - io (ar L (z + 1) s)) i)) (fun i => io i) (fun _ => Mr) (L.1 6 - 1) rfl rfl rfl (by omega) (fun i hi K => ?_) (fun K => ?_)
      · unfold L_X11_cliff_25
        simp only [lit, nio1, io_add]
        rw [hr.2.2.2.2.1.2.2.2.1, if_neg (by rw [io_le (by omega) (by omega)]; omega)]
        cases e : mi (fun z => io (ar L z s) - io (ar L (z + 1) s)) i with
        | none => rw [if_pos (by rw [oi_none]), mi_none e]; rfl
        | some b =>
          have hbl := mi_lt e
          rw [oi_some, if_neg (fun q => (io_m1 (a := b) (by omega)).mp q), fR i (by omega), fR b (by omega), mi_some e]
          simp only [bnd_s]
          split
          · rfl
          · rfl
      · unfold L_X11_cliff_25
        simp only [lit, nio1, io_add]
        rw [hr.2.2.2.2.1.2.2.2.1, if_pos (by rw [io_le (by omega) (by omega)]; omega)])
theorem ins_lt {L : Lh} (hL : OkL L) (x : Int32) (s : Nat) : ins L x s < 256 :=
  Nat.lt_of_lt_of_le (bN_lt _ _) (Nat.pow_le_pow_right (n := 2) (by decide) (by have := hL.2.2.1.2.2.2.2.2.2.2.1; omega : L.1 7 ≤ 8))
def ps (f : Nat → Nat) : Nat → Int32
  | 0 => io 0
  | n + 1 => ps f n + io (f n) * (io (f n) - io 1) / io 2
theorem op_32 : ∀ (Mc Mr : Mem) (a1 : Int32), Rel Mc Mr → ∃ (r : Int32) (Mr' : Mem), f_X10_pairs a1 Mc = some r ∧ f_X11_pairs a1 Mr = some (r, Mr') ∧ Rel Mc Mr' :=
  opS2 (fun a M => lq2 (L_X10_pairs_21 a M) FU 0 0) (fun a M => lq3 (L_X11_pairs_25 a) FU 0 0 M) (fun _ _ => rfl) (fun _ _ => rfl) (fun L s Mc Mr hs hL hC hr => by
    have hb := hL.2.2.1
    refine ⟨ps (fun z => pop (ins L (io z) s)) (L.1 6), ?_, ?_⟩
    · refine up2 (fun i => ps (fun z => pop (ins L (io z) s)) i) (fun i => io i) (L.1 6) rfl rfl (by omega) (fun i hi K => ?_) (fun K => ?_)
      · unfold L_X10_pairs_21
        rw [hC.1 6 (by omega), if_neg (by rw [io_le (by omega) (by omega)]; omega), insC hL hC (by omega)]
        simp only [bnd_s, letv_eq, bitc (ins_lt hL (io i) s), lit, io_add]
        rfl
      · unfold L_X10_pairs_21
        rw [hC.1 6 (by omega), if_pos (by rw [io_le (by omega) (by omega)]; omega)]
    · refine up3 (fun i => ps (fun z => pop (ins L (io z) s)) i) (fun i => io i) (fun _ => Mr) (L.1 6) rfl rfl rfl (by omega) (fun i hi K => ?_) (fun K => ?_)
      · unfold L_X11_pairs_25
        rw [hr.2.2.2.2.1.2.2.2.1, if_neg (by rw [io_le (by omega) (by omega)]; omega), insR hL hr.2.1 hr.2.2.1 hr.2.2.2.1 (by omega)]
        simp only [bnd_s]
        rw [sizc (ins_lt hL (io i) s)]
        simp only [bnd_s, letv_eq, lit, io_add]
        rfl
      · unfold L_X11_pairs_25
        rw [hr.2.2.2.2.1.2.2.2.1, if_pos (by rw [io_le (by omega) (by omega)]; omega)])
def mx (f : Nat → Nat) : Nat → Nat
  | 0 => 0
  | n + 1 => max (mx f n) (f n)
theorem mx_le {f : Nat → Nat} {k : Nat} : ∀ {n : Nat}, mx f n ≤ k ↔ ∀ i, i < n → f i ≤ k
  | 0 => ⟨fun _ i hi => absurd hi (Nat.not_lt_zero _), fun _ => Nat.zero_le _⟩
  | n + 1 => by
    simp only [mx]
    rw [Nat.max_le, mx_le]
    exact ⟨fun h i hi => by
      by_cases e : i = n
      · subst e; exact h.2
      · exact h.1 i (by omega), fun h => ⟨fun i hi => h i (by omega), h n (by omega)⟩⟩
theorem mx_swap (g : Nat → Nat → Nat) (n m : Nat) : mx (fun i => mx (fun j => g i j) m) n = mx (fun j => mx (fun i => g i j) n) m := by
  apply Nat.le_antisymm
  · rw [mx_le]; intro i hi
    rw [mx_le]; intro j hj
    exact Nat.le_trans (mx_le.mp (Nat.le_refl (mx (fun i => g i j) n)) i hi) (mx_le.mp (Nat.le_refl (mx (fun j => mx (fun i => g i j) n) m)) j hj)
  · rw [mx_le]; intro j hj
    rw [mx_le]; intro i hi
    exact Nat.le_trans (mx_le.mp (Nat.le_refl (mx (fun j => g i j) m)) j hj) (mx_le.mp (Nat.le_refl (mx (fun i => mx (fun j => g i j) m) n)) i hi)
theorem max_io {a b : Nat} (ha : a < 2147483648) (hb : b < 2147483648) : f_max (io a) (io b) = io (max a b) := by
  unfold f_max
  by_cases h : a < b
  · rw [if_pos ((io_lt ha hb).mpr h)]; congr 1; omega
  · rw [if_neg (fun q => h ((io_lt ha hb).mp q))]; congr 1; omega
theorem op_33 : ∀ (Mc Mr : Mem), Rel Mc Mr → ∃ (r : Int32) (Mr' : Mem), f_X10_crowd Mc = some r ∧ f_X11_crowd Mr = some (r, Mr') ∧ Rel Mc Mr' :=
  opL2 (fun M => lq2 (L_X10_crowd_20 M) FU 0 0) (fun M => lq3 (L_X11_crowd_23) FU 0 0 M) (fun _ => rfl) (fun _ => rfl) (fun L Mc Mr hL hC hr => by
    have hb := hL.2.2.1
    have hg : ∀ z s, pop (ins L (io z) s) ≤ 8 := fun z s => pop_le _
    have hm : ∀ f : Nat → Nat, (∀ i, f i ≤ 8) → ∀ n, mx f n ≤ 8 := fun f hf n => mx_le.mpr (fun i _ => hf i)
    refine ⟨io (mx (fun z => mx (fun s => pop (ins L (io z) s)) (L.1 1 + 1)) (L.1 6)), ?_, ?_⟩
    · refine up2 (fun i => io (mx (fun z => mx (fun s => pop (ins L (io z) s)) (L.1 1 + 1)) i)) (fun i => io i) (L.1 6) rfl rfl (by omega) (fun i hi K => ?_) (fun K => ?_)
      · unfold L_X10_crowd_20
        rw [hC.1 6 (by omega), if_neg (by rw [io_le (by omega) (by omega)]; omega)]
        have h1 := hm (fun z => mx (fun s => pop (ins L (io z) s)) (L.1 1 + 1)) (fun z => hm _ (fun s => hg z s) _) i
        refine up2 (fun j => io (max (mx (fun z => mx (fun s => pop (ins L (io z) s)) (L.1 1 + 1)) i) (mx (fun s => pop (ins L (io i) s)) j))) (fun j => io j) (L.1 1 + 1) (by simp only [mx]; rw [Nat.max_eq_left (Nat.zero_le _)]) rfl (by omega) (fun j hj K2 => ?_) (fun K2 => ?_)
        · unfold L_X10_crowd_36
          have h2 := hm (fun s => pop (ins L (io i) s)) (fun s => hg i s) j
          have h3 := hg i j
          rw [hC.1 1 (by omega), if_neg (by rw [io_lt (by omega) (by omega)]; omega), insC hL hC (by omega)]
          simp only [bnd_s, letv_eq, bitc (ins_lt hL (io i) j), lit, io_add]
          rw [max_io (by omega) (by omega)]
          simp only [mx]
          rw [Nat.max_assoc]
        · unfold L_X10_crowd_36
          rw [hC.1 1 (by omega), if_pos (by rw [io_lt (by omega) (by omega)]; omega)]
          simp only [lit, io_add]; rfl
      · unfold L_X10_crowd_20
        rw [hC.1 6 (by omega), if_pos (by rw [io_le (by omega) (by omega)]; omega)]
    · rw [mx_swap]
      refine up3 (fun i => io (mx (fun s => mx (fun z => pop (ins L (io z) s)) (L.1 6)) i)) (fun i => io i) (fun _ => Mr) (L.1 1 + 1) rfl rfl rfl (by omega) (fun i hi K => ?_) (fun K => ?_)
      · unfold L_X11_crowd_23
        rw [steps0 hr.2.2.1, bnd_s, if_neg (by rw [io_lt (by omega) (by omega)]; omega)]
        have h1 := hm (fun s => mx (fun z => pop (ins L (io z) s)) (L.1 6)) (fun s => hm _ (fun z => hg z s) _) i
        refine up3 (fun j => io (max (mx (fun s => mx (fun z => pop (ins L (io z) s)) (L.1 6)) i) (mx (fun z => pop (ins L (io z) i)) j))) (fun j => io j) (fun _ => Mr) (L.1 6) (by simp only [mx]; rw [Nat.max_eq_left (Nat.zero_le _)]) rfl rfl (by omega) (fun j hj K2 => ?_) (fun K2 => ?_)
        · unfold L_X11_crowd_33
          have h2 := hm (fun z => pop (ins L (io z) i)) (fun z => hg z i) j
          have h3 := hg j i
          rw [hr.2.2.2.2.1.2.2.2.1, if_neg (by rw [io_le (by omega) (by omega)]; omega), insR hL hr.2.1 hr.2.2.1 hr.2.2.2.1 (by omega)]
          simp only [bnd_s]
          rw [sizc (ins_lt hL (io j) i)]
          simp only [bnd_s, letv_eq, lit, io_add, max_more]
          rw [max_io (by omega) (by omega)]
          simp only [mx]
          rw [Nat.max_assoc]
        · unfold L_X11_crowd_33
          rw [hr.2.2.2.2.1.2.2.2.1, if_pos (by rw [io_le (by omega) (by omega)]; omega)]
          simp only [lit, io_add]; rfl
      · unfold L_X11_crowd_23
        rw [steps0 hr.2.2.1, bnd_s, if_pos (by rw [io_lt (by omega) (by omega)]; omega)])
theorem op_42 : ∀ (Mc Mr : Mem) (a1 : Int32), Rel Mc Mr → ∃ (r : Int32) (Mr' : Mem), f_X10_coming a1 Mc = some r ∧ f_X11_coming a1 Mr = some (r, Mr') ∧ Rel Mc Mr' := by
  intro Mc Mr b h
  obtain ⟨hX, L, hN⟩ := h.split
  have hk := kr0 Mr
  have hN1 := hN.kr hk
  have h7 := hN.1.2.2.1
  unfold f_X10_coming f_X11_coming
  rw [letv_eq, stepC (hN.2.1.1 0 (by omega)) (by omega) (hN.2.1.1 1 (by omega)) (by omega), stepR hN.1 hN1.2.2.1]
  rw [bnd_s, ite01, ite01]
  rcases Classical.em (0 < L.1 0 ∧ 0 ≤ b.toInt ∧ b.toInt ≤ L.1 1) with hb | hb
  · rw [if_pos hb, if_pos hb]
    obtain ⟨s, hs, rfl, hs2⟩ := (below b (L.1 1 + 1)).resolve_left (fun q => q ⟨hb.2.1, by omega⟩)
    refine ⟨io (bN (fun p => decide (cm L p = s)) (L.1 7)), st Mr 0 0 0, ?_, ?_, h.kr hk⟩
    · have e : f_X5_comingAt 14 (io s) Mc = some (io (bN (fun p => decide (cm L p = s)) (L.1 7))) := by
        unfold f_X5_comingAt
        have e2 : f_X5_comeBy 14 (io s - io 1) Mc = some (io (bN (fun p => decide (cm L p < s)) (L.1 7))) := by
          rcases Nat.eq_zero_or_pos s with e0 | e0
          · subst e0
            rw [show io 0 - io 1 = m1 from rfl]
            unfold f_X5_comeBy
            refine up2 (fun i => io (bN (fun p => decide (cm L p < 0)) i)) (fun i => io i) (L.1 7) rfl rfl (by omega) (fun i hi K => ?_) (fun K => ?_)
            · unfold L_X5_comeBy_4
              have ec : f_X5_hasCome 14 (io i) m1 Mc = some 0 := by
                have h3 := (hN.1.2.2.2.2.1 i hi).2.2.2
                have e19 : Mc.1 19 i = io (L.2.2.1 i 3) := (hN.2.1.2.2.2.1 i hi).2.2.2
                unfold f_X5_hasCome
                rw [pieceC (hN.2.1.1 7 (by omega)) (by omega), ite01, if_pos (pos_io hi (by omega)), show rC 14 12 = 19 by decide]
                simp (disch := omega) only [oob_f, Bool.false_eq_true, if_false, ix_io, e19]
                rw [if_pos ((m1_lt (by omega)).mpr trivial)]
              rw [hN.2.1.1 7 (by omega), if_neg (by rw [io_le (by omega) (by omega)]; omega), ec, bit_step (by omega)]
              simp only [bnd_s, lit, io_add]
              rw [if_pos trivial, if_neg (by simp)]
            · unfold L_X5_comeBy_4
              rw [hN.2.1.1 7 (by omega), if_pos (by rw [io_le (by omega) (by omega)]; omega)]
          · rw [io_sub e0, comeByC hN.1 hN.2.1 (by omega)]
            congr 2
            refine bN_congr (fun p hp => ?_)
            by_cases c : cm L p ≤ s - 1
            · rw [decide_eq_true c, decide_eq_true (by omega)]
            · rw [decide_eq_false c, decide_eq_false (by omega)]
        simp only [lit, nio1]
        rw [comeByC hN.1 hN.2.1 (by omega), bnd_s, e2, bnd_s, bN_less (by omega)]
        congr 2
        refine bN_congr (fun p hp => ?_)
        by_cases c : cm L p = s
        · rw [decide_eq_true c, decide_eq_true (by omega), decide_eq_false (by omega)]; rfl
        · by_cases c2 : cm L p ≤ s
          · rw [decide_eq_false c, decide_eq_true c2, decide_eq_true (by omega)]; rfl
          · rw [decide_eq_false c, decide_eq_false c2]; rfl
      rw [e, bnd_s]
    · refine up3 (fun i => io (bN (fun p => decide (cm L p = s)) i)) (fun i => io i) (fun _ => st Mr 0 0 0) (L.1 7) rfl rfl rfl (by omega) (fun i hi K => ?_) (fun K => ?_)
      · unfold L_X11_coming_21
        have hcm : cm L i ≤ 14 := (hN.1.2.2.2.2.1 i hi).2.2.2
        have ec : f_X11_comes (io i) (st Mr 0 0 0) = some (io (cm L i)) := by
          unfold f_X11_comes
          have := hN1.2.2.1.2.2.2.1 i 3 hi (by omega)
          rw [show 24 * 0 + (4 * i + 3) = 4 * i + 3 by omega] at this
          rw [show (4 : Int32) * io i + 3 = io (4 * i + 3) from by rw [show (4 : Int32) = io 4 from rfl, show (3 : Int32) = io 3 from rfl, io_mul, io_add]]
          simp (disch := omega) only [oob_f, Bool.false_eq_true, if_false, ix_io, this]
          rfl
        rw [pieces0 hN1.2.2.1, bnd_s, if_neg (by rw [io_le (by omega) (by omega)]; omega), ec, bnd_s, bit_step (by omega)]
        simp only [letv_eq, lit, io_add, or0, decide_eq_true_eq]
        by_cases c : cm L i = s
        · rw [if_pos (by rw [c]), if_pos c]
        · rw [if_neg (by rw [io_inj (by omega) (by omega)]; exact c), if_neg c]
      · unfold L_X11_coming_21
        rw [pieces0 hN1.2.2.1, bnd_s, if_pos (by rw [io_le (by omega) (by omega)]; omega)]
  · rw [if_neg hb, if_neg hb]
    exact ⟨_, _, rfl, rfl, h.kr hk⟩
