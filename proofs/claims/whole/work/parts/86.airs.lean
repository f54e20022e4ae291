/-! RAISE, RESCUE, SWAP, WORTH, GETS: trials with other airs told -/
def tlF (L : Lh) (tl : Nat → Nat) : Cf := rcf L L.1 L.2.2.1 tl 0 (L.1 6)
theorem Lk.tl {L : Lh} {tl : Nat → Nat} (hL : OkL L) (h0 : 0 < L.1 0) (ht : ∀ z, z < L.1 6 → tl z ≤ 1000) : Lk L L.1 L.2.2.1 tl 0 (L.1 6) := by
  obtain ⟨a, b, c, d, e⟩ := Lk.now hL h0
  exact ⟨a, b, c, ht, e⟩
theorem Tc_tl {L : Lh} {M M' : Mem} {tl : Nat → Nat} (hL : OkL L) (h0 : 0 < L.1 0) (hC : RpC 35 L M) (ht : ∀ z, z < L.1 6 → tl z ≤ 1000) (g : ∀ a, a ∈ [35, 37, 38, 39, 40, 41, 45] → M'.1 a = M.1 a) (h36 : ∀ z, z < L.1 6 → M'.1 36 z = io (tl z)) : Tc (tlF L tl) M' :=
  Tc_mod hL hC (Lk.tl hL h0 ht) rfl (g 41 (by decide)) (g 45 (by decide)) (g 37 (by decide)) (g 40 (by decide)) (fun i hi => by rw [g 35 (by decide)]; exact numsOf hC i hi) h36 (fun q hq => by rw [g 38 (by decide), g 39 (by decide)]; exact ⟨(hC.2.2.2.1 q hq).2.1, (hC.2.2.2.1 q hq).2.2.1⟩)
theorem Ls.tl {L : Lh} {tl tl' : Nat → Nat} {M M' : Mem} (h : Ls L L.1 L.2.2.1 tl 0 (L.1 6) M) (g : ∀ a, a ∈ [0, 13, 14] → M'.1 a = M.1 a) (h12 : ∀ z, z < L.1 6 → M'.1 12 z = io (tl' z)) : Ls L L.1 L.2.2.1 tl' 0 (L.1 6) M' := by
  obtain ⟨a, b, c⟩ := h
  exact ⟨by rw [g 0 (by decide)]; exact a, h12, by rw [g 13 (by decide), g 14 (by decide)]; exact c⟩
/-- zone z told n degrees more -/
def upT (L : Lh) (z n : Nat) : Nat → Nat := fun y => if y = z then L.2.1 z + n else L.2.1 y
theorem upT_le {L : Lh} (hL : OkL L) {z n : Nat} (hz : z < L.1 6) (hn : n ≤ 200) : ∀ y, y < L.1 6 → upT L z n y ≤ 1000 := by
  intro y hy
  have := hL.2.2.2.1 y hy
  have := hL.2.2.2.1 z hz
  unfold upT
  split <;> omega
def upS (L : Lh) (z p : Nat) : Nat → Bool := fun n => snd (tlF L (upT L z n)) p
theorem nlt {n i : Nat} (hn : n < 2147483647) (hi : i < 2147483647) : (io n - 1 < io i) = (n ≤ i) := by
  apply propext
  rcases Nat.eq_zero_or_pos n with rfl | h
  · rw [show io 0 - 1 = m1 by decide]
    exact ⟨fun _ => by omega, fun _ => (m1_lt (by omega)).mpr trivial⟩
  · rw [show (1 : Int32) = io 1 from rfl, io_sub h, io_lt (by omega) (by omega)]
    exact ⟨fun _ => by omega, fun _ => by omega⟩
theorem raiseC {L : Lh} {M : Mem} {z p n : Nat} (hL : OkL L) (h0 : 0 < L.1 0) (hC : RpC 14 L M) (hz : z < L.1 6) (hp : p < L.1 7) (hn : n ≤ 201) : ∃ M', f_X9_leastRaise (io z) (io p) (io n - 1) M = some (oi (ff (upS L z p) n), M') ∧ KC M M' := by
  have g := hL.2.2.1
  obtain ⟨M1, e1, hC1, k1⟩ := copyT hL hC
  unfold f_X9_leastRaise
  rw [e1, bnd_s, zoneC (hC1.1 6 (by omega)) (by omega), ite01, if_pos (pos_io hz (by omega))]
  have step : ∀ i M2, i < n → (∀ a, a ∈ [35, 37, 38, 39, 40, 41, 45] → M2.1 a = M1.1 a) → (∀ y, y ≠ z → M2.1 36 y = M1.1 36 y) → KC M M2 → ∃ M3, (∀ a, a ∈ [35, 37, 38, 39, 40, 41, 45] → M3.1 a = M1.1 a) ∧ (∀ y, y ≠ z → M3.1 36 y = M1.1 36 y) ∧ KC M M3 ∧ ∀ K, L_X9_leastRaise_30 (io z) (io p) (io n - 1) K (io i) M2 = if upS L z p i = true then some (io i, M3) else K (io (i + 1)) M3 := by
    intro i M2 hi g1 g2 k2
    have h15 : M2.1 15 z = io (L.2.1 z) := by rw [k2.1 15 (by omega)]; exact hC.2.2.1 z hz
    have hl := hL.2.2.2.1 z hz
    have hT : Tc (tlF L (upT L z i)) (st M2 36 z (io (L.2.1 z + i))) := by
      refine Tc_tl hL h0 hC1 (upT_le hL hz (by omega)) (fun a ha => ?_) (fun y hy => ?_)
      · rw [stne (by revert a; decide)]; exact g1 a ha
      · unfold upT
        by_cases c : y = z
        · subst c; rw [if_pos rfl]; simp [st]
        · rw [if_neg c, st_rd (fun q => c q.2), g2 y c]; exact hC1.2.2.1 y hy
    obtain ⟨M3, e3, f3⟩ := tSound (p := p) ((Lk.tl hL h0 (upT_le hL hz (n := i) (by omega))).ok hL) hT hp
    refine ⟨M3, fun a ha => ?_, fun y hy => ?_, (k2.sto (by omega)).trans (fr49 f3), fun K => ?_⟩
    · rw [f3.1 a (by revert a; decide), stne (by revert a; decide)]; exact g1 a ha
    · rw [f3.1 36 (by decide), st_rd (fun q => hy q.2)]; exact g2 y hy
    · unfold L_X9_leastRaise_30
      rw [if_neg (by rw [nlt (by omega) (by omega)]; omega), oob_f (show z < 7 by omega) (by omega), ix_io (by omega)]
      simp only [Bool.false_eq_true, if_false, letv_eq]
      rw [h15, io_add, e3, bnd2_s]
      unfold upS tlF
      by_cases c : snd (rcf L L.1 L.2.2.1 (upT L z i) 0 (L.1 6)) p = true
      · rw [if_pos c, if_pos c, if_neg (by decide)]
      · rw [if_neg c, if_neg c, if_pos rfl, show (1 : Int32) = io 1 from rfl, io_add]
  have fin : ∀ M2, KC M M2 → ∀ K, L_X9_leastRaise_30 (io z) (io p) (io n - 1) K (io n) M2 = some (m1, M2) := by
    intro M2 k2 K
    unfold L_X9_leastRaise_30
    rw [if_pos (by rw [nlt (by omega) (by omega)]; omega)]; rfl
  rcases ff_or (upS L z p) n with ⟨f1, f2⟩ | ⟨m, hm, f1, f2, f3⟩
  · rw [f1]
    obtain ⟨r, ⟨r1, r2⟩, hr⟩ := in2x (b := L_X9_leastRaise_30 (io z) (io p) (io n - 1)) (fun i x M2 => x = io i ∧ (∀ a, a ∈ [35, 37, 38, 39, 40, 41, 45] → M2.1 a = M1.1 a) ∧ (∀ y, y ≠ z → M2.1 36 y = M1.1 36 y) ∧ KC M M2) (fun r => r.1 = m1 ∧ KC M r.2) n (x := 0) (y := M1) ⟨rfl, fun _ _ => rfl, fun _ _ => rfl, k1⟩ (by omega) (fun i x M2 hi h => by
        obtain ⟨rfl, g1, g2, k2⟩ := h
        obtain ⟨M3, g3, g4, k3, he⟩ := step i M2 hi g1 g2 k2
        refine ⟨io (i + 1), M3, ⟨rfl, g3, g4, k3⟩, fun K => ?_⟩
        rw [he, f2 i hi]
        simp only [Bool.false_eq_true, if_false]) (fun x M2 h => by
        obtain ⟨rfl, g1, g2, k2⟩ := h
        exact ⟨(m1, M2), ⟨rfl, k2⟩, fin M2 k2⟩)
    exact ⟨r.2, by rw [hr, oi_none, ← r1], r2⟩
  · rw [f1]
    obtain ⟨r, ⟨r1, r2⟩, hr⟩ := in2x (b := L_X9_leastRaise_30 (io z) (io p) (io n - 1)) (fun i x M2 => x = io i ∧ (∀ a, a ∈ [35, 37, 38, 39, 40, 41, 45] → M2.1 a = M1.1 a) ∧ (∀ y, y ≠ z → M2.1 36 y = M1.1 36 y) ∧ KC M M2) (fun r => r.1 = io m ∧ KC M r.2) m (x := 0) (y := M1) ⟨rfl, fun _ _ => rfl, fun _ _ => rfl, k1⟩ (by omega) (fun i x M2 hi h => by
        obtain ⟨rfl, g1, g2, k2⟩ := h
        obtain ⟨M3, g3, g4, k3, he⟩ := step i M2 (by omega) g1 g2 k2
        refine ⟨io (i + 1), M3, ⟨rfl, g3, g4, k3⟩, fun K => ?_⟩
        rw [he, f3 i hi]
        simp only [Bool.false_eq_true, if_false]) (fun x M2 h => by
        obtain ⟨rfl, g1, g2, k2⟩ := h
        obtain ⟨M3, g3, g4, k3, he⟩ := step m M2 hm g1 g2 k2
        exact ⟨(io m, M3), ⟨rfl, k3⟩, fun K => by rw [he, if_pos f2]⟩)
    exact ⟨r.2, by rw [hr, show oi (some m) = io m from rfl, ← r1], r2⟩
theorem raiseR {L : Lh} {M : Mem} {z p : Nat} (hL : OkL L) (h0 : 0 < L.1 0) (hR : RpR 0 L M) (hz : z < L.1 6) (hp : p < L.1 7) : ∃ M', f_X11_raiseOf (io z) (io p) M = some (oi (ff (upS L z p) 201), M') ∧ KR M M' := by
  have g := hL.2.2.1
  have step : ∀ i M2, i < 201 → KR M M2 → ∃ M3, KR M M3 ∧ ∀ K, L_X11_raiseOf_2 (io z) (io p) K (io i) M2 = if upS L z p i = true then some (io i, M3) else K (io (i + 1)) M3 := by
    intro i M2 hi k2
    obtain ⟨M4, e4, hs4, k4⟩ := rLays hL (hR.kr k2)
    have hl := hL.2.2.2.1 z hz
    have h12 : M4.1 12 z = io (L.2.1 z) := hs4.2.1 z hz
    have hs5 : Ls L L.1 L.2.2.1 (upT L z i) 0 (L.1 6) (st M4 12 z (io (L.2.1 z + i))) := by
      refine hs4.tl (fun a ha => stne (by revert a; decide)) (fun y hy => ?_)
      unfold upT
      by_cases c : y = z
      · subst c; rw [if_pos rfl]; simp [st]
      · rw [if_neg c, st_rd (fun q => c q.2)]; exact hs4.2.1 y hy
    have k5 : KR M2 (st M4 12 z (io (L.2.1 z + i))) := k4.sto (by decide)
    obtain ⟨M6, e6, -, k6⟩ := rIsSound hL ((hR.kr k2).kr k5) (Lk.tl hL h0 (upT_le hL hz (n := i) (by omega))) hs5 hp
    refine ⟨M6, (k2.trans k5).trans k6, fun K => ?_⟩
    unfold L_X11_raiseOf_2
    rw [if_neg (show ¬ (200 : Int32) < io i from fun q => by have := (io_lt (a := 200) (by omega) (by omega)).mp q; omega), e4, bnd_s, oob_f (show z < 7 by omega) (by omega), ix_io (by omega)]
    simp only [Bool.false_eq_true, if_false, letv_eq]
    rw [h12, io_add, e6, bnd2_s]
    unfold upS tlF
    by_cases c : snd (rcf L L.1 L.2.2.1 (upT L z i) 0 (L.1 6)) p = true
    · rw [if_pos c, if_pos c, if_neg (by decide)]
    · rw [if_neg c, if_neg c, if_pos rfl, show (1 : Int32) = io 1 from rfl, io_add]
  unfold f_X11_raiseOf
  rcases ff_or (upS L z p) 201 with ⟨f1, f2⟩ | ⟨m, hm, f1, f2, f3⟩
  · rw [f1]
    obtain ⟨r, ⟨r1, r2⟩, hr⟩ := in2x (b := L_X11_raiseOf_2 (io z) (io p)) (fun i x M2 => x = io i ∧ KR M M2) (fun r => r.1 = m1 ∧ KR M r.2) 201 (x := 0) (y := M) ⟨rfl, KR.refl⟩ (by omega) (fun i x M2 hi h => by
        obtain ⟨rfl, k2⟩ := h
        obtain ⟨M3, k3, he⟩ := step i M2 hi k2
        refine ⟨io (i + 1), M3, ⟨rfl, k3⟩, fun K => ?_⟩
        rw [he, f2 i hi]
        simp only [Bool.false_eq_true, if_false]) (fun x M2 h => by
        obtain ⟨rfl, k2⟩ := h
        refine ⟨(m1, M2), ⟨rfl, k2⟩, fun K => ?_⟩
        unfold L_X11_raiseOf_2
        rw [if_pos (by decide)]; rfl)
    exact ⟨r.2, by rw [hr, oi_none, ← r1], r2⟩
  · rw [f1]
    obtain ⟨r, ⟨r1, r2⟩, hr⟩ := in2x (b := L_X11_raiseOf_2 (io z) (io p)) (fun i x M2 => x = io i ∧ KR M M2) (fun r => r.1 = io m ∧ KR M r.2) m (x := 0) (y := M) ⟨rfl, KR.refl⟩ (by omega) (fun i x M2 hi h => by
        obtain ⟨rfl, k2⟩ := h
        obtain ⟨M3, k3, he⟩ := step i M2 (by omega) k2
        refine ⟨io (i + 1), M3, ⟨rfl, k3⟩, fun K => ?_⟩
        rw [he, f3 i hi]
        simp only [Bool.false_eq_true, if_false]) (fun x M2 h => by
        obtain ⟨rfl, k2⟩ := h
        obtain ⟨M3, k3, he⟩ := step m M2 hm k2
        exact ⟨(io m, M3), ⟨rfl, k3⟩, fun K => by rw [he, if_pos f2]⟩)
    exact ⟨r.2, by rw [hr, show oi (some m) = io m from rfl, ← r1], r2⟩
theorem op_55 : ∀ (Mc Mr : Mem) (a1 : Int32) (a2 : Int32), Rel Mc Mr → ∃ (r : Int32) (Mc' Mr' : Mem), f_X10_raise a1 a2 Mc = some (r, Mc') ∧ f_X11_raise a1 a2 Mr = some (r, Mr') ∧ Rel Mc' Mr' := by
  intro Mc Mr a b h
  obtain ⟨hX, L, hN⟩ := h.split
  have hk := kr0 Mr
  have hN1 := hN.kr hk
  have g := hN.1.2.2.1
  unfold f_X10_raise f_X11_raise
  rw [letv_eq, zoneC (hN.2.1.1 6 (by omega)) (by omega), zoneR hN.1 hN1.2.2.1, bnd_s, ite01, ite01]
  rcases below a (L.1 6) with hb | ⟨z, hz, rfl, hz2⟩
  · rw [if_neg hb, if_neg hb]
    exact ⟨_, Mc, _, rfl, rfl, h.kr hk⟩
  rw [if_pos (pos_io hz hz2), if_pos (pos_io hz hz2), pieceC (hN.2.1.1 7 (by omega)) (by omega), pieceR hN.1 hN1.2.2.1, bnd_s, ite01, ite01]
  rcases below b (L.1 7) with hb | ⟨p, hp, rfl, hp2⟩
  · rw [if_neg hb, if_neg hb]
    exact ⟨_, Mc, _, rfl, rfl, h.kr hk⟩
  rw [if_pos (pos_io hp hp2), if_pos (pos_io hp hp2), bnd2_id, bnd2_id]
  have h0 := hN.1.pos (i := 7) (by omega)
  refine twoWays (h.kr hk) (v := oi (ff (upS L z p) 201)) ?_ (raiseR hN.1 h0 hN1.2.2.1 hz hp)
  rw [show (200 : Int32) = io 201 - 1 by decide]
  exact raiseC hN.1 h0 hN.2.1 hz hp (by omega)
