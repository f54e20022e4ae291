/-! fires, gusts, undo, anew -/
/-- hotter by v in zone z from step f on, i steps long -/
def hm (M : Mem) (z f : Nat) (v : Int32) (i : Nat) : Mem := (fun a j => if a = 24 ∧ z * 15 + f ≤ j ∧ j < z * 15 + f + i then M.1 24 j + v else M.1 a j, M.2)
theorem rc20 : rC 20 2 = 21 ∧ rC 20 3 = 22 ∧ rC 20 4 = 23 ∧ rC 20 5 = 24 := by decide
theorem heatC {M : Mem} {z f : Nat} {v : Int32} (hz : z < 7) (hf : f < 15) : f_X0_heatUp 20 (io z) v (io f) M = some (hm M z f v (15 - f)) := by
  unfold f_X0_heatUp
  rw [if_neg (show ¬ io z < 0 by rw [show (0 : Int32) = io 0 from rfl, io_lt (by omega) (by omega)]; omega), if_neg (show ¬ (7 : Int32) ≤ io z by rw [show (7 : Int32) = io 7 from rfl, io_le (by omega) (by omega)]; omega), if_pos (show (0 : Int32) ≤ io f by rw [show (0 : Int32) = io 0 from rfl, io_le (by omega) (by omega)]; omega)]
  refine up2 (fun i => io (f + i)) (fun i => hm M z f v i) (15 - f) rfl (by
    unfold hm
    have : (fun a j => if a = 24 ∧ z * 15 + f ≤ j ∧ j < z * 15 + f + 0 then M.1 24 j + v else M.1 a j) = M.1 := by
      funext a j; rw [if_neg (by omega)]
    rw [this]) (by omega) (fun i hi K => ?_) (fun K => ?_)
  · unfold L_X0_heatUp_18
    simp only [lit, io_mul, io_add, rc20.2.2.2]
    rw [if_neg (show ¬ io 15 ≤ io (f + i) by rw [io_le (by omega) (by omega)]; omega)]
    simp (disch := omega) only [oob_f, Bool.false_eq_true, if_false, ix_io, letv_eq]
    congr 1
    unfold hm st
    congr 1
    funext a j
    by_cases e : a = 24 ∧ j = z * 15 + (f + i)
    · obtain ⟨rfl, rfl⟩ := e
      simp only [true_and, and_self, if_true]
      rw [if_neg (by omega), if_pos (by omega)]
    · simp only [if_neg e]
      by_cases c : a = 24 ∧ z * 15 + f ≤ j ∧ j < z * 15 + f + i
      · rw [if_pos c, if_pos (by omega)]
      · rw [if_neg c, if_neg (by omega)]
  · unfold L_X0_heatUp_18
    rw [if_pos (show (15 : Int32) ≤ io (f + (15 - f)) by rw [show (15 : Int32) = io 15 from rfl, io_le (by omega) (by omega)]; omega)]
theorem hm_ne {M : Mem} {z f i a : Nat} {v : Int32} (h : a ≠ 24) : (hm M z f v i).1 a = M.1 a := by
  funext j; simp [hm, h]
theorem hm_rd {M : Mem} {z f zz s : Nat} {v : Int32} (hs : s < 15) (hf : f < 15) : (hm M z f v (15 - f)).1 24 (zz * 15 + s) = if zz = z ∧ f ≤ s then M.1 24 (zz * 15 + s) + v else M.1 24 (zz * 15 + s) := by
  show (if 24 = 24 ∧ z * 15 + f ≤ zz * 15 + s ∧ zz * 15 + s < z * 15 + f + (15 - f) then M.1 24 (zz * 15 + s) + v else M.1 24 (zz * 15 + s)) = _
  by_cases c : zz = z ∧ f ≤ s
  · rw [if_pos c, if_pos (by omega)]
  · rw [if_neg c, if_neg (by omega)]
theorem orbit {g : Nat → Bool} {t : Nat} (ht : t < 15) : bN g 15 ||| 2 ^ t = bN (fun s => g s || decide (t = s)) 15 := by
  apply Nat.eq_of_testBit_eq
  intro i
  rw [Nat.testBit_or, bN_tb, bN_tb, Nat.testBit_two_pow]
  by_cases e : t = i
  · subst e; simp [ht]
  · by_cases c : i < 15 <;> simp [e, c]
theorem addActC {L : Lh} {M : Mem} {z n f : Int32} (hC : RpC 14 L M) (hna : L.1 8 < 30) : f_X0_addAct 20 z n f M = some (1, st (st (st (st M 21 (L.1 8) z) 22 (L.1 8) n) 23 (L.1 8) f) 20 0 (io (L.1 8 + 1))) := by
  have e20 : M.1 20 0 = io (L.1 8) := hC.2.1.1
  unfold f_X0_addAct
  have s1 : (st M 21 (L.1 8) z).1 20 0 = io (L.1 8) := by rw [stne (by decide)]; exact e20
  have s2 : (st (st M 21 (L.1 8) z) 22 (L.1 8) n).1 20 0 = io (L.1 8) := by rw [stne (by decide)]; exact s1
  have s3 : (st (st (st M 21 (L.1 8) z) 22 (L.1 8) n) 23 (L.1 8) f).1 20 0 = io (L.1 8) := by rw [stne (by decide)]; exact s2
  rw [e20, if_neg (show ¬ io (L.1 8) < 0 by rw [show (0 : Int32) = io 0 from rfl, io_lt (by omega) (by omega)]; omega), if_pos (show io (L.1 8) < 30 by rw [show (30 : Int32) = io 30 from rfl, io_lt (by omega) (by omega)]; omega), rc20.1, rc20.2.1, rc20.2.2.1]
  simp (disch := omega) only [oob_f, Bool.false_eq_true, if_false, ix_io, letv_eq, s1, s2, s3]
  rw [show io (L.1 8) + (1 : Int32) = io (L.1 8 + 1) from io_add _ 1]
theorem addActC30 {L : Lh} {M : Mem} {z n f : Int32} (hC : RpC 14 L M) (hna : L.1 8 = 30) : f_X0_addAct 20 z n f M = some (0, M) := by
  have e20 : M.1 20 0 = io 30 := by rw [← hna]; exact hC.2.1.1
  unfold f_X0_addAct
  rw [e20, if_neg (by decide), if_neg (by decide)]
/-- the lehr with one more act -/
def Lact (L : Lh) (k z n f : Nat) : Lh := (fu L.1 8 (L.1 8 + 1), L.2.1, L.2.2.1, fu L.2.2.2 (L.1 8) (fun w => if w = 0 then k else if w = 1 then z else if w = 2 then n else f))
theorem Lact_old {L : Lh} {k z n f a : Nat} (h : a < L.1 8) : L.2.2.2 a = (Lact L k z n f).2.2.2 a := by
  show _ = fu _ _ _ a
  unfold fu
  rw [if_neg (by omega)]
theorem Lact_new {L : Lh} {k z n f : Nat} : (Lact L k z n f).2.2.2 (L.1 8) = fun w => if w = 0 then k else if w = 1 then z else if w = 2 then n else f := by
  show fu _ _ _ (L.1 8) = _
  unfold fu
  rw [if_pos rfl]
theorem fu_ne {α : Type} {f : Nat → α} {i j : Nat} {v : α} (h : j ≠ i) : fu f i v j = f j := if_neg h
theorem fu_eq {α : Type} {f : Nat → α} {i : Nat} {v : α} : fu f i v i = v := if_pos rfl
theorem Lact_ok {L : Lh} {k z n f : Nat} (hL : OkL L) (h0 : 0 < L.1 0) (hna : L.1 8 < 30) (h : (k = 0 ∧ z < L.1 6 ∧ n ≤ 200 ∧ f ≤ 14) ∨ (k = 1 ∧ n = 0 ∧ f < 14)) : OkL (Lact L k z n f) := by
  obtain ⟨o1, o2, o3, o4, o5, o6⟩ := hL
  have e : ∀ i, i ≠ 8 → (Lact L k z n f).1 i = L.1 i := fun i hi => fu_ne hi
  have e8 : (Lact L k z n f).1 8 = L.1 8 + 1 := by
    show fu L.1 8 (L.1 8 + 1) 8 = _
    exact fu_eq
  refine ⟨fun q => ?_, fun _ => ?_, ?_, ?_, ?_, fun a ha => ?_⟩
  · rw [e 0 (by decide)] at q; omega
  · rw [e 1 (by decide), e 4 (by decide)]; exact o2 h0
  · rw [e 0 (by decide), e 1 (by decide), e 2 (by decide), e 3 (by decide), e 4 (by decide), e 5 (by decide), e 6 (by decide), e 7 (by decide), e8]
    exact ⟨o3.1, o3.2.1, o3.2.2.1, o3.2.2.2.1, o3.2.2.2.2.1, o3.2.2.2.2.2.1, o3.2.2.2.2.2.2.1, o3.2.2.2.2.2.2.2.1, by omega⟩
  · rw [e 6 (by decide)]; exact o4
  · rw [e 7 (by decide)]; exact o5
  · rw [e8] at ha
    rw [e 6 (by decide)]
    by_cases c : a = L.1 8
    · subst c
      rw [Lact_new]
      rcases h with ⟨h1, h2, h3, h4⟩ | ⟨h1, h2, h3⟩
      · exact Or.inl ⟨h1, h2, h3, h4⟩
      · exact Or.inr ⟨h1, h2, h3⟩
    · rw [← Lact_old (by omega)]
      exact o6 a (by omega)
theorem gst_act {L : Lh} {k z n f s : Nat} : gst (Lact L k z n f) (L.1 8 + 1) s = (gst L (L.1 8) s || (decide (k = 1) && decide (f = s))) := by
  show (gst (Lact L k z n f) (L.1 8) s || (decide ((Lact L k z n f).2.2.2 (L.1 8) 0 = 1) && decide ((Lact L k z n f).2.2.2 (L.1 8) 3 = s))) = _
  rw [← gst_congr (L := L) s (fun a ha => Lact_old ha), Lact_new]
  rfl
theorem hot_act {L : Lh} {k z n f zz s : Nat} : hot (Lact L k z n f) (L.1 8 + 1) zz s = hot L (L.1 8) zz s + if k = 0 ∧ z = zz ∧ f ≤ s then n else 0 := by
  show hot (Lact L k z n f) (L.1 8) zz s + (if (Lact L k z n f).2.2.2 (L.1 8) 0 = 0 ∧ (Lact L k z n f).2.2.2 (L.1 8) 1 = zz ∧ (Lact L k z n f).2.2.2 (L.1 8) 3 ≤ s then (Lact L k z n f).2.2.2 (L.1 8) 2 else 0) = _
  rw [← hot_congr (L := L) zz s (fun a ha => Lact_old ha), Lact_new]
  rfl
/-- the class's memory with one more act -/
theorem RpC_act {L : Lh} {M M' : Mem} {k z n f : Nat} (hC : RpC 14 L M) (h : ∀ a, a ∉ [20, 21, 22, 23, 24, 0] → M'.1 a = M.1 a) (h0 : M'.1 20 0 = io (L.1 8 + 1)) (h1 : M'.1 20 1 = io (bN (fun s => gst L (L.1 8) s || (decide (k = 1) && decide (f = s))) 15)) (ha : ∀ a, a < L.1 8 → M'.1 21 a = M.1 21 a ∧ M'.1 22 a = M.1 22 a ∧ M'.1 23 a = M.1 23 a) (hn : M'.1 21 (L.1 8) = (if k = 1 then m1 else io z) ∧ M'.1 22 (L.1 8) = io n ∧ M'.1 23 (L.1 8) = io f) (hh : ∀ zz s, zz < 7 → s < 15 → M'.1 24 (zz * 15 + s) = io (hot L (L.1 8) zz s + if k = 0 ∧ z = zz ∧ f ≤ s then n else 0)) : RpC 14 (Lact L k z n f) M' := by
  obtain ⟨c1, c2, c3, c4, c5, c6⟩ := hC
  have e : ∀ i, i ≠ 8 → (Lact L k z n f).1 i = L.1 i := fun i hi => fu_ne hi
  have e8 : (Lact L k z n f).1 8 = L.1 8 + 1 := by
    show fu L.1 8 (L.1 8 + 1) 8 = _
    exact fu_eq
  refine ⟨fun i hi => ?_, ⟨?_, ?_⟩, fun x hx => ?_, fun x hx => ?_, fun a hx => ?_, fun x s hx hs => ?_⟩
  · rw [h 14 (by decide), e i (by omega)]; exact c1 i hi
  · rw [e8]; exact h0
  · rw [e8]
    refine h1.trans (congrArg io (bN_congr (fun s _ => ?_)))
    rw [gst_act]
  · rw [e 6 (by decide)] at hx
    rw [h 15 (by decide)]; exact c3 x hx
  · rw [e 7 (by decide)] at hx
    rw [h 16 (by decide), h 17 (by decide), h 18 (by decide), h 19 (by decide)]; exact c4 x hx
  · rw [e8] at hx
    by_cases c : a = L.1 8
    · subst c
      unfold actz
      rw [Lact_new]
      exact hn
    · have := ha a (by omega)
      unfold actz
      rw [← Lact_old (by omega)]
      show M'.1 21 a = _ ∧ M'.1 22 a = _ ∧ M'.1 23 a = _
      rw [this.1, this.2.1, this.2.2]
      exact c5 a (by omega)
  · rw [e8, hot_act]
    exact hh x s hx hs
theorem RpR_act {L : Lh} {M : Mem} {k z n f : Nat} {zi : Int32} (hR : RpR 0 L M) (hna : L.1 8 < 30) (hzi : zi = if k = 1 then m1 else io z) : RpR 0 (Lact L k z n f) (st (st (st (st (st M 10 (4 * L.1 8) (io k)) 10 (4 * L.1 8 + 1) zi) 10 (4 * L.1 8 + 2) (io n)) 10 (4 * L.1 8 + 3) (io f)) 7 7 (io (L.1 8 + 1))) := by
  obtain ⟨r1, r2, r3, r4, r5⟩ := hR
  have e : ∀ i, i ≠ 8 → (Lact L k z n f).1 i = L.1 i := fun i hi => fu_ne hi
  have e8 : (Lact L k z n f).1 8 = L.1 8 + 1 := by
    show fu L.1 8 (L.1 8 + 1) 8 = _
    exact fu_eq
  refine ⟨?_, fun i hi => ?_, fun x hx => ?_, fun x w hx hw => ?_, fun a ha => ?_⟩
  · rw [e 0 (by decide), stne (by decide), stne (by decide), stne (by decide), stne (by decide), stne (by decide)]; exact r1
  · by_cases c : i = 7
    · subst c
      rw [show 7 + 1 = 8 from rfl, e8]
      simp [st]
    · rw [e (i + 1) (by omega), st_rd (by omega), stne (by decide), stne (by decide), stne (by decide), stne (by decide)]; exact r2 i hi
  · rw [e 6 (by decide)] at hx
    rw [stne (by decide), stne (by decide), stne (by decide), stne (by decide), stne (by decide)]; exact r3 x hx
  · rw [e 7 (by decide)] at hx
    rw [stne (by decide), stne (by decide), stne (by decide), stne (by decide), stne (by decide)]; exact r4 x w hx hw
  · rw [e8] at ha
    rw [stne (by decide)]
    by_cases c : a = L.1 8
    · subst c
      unfold actz
      rw [Lact_new, show 120 * 0 + 4 * L.1 8 = 4 * L.1 8 by omega, show 120 * 0 + (4 * L.1 8 + 1) = 4 * L.1 8 + 1 by omega, show 120 * 0 + (4 * L.1 8 + 2) = 4 * L.1 8 + 2 by omega, show 120 * 0 + (4 * L.1 8 + 3) = 4 * L.1 8 + 3 by omega]
      refine ⟨?_, ?_, ?_, ?_⟩
      · simp [st]
      · simp [st, hzi]
      · simp [st]
      · simp [st]
    · have := r5 a (by omega)
      unfold actz
      rw [← Lact_old (by omega)]
      rw [st_rd (by omega), st_rd (by omega), st_rd (by omega), st_rd (by omega), st_rd (by omega), st_rd (by omega), st_rd (by omega), st_rd (by omega), st_rd (by omega), st_rd (by omega), st_rd (by omega), st_rd (by omega), st_rd (by omega), st_rd (by omega), st_rd (by omega), st_rd (by omega)]
      exact this
theorem nev_lt {L : Lh} (hL : OkL L) : nev L < 256 :=
  Nat.lt_of_lt_of_le (bN_lt _ _) (Nat.pow_le_pow_right (n := 2) (by decide) (by have := hL.2.2.1.2.2.2.2.2.2.2.1; omega : L.1 7 ≤ 8))
/-- after a change: both are asked how many never crack -/
theorem both3 {L : Lh} {Mc Mr : Mem} (hX : RelX Mc Mr) (hN : RelN L Mc Mr) (h0 : 0 < L.1 0) : ∃ (r : Int32) (Mc' Mr' : Mem), bnd2 (f_X10_soundNow Mc) (fun r M => some (r, M)) = some (r, Mc') ∧ bnd (f_X11_laysNow Mr) (fun M13 => bnd (f_X11_soundNow M13) (fun r14 => bnd (f_X11_sizeOf r14 M13) (fun r16 => some (r16, M13)))) = some (r, Mr') ∧ Rel Mc' Mr' := by
  rw [bnd2_id]
  unfold f_X10_soundNow
  refine both hX hN h0 _ _ (fun Mc Mr hc hr => ⟨io (pop (nev L)), ?_, ?_⟩)
  · rw [neverV hc, bnd_s, bitc (nev_lt hc.1)]
  · rw [soundV hr, bnd_s, sizc (nev_lt hr.1), bnd_s]
theorem doesR {L : Lh} {M : Mem} {k z n f : Int32} (hR : RpR 0 L M) (hna : L.1 8 < 30) (T : Mem → Option (Int32 × Mem)) : bnd (f_X11_does k z n f M) T = bnd (f_X11_laysNow (st (st (st (st (st M 10 (4 * L.1 8) k) 10 (4 * L.1 8 + 1) z) 10 (4 * L.1 8 + 2) n) 10 (4 * L.1 8 + 3) f) 7 7 (io (L.1 8 + 1)))) T := by
  have e7 : M.1 7 7 = io (L.1 8) := numR hR (by omega)
  unfold f_X11_does
  simp only [lit]
  simp (disch := omega) only [oob_f, Bool.false_eq_true, if_false, ix_io, letv_eq, e7, io_mul, io_add]
  have s7 : (st (st (st (st M 10 (4 * L.1 8) k) 10 (4 * L.1 8 + 1) z) 10 (4 * L.1 8 + 2) n) 10 (4 * L.1 8 + 3) f).1 7 7 = io (L.1 8) := by
    rw [stne (by decide), stne (by decide), stne (by decide), stne (by decide)]; exact e7
  rw [s7, io_add]
  cases f_X11_laysNow (st (st (st (st (st M 10 (4 * L.1 8) k) 10 (4 * L.1 8 + 1) z) 10 (4 * L.1 8 + 2) n) 10 (4 * L.1 8 + 3) f) 7 7 (io (L.1 8 + 1))) <;> rfl
theorem op_72 : ∀ (Mc Mr : Mem) (a1 a2 a3 : Int32), Rel Mc Mr → ∃ (r : Int32) (Mc' Mr' : Mem), f_X10_fires a1 a2 a3 Mc = some (r, Mc') ∧ f_X11_fires a1 a2 a3 Mr = some (r, Mr') ∧ Rel Mc' Mr' := by
  intro Mc Mr a b s h
  obtain ⟨hX, L, hN⟩ := h.split
  have hk := kr0 Mr
  have hN1 := hN.kr hk
  have h7 := hN.1.2.2.1
  unfold f_X10_fires f_X11_fires
  rw [show (letv (st Mr 0 0 0) _ : Option (Int32 × Mem)) = _ from letv_eq _ _]
  rw [zoneC (hN.2.1.1 6 (by omega)) (by omega), stepC (hN.2.1.1 0 (by omega)) (by omega) (hN.2.1.1 1 (by omega)) (by omega), zoneR hN.1 hN1.2.2.1, stepR hN.1 hN1.2.2.1]
  rw [bnd_s, bnd_s, ite01, ite01, ite01, ite01]
  rcases below a (L.1 6) with hb | ⟨z, hz, rfl, hz2⟩
  · rw [if_neg hb, if_neg hb]
    exact ⟨_, Mc, _, rfl, rfl, h.kr hk⟩
  rw [if_pos (pos_io hz hz2), if_pos (pos_io hz hz2), in_eq, ite01]
  have e200 : (200 : Int64).toInt = 200 := rfl
  have ez : (1 : Int64).toInt = 1 := rfl
  rcases (Classical.em (1 ≤ b.toInt ∧ b.toInt ≤ 200)).symm with hb | hb
  · have hb2 : ¬ ((1 : Int64).toInt ≤ b.toInt64.toInt ∧ b.toInt64.toInt ≤ (200 : Int64).toInt) := by
      rw [e200, ez, Int32.toInt_toInt64]; exact hb
    rw [if_neg hb2]
    by_cases hb3 : b < 1
    · rw [if_pos hb3]
      exact ⟨_, Mc, _, rfl, rfl, h.kr hk⟩
    · have hb4 : (200 : Int32) < b := by
        have q2 := Int32.le_iff_toInt_le.mp (Int32.not_lt.mp hb3)
        have e1 : (200 : Int32).toInt = 200 := rfl
        have e2 : (1 : Int32).toInt = 1 := rfl
        rw [Int32.lt_iff_toInt_lt]; omega
      rw [if_neg hb3, if_pos hb4]
      exact ⟨_, Mc, _, rfl, rfl, h.kr hk⟩
  obtain ⟨n, hn, rfl, hn2⟩ := (below b 201).resolve_left (fun q => q ⟨by omega, by omega⟩)
  have hn1 : 1 ≤ n := by have := hb.1; rw [io_toInt hn2] at this; omega
  have hb2 : (1 : Int64).toInt ≤ (io n).toInt64.toInt ∧ (io n).toInt64.toInt ≤ (200 : Int64).toInt := by
    rw [e200, ez, Int32.toInt_toInt64]; exact hb
  rw [if_pos hb2, if_neg (show ¬ io n < 1 by rw [show (1 : Int32) = io 1 from rfl, io_lt (by omega) (by omega)]; omega), if_neg (show ¬ (200 : Int32) < io n by rw [show (200 : Int32) = io 200 from rfl, io_lt (by omega) (by omega)]; omega)]
  rcases (Classical.em (0 < L.1 0 ∧ 0 ≤ s.toInt ∧ s.toInt ≤ L.1 1)).symm with hb | hb
  · rw [if_neg hb, if_neg hb]
    exact ⟨_, Mc, _, rfl, rfl, h.kr hk⟩
  rw [if_pos hb, if_pos hb]
  obtain ⟨f, hf, rfl, hf2⟩ := (below s (L.1 1 + 1)).resolve_left (fun q => q ⟨hb.2.1, by omega⟩)
  rw [show oob 7 40 = false from rfl, show ix 7 = 7 from rfl, show (st Mr 0 0 0).1 7 7 = io (L.1 8) from numR hN1.2.2.1 (by omega)]
  simp only [Bool.false_eq_true, if_false]
  unfold f_X0_addFire
  by_cases c30 : L.1 8 = 30
  · rw [addActC30 hN.2.1 c30, bnd2_s, if_pos rfl, bnd2_s, if_pos rfl, if_pos (show io (L.1 8) = 30 by rw [c30]; rfl)]
    exact ⟨_, Mc, _, rfl, rfl, h.kr hk⟩
  have hna : L.1 8 < 30 := by omega
  rw [addActC hN.2.1 hna, bnd2_s, if_neg (by decide), heatC (by omega) (by omega), bnd_s, bnd2_s, if_neg (by decide), if_neg (show ¬ io (L.1 8) = 30 from fun q => c30 ((io_inj (by omega) (by omega)).mp q)), doesR hN1.2.2.1 hna]
  rw [letv_eq]
  refine both3 (L := Lact L 0 z n f) ?_ ⟨?_, ?_, ?_, ?_⟩ ?_
  · refine (hX.kx (KX.sto ?_ (by decide))).k0 ((((((hk.k0).st10 (by omega)).st10 (by omega)).st10 (by omega)).st10 (by omega)).st7 (by omega))
    refine KX.trans ((((KX.refl.sto (by decide)).sto (by decide)).sto (by decide)).sto (by decide)) ⟨fun a ha => hm_ne (by rcases ha with ha | ha; revert a; decide; omega), fun _ _ => rfl⟩
  · exact Lact_ok hN.1 hb.1 hna (Or.inl ⟨rfl, hz, by omega, by omega⟩)
  · refine RpC_act hN.2.1 (fun a ha => ?_) ?_ ?_ (fun a ha => ?_) ?_ (fun zz s hzz hs => ?_)
    · have n20 : a ≠ 20 := fun q => ha (by rw [q]; decide)
      have n21 : a ≠ 21 := fun q => ha (by rw [q]; decide)
      have n22 : a ≠ 22 := fun q => ha (by rw [q]; decide)
      have n23 : a ≠ 23 := fun q => ha (by rw [q]; decide)
      have n24 : a ≠ 24 := fun q => ha (by rw [q]; decide)
      have n0 : a ≠ 0 := fun q => ha (by rw [q]; decide)
      rw [stne n0, hm_ne n24, stne n20, stne n23, stne n22, stne n21]
    · rw [stne (by decide), hm_ne (by decide)]; simp [st]
    · rw [stne (by decide), hm_ne (by decide), st_rd (by decide), stne (by decide), stne (by decide), stne (by decide)]
      refine (hN.2.1.2.1.2).trans (congrArg io (bN_congr (fun s _ => ?_)))
      simp
    · have ne : a ≠ L.1 8 := by omega
      rw [stne (by decide), stne (by decide), stne (by decide), hm_ne (by decide), hm_ne (by decide), hm_ne (by decide)]
      simp [st, ne]
    · rw [stne (by decide), stne (by decide), stne (by decide), hm_ne (by decide), hm_ne (by decide), hm_ne (by decide)]
      simp [st]
    · have e24 : (st (st (st (st Mc 21 (L.1 8) (io z)) 22 (L.1 8) (io n)) 23 (L.1 8) (io f)) 20 0 (io (L.1 8 + 1))).1 24 (zz * 15 + s) = io (hot L (L.1 8) zz s) := by
        rw [stne (by decide), stne (by decide), stne (by decide), stne (by decide)]; exact hN.2.1.2.2.2.2.2 zz s hzz hs
      rw [stne (by decide), hm_rd hs (by omega), e24]
      by_cases c : zz = z ∧ f ≤ s
      · rw [if_pos c, if_pos ⟨rfl, c.1.symm, c.2⟩, io_add]
      · rw [if_neg c, if_neg (fun q => c ⟨q.2.1.symm, q.2.2⟩)]; rfl
  · exact RpR_act hN1.2.2.1 hna rfl
  · exact Or.inl (by simp [st]; rfl)
  · show 0 < fu L.1 8 (L.1 8 + 1) 0
    rw [fu_ne (by decide)]; exact hb.1
