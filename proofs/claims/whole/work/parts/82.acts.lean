/-! gusts, undo, anew -/
theorem op_73 : ∀ (Mc Mr : Mem) (a1 : Int32), Rel Mc Mr → ∃ (r : Int32) (Mc' Mr' : Mem), f_X10_gusts a1 Mc = some (r, Mc') ∧ f_X11_gusts a1 Mr = some (r, Mr') ∧ Rel Mc' Mr' := by
  intro Mc Mr s h
  obtain ⟨hX, L, hN⟩ := h.split
  have hk := kr0 Mr
  have hN1 := hN.kr hk
  have h7 := hN.1.2.2.1
  unfold f_X10_gusts f_X11_gusts
  rw [show (letv (st Mr 0 0 0) _ : Option (Int32 × Mem)) = _ from letv_eq _ _]
  rw [aheadC (hN.2.1.1 0 (by omega)) (by omega) (hN.2.1.1 1 (by omega)) (by omega), aheadR hN.1 hN1.2.2.1]
  rw [bnd_s, ite01, ite01]
  rcases below s (L.1 1) with hb | ⟨f, hf, rfl, hf2⟩
  · have hb2 : ¬ (0 < L.1 0 ∧ 0 ≤ s.toInt ∧ s.toInt < L.1 1) := fun q => hb q.2
    rw [if_neg hb, if_neg hb2]
    exact ⟨_, Mc, _, rfl, rfl, h.kr hk⟩
  have h0 := hN.1.pos (i := 1) (by omega)
  have hb2 : 0 < L.1 0 ∧ 0 ≤ (io f).toInt ∧ (io f).toInt < L.1 1 := ⟨h0, pos_io hf hf2⟩
  rw [if_pos hb2, if_pos (pos_io hf hf2), show oob 7 40 = false from rfl, show ix 7 = 7 from rfl, show (st Mr 0 0 0).1 7 7 = io (L.1 8) from numR hN1.2.2.1 (by omega)]
  simp only [Bool.false_eq_true, if_false]
  unfold f_X0_addGust
  by_cases c30 : L.1 8 = 30
  · rw [addActC30 hN.2.1 c30, bnd2_s, if_pos rfl, bnd2_s, if_pos rfl, if_pos (show io (L.1 8) = 30 by rw [c30]; rfl)]
    exact ⟨_, Mc, _, rfl, rfl, h.kr hk⟩
  have hna : L.1 8 < 30 := by omega
  have hg : Mc.1 20 1 = io (bN (gst L (L.1 8)) 15) := hN.2.1.2.1.2
  have s1 : (st (st (st (st Mc 21 (L.1 8) (-1)) 22 (L.1 8) 0) 23 (L.1 8) (io f)) 20 0 (io (L.1 8 + 1))).1 20 1 = io (bN (gst L (L.1 8)) 15) := by
    rw [st_rd (by decide), stne (by decide), stne (by decide), stne (by decide)]; exact hg
  rw [addActC hN.2.1 hna, bnd2_s, if_neg (by decide), s1, show (1 : Int32) <<< (io f &&& 31) = io (2 ^ f) from io_shl (by omega), io_or, orbit (by omega)]
  rw [show (letv (st (st (st (st (st Mc 21 (L.1 8) (-1)) 22 (L.1 8) 0) 23 (L.1 8) (io f)) 20 0 (io (L.1 8 + 1))) 20 1 (io (bN (fun s => gst L (L.1 8) s || decide (f = s)) 15))) fun M5 => some ((1 : Int32), M5)) = _ from letv_eq _ _]
  rw [bnd2_s, if_neg (by decide), if_neg (show ¬ io (L.1 8) = 30 from fun q => c30 ((io_inj (by omega) (by omega)).mp q)), doesR hN1.2.2.1 hna]
  rw [letv_eq]
  refine both3 (L := Lact L 1 0 0 f) ?_ ⟨?_, ?_, ?_, ?_⟩ ?_
  · exact (hX.kx ((((((KX.refl.sto (by decide)).sto (by decide)).sto (by decide)).sto (by decide)).sto (by decide)).sto (by decide))).k0 ((((((hk.k0).st10 (by omega)).st10 (by omega)).st10 (by omega)).st10 (by omega)).st7 (by omega))
  · exact Lact_ok hN.1 h0 hna (Or.inr ⟨rfl, rfl, by omega⟩)
  · refine RpC_act hN.2.1 (fun a ha => ?_) ?_ ?_ (fun a ha => ?_) ?_ (fun zz s hzz hs => ?_)
    · have n20 : a ≠ 20 := fun q => ha (by rw [q]; decide)
      have n21 : a ≠ 21 := fun q => ha (by rw [q]; decide)
      have n22 : a ≠ 22 := fun q => ha (by rw [q]; decide)
      have n23 : a ≠ 23 := fun q => ha (by rw [q]; decide)
      have n0 : a ≠ 0 := fun q => ha (by rw [q]; decide)
      rw [stne n0, stne n20, stne n20, stne n23, stne n22, stne n21]
    · rw [stne (by decide), st_rd (by decide)]; simp [st]
    · rw [stne (by decide)]
      have eq1 : ∀ (M : Mem) v, (st M 20 1 v).1 20 1 = v := fun M v => by simp [st]
      rw [eq1]
      exact congrArg io (bN_congr (fun s _ => by simp))
    · have ne : a ≠ L.1 8 := by omega
      simp [st, ne]
    · simp [st]
      exact ⟨rfl, rfl⟩
    · rw [stne (by decide), stne (by decide), stne (by decide), stne (by decide), stne (by decide), stne (by decide), if_neg (fun q => by omega)]
      exact hN.2.1.2.2.2.2.2 zz s hzz hs
  · exact RpR_act hN1.2.2.1 hna rfl
  · exact Or.inl (by simp [st]; rfl)
  · show 0 < fu L.1 8 (L.1 8 + 1) 0
    rw [fu_ne (by decide)]; exact h0
/-- the lehr with its first n acts alone -/
def Lcut (L : Lh) (n : Nat) : Lh := (fu L.1 8 n, L.2.1, L.2.2.1, L.2.2.2)
theorem Lcut_ok {L : Lh} {n : Nat} (hL : OkL L) (h0 : 0 < L.1 0) (hn : n ≤ L.1 8) : OkL (Lcut L n) := by
  obtain ⟨o1, o2, o3, o4, o5, o6⟩ := hL
  have e : ∀ i, i ≠ 8 → (Lcut L n).1 i = L.1 i := fun i hi => fu_ne hi
  have e8 : (Lcut L n).1 8 = n := by
    show fu L.1 8 n 8 = _
    exact fu_eq
  refine ⟨fun q => ?_, fun _ => ?_, ?_, ?_, ?_, fun a ha => ?_⟩
  · rw [e 0 (by decide)] at q; omega
  · rw [e 1 (by decide), e 4 (by decide)]; exact o2 h0
  · rw [e 0 (by decide), e 1 (by decide), e 2 (by decide), e 3 (by decide), e 4 (by decide), e 5 (by decide), e 6 (by decide), e 7 (by decide), e8]
    exact ⟨o3.1, o3.2.1, o3.2.2.1, o3.2.2.2.1, o3.2.2.2.2.1, o3.2.2.2.2.2.1, o3.2.2.2.2.2.2.1, o3.2.2.2.2.2.2.2.1, by omega⟩
  · rw [e 6 (by decide)]; exact o4
  · rw [e 7 (by decide)]; exact o5
  · rw [e8] at ha
    rw [e 6 (by decide)]
    exact o6 a (by omega)
theorem RpC_cut {L : Lh} {M M' : Mem} {n : Nat} (hC : RpC 14 L M) (hn : n ≤ L.1 8) (h : ∀ a, a ∉ [20, 24, 0] → M'.1 a = M.1 a) (h0 : M'.1 20 0 = io n) (h1 : M'.1 20 1 = io (bN (gst L n) 15)) (hh : ∀ zz s, zz < 7 → s < 15 → M'.1 24 (zz * 15 + s) = io (hot L n zz s)) : RpC 14 (Lcut L n) M' := by
  obtain ⟨c1, c2, c3, c4, c5, c6⟩ := hC
  have e : ∀ i, i ≠ 8 → (Lcut L n).1 i = L.1 i := fun i hi => fu_ne hi
  have e8 : (Lcut L n).1 8 = n := by
    show fu L.1 8 n 8 = _
    exact fu_eq
  refine ⟨fun i hi => ?_, ⟨?_, ?_⟩, fun x hx => ?_, fun x hx => ?_, fun a hx => ?_, fun x s hx hs => ?_⟩
  · rw [h 14 (by decide), e i (by omega)]; exact c1 i hi
  · rw [e8]; exact h0
  · rw [e8]
    exact h1.trans (congrArg io (bN_congr (fun s _ => gst_congr s (fun _ _ => rfl))))
  · rw [e 6 (by decide)] at hx
    rw [h 15 (by decide)]; exact c3 x hx
  · rw [e 7 (by decide)] at hx
    rw [h 16 (by decide), h 17 (by decide), h 18 (by decide), h 19 (by decide)]; exact c4 x hx
  · rw [e8] at hx
    rw [h 21 (by decide), h 22 (by decide), h 23 (by decide)]; exact c5 a (by omega)
  · rw [e8]
    exact (hh x s hx hs).trans (congrArg io (hot_congr x s (fun _ _ => rfl)))
theorem RpR_cut {L : Lh} {M : Mem} {n : Nat} (hR : RpR 0 L M) (hn : n ≤ L.1 8) : RpR 0 (Lcut L n) (st M 7 7 (io n)) := by
  obtain ⟨r1, r2, r3, r4, r5⟩ := hR
  have e : ∀ i, i ≠ 8 → (Lcut L n).1 i = L.1 i := fun i hi => fu_ne hi
  have e8 : (Lcut L n).1 8 = n := by
    show fu L.1 8 n 8 = _
    exact fu_eq
  refine ⟨?_, fun i hi => ?_, fun x hx => ?_, fun x w hx hw => ?_, fun a ha => ?_⟩
  · rw [e 0 (by decide), stne (by decide)]; exact r1
  · by_cases c : i = 7
    · subst c
      rw [show 7 + 1 = 8 from rfl, e8]
      simp [st]
    · rw [e (i + 1) (by omega), st_rd (by omega)]; exact r2 i hi
  · rw [e 6 (by decide)] at hx
    rw [stne (by decide)]; exact r3 x hx
  · rw [e 7 (by decide)] at hx
    rw [stne (by decide)]; exact r4 x w hx hw
  · rw [e8] at ha
    rw [stne (by decide)]; exact r5 a (by omega)
theorem st_st {M : Mem} {a k : Nat} {v w : Int32} : st (st M a k v) a k w = st M a k w := by
  unfold st
  congr 1
  funext i j
  by_cases c : i = a ∧ j = k
  · simp only [if_pos c]
  · simp only [if_neg c]
theorem gatherC {L : Lh} {M : Mem} {n : Nat} (hL : OkL L) (hn : n ≤ L.1 8) (h0 : M.1 20 0 = io n) (hz : ∀ a, a < L.1 8 → M.1 21 a = actz L a) (hs : ∀ a, a < L.1 8 → M.1 23 a = io (L.2.2.2 a 3)) : f_X0_gatherGusts 20 M = some (st M 20 1 (io (bN (gst L n) 15))) := by
  have h30 := hL.2.2.1.2.2.2.2.2.2.2.2
  unfold f_X0_gatherGusts
  rw [letv_eq]
  refine up2 (fun i => io i) (fun i => st M 20 1 (io (bN (gst L i) 15))) n rfl (by
    have : bN (gst L 0) 15 = 0 := bN_zero.mpr (fun i _ => rfl)
    rw [this]; rfl) (by omega) (fun i hi K => ?_) (fun K => ?_)
  · unfold L_X0_gatherGusts_7
    have hi8 : i < L.1 8 := by omega
    have e0 : (st M 20 1 (io (bN (gst L i) 15))).1 20 0 = io n := by rw [st_rd (by decide)]; exact h0
    have e1 : (st M 20 1 (io (bN (gst L i) 15))).1 20 1 = io (bN (gst L i) 15) := by simp [st]
    have e2 : (st M 20 1 (io (bN (gst L i) 15))).1 21 i = actz L i := by rw [stne (by decide)]; exact hz i hi8
    have e3 : (st M 20 1 (io (bN (gst L i) 15))).1 23 i = io (L.2.2.2 i 3) := by rw [stne (by decide)]; exact hs i hi8
    have ha := hL.2.2.2.2.2 i hi8
    rw [e0, if_neg (show ¬ io n ≤ io i by rw [io_le (by omega) (by omega)]; omega), if_neg (show ¬ (30 : Int32) ≤ io i by rw [show (30 : Int32) = io 30 from rfl, io_le (by omega) (by omega)]; omega), rc20.1, rc20.2.2.1]
    simp (disch := omega) only [oob_f, Bool.false_eq_true, if_false, ix_io, letv_eq, e1, e2, e3]
    have eg : bN (gst L (i + 1)) 15 = bN (fun s => gst L i s || (decide (L.2.2.2 i 0 = 1) && decide (L.2.2.2 i 3 = s))) 15 := bN_congr (fun s _ => rfl)
    rw [eg, st_st, show io i + 1 = io (i + 1) from io_add i 1]
    unfold actz
    rcases ha with ⟨a0, a1, -, -⟩ | ⟨a0, -, a3⟩
    · have hz7 := hL.2.2.1.2.2.2.2.2.2.1
      rw [if_neg (show ¬ L.2.2.2 i 0 = 1 by omega), if_neg (show ¬ io (L.2.2.2 i 1) = -1 from fun q => (io_m1 (a := L.2.2.2 i 1) (by omega)).mp q)]
      congr 3
      exact bN_congr (fun s _ => by simp [show ¬ L.2.2.2 i 0 = 1 by omega])
    · rw [if_pos a0, if_pos (show m1 = -1 from rfl), show (1 : Int32) <<< (io (L.2.2.2 i 3) &&& 31) = io (2 ^ L.2.2.2 i 3) from io_shl (by omega), io_or, orbit (by omega)]
      congr 3
      exact bN_congr (fun s _ => by simp [a0])
  · unfold L_X0_gatherGusts_7
    have e0 : (st M 20 1 (io (bN (gst L n) 15))).1 20 0 = io n := by rw [st_rd (by decide)]; exact h0
    rw [e0, if_pos (show io n ≤ io n by rw [io_le (by omega) (by omega)]; omega)]
theorem op_74 : ∀ (Mc Mr : Mem), Rel Mc Mr → ∃ (r : Int32) (Mc' Mr' : Mem), f_X10_undo Mc = some (r, Mc') ∧ f_X11_undo Mr = some (r, Mr') ∧ Rel Mc' Mr' := by
  intro Mc Mr h
  obtain ⟨hX, L, hN⟩ := h.split
  have hk := kr0 Mr
  have hN1 := hN.kr hk
  have h7 := hN.1.2.2.1
  unfold f_X10_undo f_X11_undo
  rw [show (letv (st Mr 0 0 0) _ : Option (Int32 × Mem)) = _ from letv_eq _ _]
  rw [toldC (hN.2.1.1 0 (by omega)) (by omega), lehrR hN.1 hN1.2.2.1]
  rw [bnd_s, ite01, ite01]
  rcases (Classical.em (0 < L.1 0)).symm with h0 | h0
  · rw [if_neg h0, if_neg h0]
    exact ⟨_, Mc, _, rfl, rfl, h.kr hk⟩
  rw [if_pos h0, if_pos h0, show oob 7 40 = false from rfl, show ix 7 = 7 from rfl, show (st Mr 0 0 0).1 7 7 = io (L.1 8) from numR hN1.2.2.1 (by omega)]
  simp only [Bool.false_eq_true, if_false]
  have e20 : Mc.1 20 0 = io (L.1 8) := hN.2.1.2.1.1
  unfold f_X0_takeBack
  rw [e20]
  rcases Nat.eq_zero_or_pos (L.1 8) with c0 | c0
  · rw [c0, if_pos (show io 0 < 1 by decide), bnd2_s, if_pos rfl, if_pos (show io 0 = 0 from rfl)]
    exact ⟨_, Mc, _, rfl, rfl, h.kr hk⟩
  have hm : L.1 8 - 1 < L.1 8 := by omega
  have ha := hN.1.2.2.2.2.2 (L.1 8 - 1) hm
  obtain ⟨q1, q2, q3⟩ := hN.2.1.2.2.2.2.1 (L.1 8 - 1) hm
  rw [if_neg (show ¬ io (L.1 8) < 1 by rw [show (1 : Int32) = io 1 from rfl, io_lt (by omega) (by omega)]; omega), if_pos (show io (L.1 8) ≤ 30 by rw [show (30 : Int32) = io 30 from rfl, io_le (by omega) (by omega)]; omega), show io (L.1 8) - (1 : Int32) = io (L.1 8 - 1) from io_sub (b := 1) (by omega), if_neg (show ¬ io (L.1 8) = 0 from fun q => by have := (io_inj (a := L.1 8) (b := 0) (by omega) (by omega)).mp q; omega)]
  have s0 : (st Mc 20 0 (io (L.1 8 - 1))).1 20 0 = io (L.1 8 - 1) := by simp [st]
  have s21 : (st Mc 20 0 (io (L.1 8 - 1))).1 21 (L.1 8 - 1) = actz L (L.1 8 - 1) := by rw [stne (by decide)]; exact q1
  have s22 : (st Mc 20 0 (io (L.1 8 - 1))).1 22 (L.1 8 - 1) = io (L.2.2.2 (L.1 8 - 1) 2) := by rw [stne (by decide)]; exact q2
  have s23 : (st Mc 20 0 (io (L.1 8 - 1))).1 23 (L.1 8 - 1) = io (L.2.2.2 (L.1 8 - 1) 3) := by rw [stne (by decide)]; exact q3
  rw [rc20.1, rc20.2.1, rc20.2.2.1]
  simp (disch := omega) only [letv_eq, s0, oob_f, Bool.false_eq_true, if_false, ix_io, s21, s22, s23]
  have fin : ∀ M2, (∀ a, a ∉ [20, 24] → M2.1 a = Mc.1 a) → M2.2 = Mc.2 → M2.1 20 0 = io (L.1 8 - 1) → M2.1 20 1 = io (bN (gst L (L.1 8 - 1)) 15) → (∀ zz s, zz < 7 → s < 15 → M2.1 24 (zz * 15 + s) = io (hot L (L.1 8 - 1) zz s)) → ∃ r Mc' Mr', bnd2 (some ((1 : Int32), M2)) (fun r2 M4 => if r2 = 0 then some (-5, M4) else some ((st M4 0 10 0).1 20 0, st M4 0 10 0)) = some (r, Mc') ∧ some ((st (st Mr 0 0 0) 7 7 (io (L.1 8 - 1))).1 7 7, st (st Mr 0 0 0) 7 7 (io (L.1 8 - 1))) = some (r, Mr') ∧ Rel Mc' Mr' := by
    intro M2 g1 g2 g3 g4 g5
    rw [bnd2_s, if_neg (by decide)]
    refine ⟨io (L.1 8 - 1), st M2 0 10 0, st (st Mr 0 0 0) 7 7 (io (L.1 8 - 1)), ?_, ?_, Rel.ofX (L := Lcut L (L.1 8 - 1)) ?_ ⟨Lcut_ok hN.1 h0 (by omega), ?_, RpR_cut hN1.2.2.1 (by omega), Or.inl (by simp [st]; rfl)⟩⟩
    · rw [stne (by decide), g3]
    · have : (st (st Mr 0 0 0) 7 7 (io (L.1 8 - 1))).1 7 7 = io (L.1 8 - 1) := by simp [st]
      rw [this]
    · refine (hX.kx (KX.sto ?_ (by decide))).k0 (hk.k0.st7 (by omega))
      exact ⟨fun a ha => g1 a (by rcases ha with ha | ha; revert a; decide; simp; omega), fun a _ => by rw [g2]⟩
    · refine RpC_cut hN.2.1 (by omega) (fun a ha => ?_) ?_ ?_ (fun zz s hzz hs => ?_)
      · have n20 : a ≠ 20 := fun q => ha (by rw [q]; decide)
        have n24 : a ≠ 24 := fun q => ha (by rw [q]; decide)
        have n0 : a ≠ 0 := fun q => ha (by rw [q]; decide)
        rw [stne n0]; exact g1 a (by simp; omega)
      · rw [stne (by decide)]; exact g3
      · rw [stne (by decide)]; exact g4
      · rw [stne (by decide)]; exact g5 zz s hzz hs
  have es : L.1 8 = L.1 8 - 1 + 1 := by omega
  have hotE : ∀ zz s, hot L (L.1 8) zz s = hot L (L.1 8 - 1) zz s + if L.2.2.2 (L.1 8 - 1) 0 = 0 ∧ L.2.2.2 (L.1 8 - 1) 1 = zz ∧ L.2.2.2 (L.1 8 - 1) 3 ≤ s then L.2.2.2 (L.1 8 - 1) 2 else 0 := fun zz s => by
    conv => lhs; rw [es]
    rfl
  have gstE : ∀ s, gst L (L.1 8) s = (gst L (L.1 8 - 1) s || (decide (L.2.2.2 (L.1 8 - 1) 0 = 1) && decide (L.2.2.2 (L.1 8 - 1) 3 = s))) := fun s => by
    conv => lhs; rw [es]
    rfl
  unfold actz
  rcases ha with ⟨a0, a1, a2, a3⟩ | ⟨a0, -, a3⟩
  · rw [if_neg (show ¬ L.2.2.2 (L.1 8 - 1) 0 = 1 by omega), if_neg (show ¬ io (L.2.2.2 (L.1 8 - 1) 1) = -1 from fun q => (io_m1 (a := L.2.2.2 (L.1 8 - 1) 1) (by omega)).mp q), heatC (by omega) (by omega), bnd_s]
    refine fin _ (fun a ha => ?_) rfl ?_ ?_ (fun zz s hzz hs => ?_)
    · have n20 : a ≠ 20 := fun q => ha (by rw [q]; decide)
      have n24 : a ≠ 24 := fun q => ha (by rw [q]; decide)
      rw [hm_ne n24, stne n20]
    · rw [hm_ne (by decide)]; exact s0
    · rw [hm_ne (by decide), st_rd (by decide)]
      refine (hN.2.1.2.1.2).trans (congrArg io (bN_congr (fun s _ => ?_)))
      rw [gstE]; simp [show ¬ L.2.2.2 (L.1 8 - 1) 0 = 1 by omega]
    · have e24 : (st Mc 20 0 (io (L.1 8 - 1))).1 24 (zz * 15 + s) = io (hot L (L.1 8) zz s) := by
        rw [stne (by decide)]; exact hN.2.1.2.2.2.2.2 zz s hzz hs
      rw [hm_rd hs (by omega), e24, hotE]
      by_cases c : zz = L.2.2.2 (L.1 8 - 1) 1 ∧ L.2.2.2 (L.1 8 - 1) 3 ≤ s
      · rw [if_pos c, if_pos ⟨a0, c.1.symm, c.2⟩, ← Int32.sub_eq_add_neg, io_sub (by omega)]
        congr 1; omega
      · rw [if_neg c, if_neg (fun q => c ⟨q.2.1.symm, q.2.2⟩)]; rfl
  · rw [if_pos a0, if_pos (show m1 = -1 from rfl), gatherC hN.1 (n := L.1 8 - 1) (by omega) s0 (fun a ha => by rw [stne (by decide)]; exact (hN.2.1.2.2.2.2.1 a ha).1) (fun a ha => by rw [stne (by decide)]; exact (hN.2.1.2.2.2.2.1 a ha).2.2), bnd_s]
    refine fin _ (fun a ha => ?_) rfl ?_ ?_ (fun zz s hzz hs => ?_)
    · have n20 : a ≠ 20 := fun q => ha (by rw [q]; decide)
      rw [stne n20, stne n20]
    · rw [st_rd (by decide)]; exact s0
    · simp [st]
    · rw [stne (by decide), stne (by decide)]
      refine (hN.2.1.2.2.2.2.2 zz s hzz hs).trans (congrArg io ?_)
      rw [hotE, if_neg (fun q => by omega)]; rfl
theorem fillC {p0 np : Nat} {v : Int32} {M : Mem} (hn : np ≤ 200) : ∃ M', f_J7_fill_53178 p0 v np M = some M' ∧ M'.2 = M.2 ∧ (∀ j, j < np → M'.1 p0 j = v) ∧ ∀ a, a ≠ p0 → M'.1 a = M.1 a := by
  unfold f_J7_fill_53178
  rw [letv_eq]
  obtain ⟨x, M1, ⟨rfl, h1, h2, h3⟩, hM1⟩ := in2 (b := L_J7_fill_53178_5 p0 v np (Int32.ofNat np)) (fun i x M1 => x = io i ∧ M1.2 = M.2 ∧ (∀ j, j < i → M1.1 p0 j = v) ∧ ∀ a, a ≠ p0 → M1.1 a = M.1 a) (fun _ M => some M) np (x := 0) (y := M) ⟨rfl, rfl, fun j hj => absurd hj (Nat.not_lt_zero _), fun _ _ => rfl⟩ (by omega) (fun i x M1 hi h => by
      obtain ⟨rfl, h1, h2, h3⟩ := h
      refine ⟨io (i + 1), st M1 p0 i v, ⟨rfl, h1, fun j hj => ?_, fun a ha => ?_⟩, fun K => ?_⟩
      · by_cases e : j = i
        · subst e; simp [st]
        · have := h2 j (by omega)
          simp [st, e, this]
      · rw [stne ha]; exact h3 a ha
      · unfold L_J7_fill_53178_5
        rw [show Int32.ofNat np = io np from rfl, if_neg (by rw [io_le (by omega) (by omega)]; omega), oob_f hi (by omega), ix_io (by omega), letv_eq, show io i + 1 = io (i + 1) from io_add i 1]
        rfl) (fun x M1 h K => by
      obtain ⟨rfl, -⟩ := h
      unfold L_J7_fill_53178_5
      rw [show Int32.ofNat np = io np from rfl, if_pos (by rw [io_le (by omega) (by omega)]; omega)])
  exact ⟨M1, hM1, h1, h2, h3⟩
theorem clearC {M : Mem} : ∃ M', f_X0_clear 20 M = some M' ∧ M'.2 = M.2 ∧ M'.1 20 0 = io 0 ∧ M'.1 20 1 = io 0 ∧ (∀ j, j < 105 → M'.1 24 j = io 0) ∧ ∀ a, a ∉ [20, 24] → M'.1 a = M.1 a := by
  unfold f_X0_clear
  rw [letv_eq, letv_eq, rc20.2.2.2]
  obtain ⟨M', e, f1, f2, f3⟩ := fillC (p0 := 24) (np := 105) (v := 0) (M := st (st M 20 0 0) 20 1 0) (by omega)
  rw [e, bnd_s]
  refine ⟨M', rfl, f1, ?_, ?_, f2, fun a ha => ?_⟩
  · rw [f3 20 (by decide)]; simp [st]; rfl
  · rw [f3 20 (by decide)]; simp [st]; rfl
  · have n20 : a ≠ 20 := fun q => ha (by rw [q]; decide)
    have n24 : a ≠ 24 := fun q => ha (by rw [q]; decide)
    rw [f3 a n24, stne n20, stne n20]
theorem op_75 : ∀ (Mc Mr : Mem), Rel Mc Mr → ∃ (r : Int32) (Mc' Mr' : Mem), f_X10_anew Mc = some (r, Mc') ∧ f_X11_anew Mr = some (r, Mr') ∧ Rel Mc' Mr' := by
  intro Mc Mr h
  obtain ⟨hX, L, hN⟩ := h.split
  have hk := kr0 Mr
  have hN1 := hN.kr hk
  have h7 := hN.1.2.2.1
  unfold f_X10_anew f_X11_anew
  rw [show (letv (st Mr 0 0 0) _ : Option (Int32 × Mem)) = _ from letv_eq _ _]
  rw [toldC (hN.2.1.1 0 (by omega)) (by omega), lehrR hN.1 hN1.2.2.1]
  rw [bnd_s, ite01, ite01]
  rcases (Classical.em (0 < L.1 0)).symm with h0 | h0
  · rw [if_neg h0, if_neg h0]
    exact ⟨_, Mc, _, rfl, rfl, h.kr hk⟩
  obtain ⟨M1, e1, f1, f2, f3, f4, f5⟩ := clearC (M := Mc)
  rw [if_pos h0, if_pos h0, show oob 7 40 = false from rfl, show ix 7 = 7 from rfl, show (st Mr 0 0 0).1 7 7 = io (L.1 8) from numR hN1.2.2.1 (by omega), show Mc.1 20 0 = io (L.1 8) from hN.2.1.2.1.1]
  simp only [Bool.false_eq_true, if_false, letv_eq]
  rw [e1, bnd_s]
  refine ⟨_, _, _, rfl, rfl, Rel.ofX (L := Lcut L 0) ?_ ⟨Lcut_ok hN.1 h0 (by omega), ?_, RpR_cut hN1.2.2.1 (by omega), Or.inl (by simp [st]; rfl)⟩⟩
  · refine (hX.kx (KX.sto ?_ (by decide))).k0 (hk.k0.st7 (by omega))
    exact ⟨fun a ha => f5 a (by rcases ha with ha | ha; revert a; decide; simp; omega), fun a _ => by rw [f1]⟩
  · refine RpC_cut hN.2.1 (by omega) (fun a ha => ?_) ?_ ?_ (fun zz s hzz hs => ?_)
    · have n20 : a ≠ 20 := fun q => ha (by rw [q]; decide)
      have n24 : a ≠ 24 := fun q => ha (by rw [q]; decide)
      have n0 : a ≠ 0 := fun q => ha (by rw [q]; decide)
      rw [stne n0]; exact f5 a (by simp; omega)
    · rw [stne (by decide)]; exact f2
    · rw [stne (by decide), f3, show bN (gst L 0) 15 = 0 from bN_zero.mpr (fun i _ => rfl)]
    · rw [stne (by decide), f4 _ (by omega)]; rfl
