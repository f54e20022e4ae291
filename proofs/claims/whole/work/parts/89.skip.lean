/-! SKIP -/
theorem cpI_in {M : Mem} {a s b d n j : Nat} (h1 : d ≤ j) (h2 : j < d + n) : (cpI M a s b d n).1 b j = M.1 a (s + (j - d)) := by
  show (if b = b then va_cpy (M.1 a) (M.1 b) s d n j else _) = _
  rw [if_pos rfl]
  unfold va_cpy
  rw [if_pos (by omega)]
theorem cpI_out {M : Mem} {a s b d n j : Nat} (h : j < d ∨ d + n ≤ j) : (cpI M a s b d n).1 b j = M.1 b j := by
  show (if b = b then va_cpy (M.1 a) (M.1 b) s d n j else _) = _
  rw [if_pos rfl]
  unfold va_cpy
  rw [if_neg (by omega)]
theorem oob2_f {a b n : Nat} (ha : a < 2147483648) (hb : b < 2147483648) (h : a + b ≤ n) : oob2 (io a) (io b) n = false := by
  unfold oob2
  apply decide_eq_false
  have e1 : (io a).toNatClampNeg = a := ix_io ha
  have e2 : (io b).toNatClampNeg = b := ix_io hb
  rw [e1, e2]
  rintro (q | q | q)
  · have := (io_lt (b := 0) ha (by omega)).mp q; omega
  · have := (io_lt (b := 0) hb (by omega)).mp q; omega
  · omega
def skT (L : Lh) (z : Nat) : Nat → Nat := fun y => if y < z then L.2.1 y else L.2.1 (y + 1)
def skF (L : Lh) (z : Nat) : Cf := rcf L (fu L.1 6 (L.1 6 - 1)) L.2.2.1 (skT L z) 0 z
theorem Lk.sk {L : Lh} {z : Nat} (hL : OkL L) (h0 : 0 < L.1 0) (hz : z < L.1 6) : Lk L (fu L.1 6 (L.1 6 - 1)) L.2.2.1 (skT L z) 0 z := by
  have g := hL.2.2.1
  obtain ⟨⟨a1, a2, a3, a4, a5, a6⟩, b, c, d, e⟩ := Lk.now hL h0
  refine ⟨⟨fu_ne (by decide), fu_ne (by decide), fu_ne (by decide), by rw [fu_ne (by decide)]; exact a4, by rw [fu_ne (by decide)]; exact a5, by rw [fu_eq]; omega⟩, b, by omega, fun y hy => ?_, e⟩
  rw [fu_eq] at hy
  unfold skT
  split
  · exact d y (by omega)
  · exact d (y + 1) (by omega)
theorem leaveC {L : Lh} {M : Mem} {z : Nat} (hL : OkL L) (h0 : 0 < L.1 0) (hC : RpC 35 L M) (hz : z < L.1 6) : ∃ M', f_X1_leaveOut 34 (io z) M = some M' ∧ Tc (skF L z) M' ∧ KC M M' := by
  have g := hL.2.2.1
  have e : f_X1_leaveOut 34 (io z) M = some (st (cpI (cpI M 45 ((z + 1) * 15) 45 (z * 15) (105 - (z + 1) * 15)) 36 (z + 1) 36 z (6 - z)) 35 6 (io (L.1 6 - 1))) := by
    unfold f_X1_leaveOut f_X0_leaveOut f_X5_leaveOut
    rw [show rC 34 1 = 41 by decide, show rC 34 0 = 35 by decide, show rC 41 5 = 45 by decide, show rC 35 8 = 36 by decide]
    simp only [lit, letv_eq]
    rw [if_neg (show ¬ io z < io 0 by rw [io_lt (by omega) (by omega)]; omega), if_neg (show ¬ io 7 ≤ io z by rw [io_le (by omega) (by omega)]; omega), io_add, io_mul, io_mul, io_sub (by omega)]
    rw [show oob2 (io ((z + 1) * 15)) (io (105 - (z + 1) * 15)) 105 = false from oob2_f (by omega) (by omega) (by omega), show oob2 (io (z * 15)) (io (105 - (z + 1) * 15)) 105 = false from oob2_f (by omega) (by omega) (by omega)]
    simp only [Bool.false_eq_true, if_false, bnd_s]
    have h6 : (cpI M 45 (ix (io ((z + 1) * 15))) 45 (ix (io (z * 15))) (ix (io (105 - (z + 1) * 15)))).1 35 6 = io (L.1 6) := by
      rw [cpI_ne (by decide)]; exact hC.1 6 (by omega)
    have hh := zoneC h6 (by omega) (io z)
    rw [if_pos (pos_io hz (by omega))] at hh
    rw [hh, if_neg (show ¬ (1 : Int32) = io 0 by decide), io_sub (by omega)]
    rw [show oob2 (io (z + 1)) (io (6 - z)) 7 = false from oob2_f (by omega) (by omega) (by omega), show oob2 (io z) (io (6 - z)) 7 = false from oob2_f (by omega) (by omega) (by omega)]
    simp only [Bool.false_eq_true, if_false, bnd_s]
    rw [cpI_ne (c := 35) (by decide), h6, io_sub (by omega), ix_io (by omega), ix_io (by omega), ix_io (by omega), ix_io (by omega), ix_io (by omega), ix_io (by omega)]
  refine ⟨_, e, ?_, ?_⟩
  · unfold skF rcf
    refine Tc_of (L := L) (fun i hi => ?_) (by rw [fu_eq]; omega) (fun y hy => ?_) (fun p hp => ?_) ?_ (fun s hs => by simp) (fun y s hy hs => ?_)
    · by_cases c : i = 6
      · subst c; rw [fu_eq]; simp [st]
      · rw [fu_ne c, st_rd (fun q => c q.2), cpI_ne (by decide), cpI_ne (by decide)]; exact numsOf hC i hi
    · rw [fu_eq] at hy
      rw [stne (by decide)]
      have hd := (Lk.sk hL h0 hz).2.2.2.1 y (by rw [fu_eq]; exact hy)
      refine ⟨?_, hd⟩
      unfold skT
      by_cases c : y < z
      · rw [if_pos c, cpI_out (Or.inl c), cpI_ne (by decide)]; exact hC.2.2.1 y (by omega)
      · rw [if_neg c, cpI_in (by omega) (by omega), cpI_ne (by decide), show z + 1 + (y - z) = y + 1 by omega]; exact hC.2.2.1 (y + 1) (by omega)
    · rw [fu_ne (by decide)] at hp
      rw [stne (by decide), stne (by decide), stne (by decide), stne (by decide), cpI_ne (by decide), cpI_ne (by decide), cpI_ne (by decide), cpI_ne (by decide), cpI_ne (by decide), cpI_ne (by decide), cpI_ne (by decide), cpI_ne (by decide)]
      exact hC.2.2.2.1 p hp
    · rw [stne (by decide), cpI_ne (by decide), cpI_ne (by decide)]; exact hC.2.1.2
    · rw [fu_eq] at hy
      rw [stne (by decide), cpI_ne (by decide)]
      by_cases c : y < z
      · rw [if_pos c, cpI_out (Or.inl (by omega))]
        exact ⟨hC.2.2.2.2.2 y s (by omega) (by omega), hot_lt hL y s⟩
      · rw [if_neg c, cpI_in (by omega) (by omega), show (z + 1) * 15 + (y * 15 + s - z * 15) = (y + 1) * 15 + s by omega]
        exact ⟨hC.2.2.2.2.2 (y + 1) s (by omega) (by omega), hot_lt hL (y + 1) s⟩
  · refine KC.sto (KC.refl.fr (S := [36, 45]) (?_ : Fr [36, 45] M _) (by decide)) (by omega)
    exact ⟨fun a ha => by rw [cpI_ne (fun q => ha (by rw [q]; decide)), cpI_ne (fun q => ha (by rw [q]; decide))], rfl⟩
def skV (L : Lh) (z : Nat) : Nat := pop (nvc (skF L z))
theorem skipC {L : Lh} {M : Mem} (hL : OkL L) (h0 : 0 < L.1 0) (hC : RpC 14 L M) : ∃ M', f_X9_bestSkip M = some ((kb (skV L) io (m1, pop (nvc (tlF L L.2.1))) (L.1 6)).1, M') ∧ KC M M' := by
  have g := hL.2.2.1
  obtain ⟨M1, e1, hC1, k1⟩ := copyT hL hC
  obtain ⟨M2, e2, f2⟩ := cntC (M := M1) (tl := L.2.1) hL h0 hC1 (nowT_le hL) (fun _ _ => rfl) hC1.2.2.1
  have k2 := k1.trans (fr49 f2)
  unfold f_X9_bestSkip
  rw [e1, bnd_s, e2, bnd2_s]
  obtain ⟨r, ⟨r1, r2⟩, hr⟩ := in4x (b := L_X9_bestSkip_20) (fun i x y z M3 => x = (kb (skV L) io (m1, pop (nvc (tlF L L.2.1))) i).1 ∧ y = io (kb (skV L) io (m1, pop (nvc (tlF L L.2.1))) i).2 ∧ z = io i ∧ KC M M3) (fun r => r.1 = (kb (skV L) io (m1, pop (nvc (tlF L L.2.1))) (L.1 6)).1 ∧ KC M r.2) (L.1 6) (x := -1) (y := io (pop (nvc (tlF L L.2.1)))) (z := 0) (w := M2) ⟨rfl, rfl, rfl, k2⟩ (by omega) (fun i x y z M3 hi h => by
      obtain ⟨rfl, rfl, rfl, k3⟩ := h
      have hC3 := hC.kc k3 (by omega)
      obtain ⟨M4, e4, hC4, k4⟩ := copyT hL hC3
      obtain ⟨M5, e5, hT, k5⟩ := leaveC hL h0 hC4 hi
      obtain ⟨M6, e6, f6⟩ := tCount ((Lk.sk hL h0 hi).ok hL) hT
      have hk1 : (kb (skV L) io (m1, pop (nvc (tlF L L.2.1))) i).2 ≤ 8 := kb_le (fun _ => pop_le _) (pop_le _) i
      have hk2 : skV L i ≤ 8 := pop_le _
      refine ⟨(kb (skV L) io (m1, pop (nvc (tlF L L.2.1))) (i + 1)).1, io (kb (skV L) io (m1, pop (nvc (tlF L L.2.1))) (i + 1)).2, io (i + 1), M6, ⟨rfl, rfl, rfl, ((k3.trans k4).trans k5).trans (fr49 f6)⟩, fun K => ?_⟩
      unfold L_X9_bestSkip_20
      rw [show M3.1 14 6 = io (L.1 6) from hC3.1 6 (by omega), if_neg (by rw [io_le (by omega) (by omega)]; omega), e4, bnd_s, e5, bnd_s, e6, bnd2_s, show (1 : Int32) = io 1 from rfl, io_add]
      simp only [kb]
      by_cases c : skV L i ≤ (kb (skV L) io (m1, pop (nvc (tlF L L.2.1))) i).2
      · rw [if_pos (show io (pop (nvc (rcf L (fu L.1 6 (L.1 6 - 1)) L.2.2.1 (skT L i) 0 i))) ≤ _ from (io_le (a := skV L i) (by omega) (by omega)).mpr c), if_pos c]
      · rw [if_neg (show ¬ io (pop (nvc (rcf L (fu L.1 6 (L.1 6 - 1)) L.2.2.1 (skT L i) 0 i))) ≤ _ from fun q => c ((io_le (a := skV L i) (by omega) (by omega)).mp q)), if_neg c]; rfl) (fun x y z M3 h => by
      obtain ⟨rfl, rfl, rfl, k3⟩ := h
      refine ⟨(_, M3), ⟨rfl, k3⟩, fun K => ?_⟩
      unfold L_X9_bestSkip_20
      rw [show M3.1 14 6 = io (L.1 6) from (hC.kc k3 (by omega)).1 6 (by omega), if_pos (by rw [io_le (by omega) (by omega)]; omega)])
  exact ⟨r.2, by rw [hr, ← r1], r2⟩
theorem skipsR {L : Lh} {M : Mem} {z : Nat} (hL : OkL L) (hR : RpR 0 L M) (hz : z < L.1 6) (hs : Ls L L.1 L.2.2.1 L.2.1 0 (L.1 6) M) : ∃ M', f_X11_skips (io z) M = some M' ∧ Ls L (fu L.1 6 (L.1 6 - 1)) L.2.2.1 (skT L z) 0 z M' ∧ KR M M' := by
  have g := hL.2.2.1
  obtain ⟨⟨s1, s2, s3, s4, s5⟩, s6, s7⟩ := hs
  unfold f_X11_skips
  rw [s4, letv_eq, letv_eq, show (1 : Int32) = io 1 from rfl, io_sub (by omega)]
  have k2 : KR M (st (st M 0 25 (io (L.1 6 - 1))) 0 26 (io z)) := (KR.refl.st0 (by decide)).st0 (by decide)
  obtain ⟨r, ⟨r1, r2, r3⟩, hr⟩ := in2x (b := L_X11_skips_17 (io z)) (fun i x M3 => x = io (z + i) ∧ (∀ a, a ≠ 12 → M3.1 a = (st (st M 0 25 (io (L.1 6 - 1))) 0 26 (io z)).1 a) ∧ (∀ y, y < z + i → M3.1 12 y = io (skT L z y)) ∧ KR M M3) (fun r => (∀ a, a ≠ 12 → r.1 a = (st (st M 0 25 (io (L.1 6 - 1))) 0 26 (io z)).1 a) ∧ (∀ y, y < L.1 6 - 1 → r.1 12 y = io (skT L z y)) ∧ KR M r) (L.1 6 - 1 - z) (x := io z) (y := st (st M 0 25 (io (L.1 6 - 1))) 0 26 (io z)) ⟨rfl, fun _ _ => rfl, fun y hy => by
      rw [stne (by decide), stne (by decide)]
      unfold skT
      rw [if_pos (by omega)]
      exact s6 y (by omega), k2⟩ (by omega) (fun i x M3 hi h => by
      obtain ⟨rfl, g1, g2, k3⟩ := h
      have v8 : M3.1 8 (z + i + 1) = io (L.2.1 (z + i + 1)) := by
        have := (hR.kr k3).2.2.1 (z + i + 1) (by omega)
        rwa [show 7 * 0 + (z + i + 1) = z + i + 1 by omega] at this
      have v25 : M3.1 0 25 = io (L.1 6 - 1) := by rw [g1 0 (by decide)]; simp [st]
      refine ⟨io (z + (i + 1)), st M3 12 (z + i) (io (L.2.1 (z + i + 1))), ⟨rfl, fun a ha => by rw [stne ha]; exact g1 a ha, fun y hy => ?_, k3.sto (by decide)⟩, fun K => ?_⟩
      · unfold skT
        by_cases c : y = z + i
        · subst c; rw [if_neg (by omega)]; simp [st]
        · rw [st_rd (fun q => c q.2)]; exact g2 y (by omega)
      · unfold L_X11_skips_17
        rw [v25, if_neg (by rw [io_le (by omega) (by omega)]; omega), show (1 : Int32) = io 1 from rfl, io_add, oob_f (show z + i + 1 < 35 by omega) (by omega), oob_f (show z + i < 7 by omega) (by omega), ix_io (by omega), ix_io (by omega), v8]
        rfl) (fun x M3 h => by
      obtain ⟨rfl, g1, g2, k3⟩ := h
      have v25 : M3.1 0 25 = io (L.1 6 - 1) := by rw [g1 0 (by decide)]; simp [st]
      refine ⟨M3, ⟨g1, fun y hy => g2 y (by omega), k3⟩, fun K => ?_⟩
      unfold L_X11_skips_17
      rw [v25, if_pos (by rw [io_le (by omega) (by omega)]; omega)])
  refine ⟨r, hr, ⟨?_, fun y hy => r2 y (by rw [fu_eq] at hy; exact hy), ?_⟩, r3⟩
  · rw [r1 0 (by decide)]
    simp [st, fu, s1, s2, s3]
  · rw [r1 13 (by decide), r1 14 (by decide), stne (by decide), stne (by decide), stne (by decide), stne (by decide)]; exact s7
theorem skipR {L : Lh} {M : Mem} (hL : OkL L) (h0 : 0 < L.1 0) (hR : RpR 0 L M) : ∃ M', bnd (f_X11_laysNow M) (fun M7 => bnd (f_X11_soundNow M7) (fun r8 => bnd (f_X11_sizeOf r8 M7) (fun r10 => lq4 (L_X11_skip_31) FU (-1) r10 0 M7))) = some ((kb (skV L) io (m1, pop (nvc (tlF L L.2.1))) (L.1 6)).1, M') ∧ KR M M' := by
  have g := hL.2.2.1
  obtain ⟨M1, e1, e2, e3, k1⟩ := rNow hL h0 hR
  rw [e1, bnd_s, e2, bnd_s, e3, bnd_s]
  have n5 : ∀ {M2}, KR M M2 → M2.1 7 5 = io (L.1 6) := fun k => (hR.kr k).2.1 5 (by omega)
  obtain ⟨r, ⟨r1, r2⟩, hr⟩ := in4x (b := L_X11_skip_31) (fun i x y z M3 => x = (kb (skV L) io (m1, pop (nvc (tlF L L.2.1))) i).1 ∧ y = io (kb (skV L) io (m1, pop (nvc (tlF L L.2.1))) i).2 ∧ z = io i ∧ KR M M3) (fun r => r.1 = (kb (skV L) io (m1, pop (nvc (tlF L L.2.1))) (L.1 6)).1 ∧ KR M r.2) (L.1 6) (x := -1) (y := io (pop (nvc (tlF L L.2.1)))) (z := 0) (w := M1) ⟨rfl, rfl, rfl, k1⟩ (by omega) (fun i x y z M3 hi h => by
      obtain ⟨rfl, rfl, rfl, k3⟩ := h
      obtain ⟨M4, e4, hs4, k4⟩ := rLays hL (hR.kr k3)
      obtain ⟨M5, e5, hs5, k5⟩ := skipsR hL ((hR.kr k3).kr k4) hi hs4
      have hR5 := ((hR.kr k3).kr k4).kr k5
      have hlk := Lk.sk hL h0 hi
      obtain ⟨M6, e6, hT, -, k6⟩ := rRuns hL hR5 hlk hs5
      have hlt : nvc (skF L i) < 64 := nvc_lt (hlk.ok hL)
      have e7 : f_X11_soundNow M6 = some (io (nvc (skF L i))) := rSound hL (hlk.ok hL) (hR5.kr k6) hlk.1.2.2.1 hlk.1.1 hT
      have e8 : f_X11_sizeOf (io (nvc (skF L i))) M6 = some (io (skV L i)) := sizc (by omega) _
      have hk1 : (kb (skV L) io (m1, pop (nvc (tlF L L.2.1))) i).2 ≤ 8 := kb_le (fun _ => pop_le _) (pop_le _) i
      have hk2 : skV L i ≤ 8 := pop_le _
      refine ⟨(kb (skV L) io (m1, pop (nvc (tlF L L.2.1))) (i + 1)).1, io (kb (skV L) io (m1, pop (nvc (tlF L L.2.1))) (i + 1)).2, io (i + 1), M6, ⟨rfl, rfl, rfl, ((k3.trans k4).trans k5).trans k6⟩, fun K => ?_⟩
      unfold L_X11_skip_31
      rw [if_neg (by decide), show ix 5 = 5 from rfl, n5 k3, if_neg (by rw [io_le (by omega) (by omega)]; omega), e4, bnd_s, e5, bnd_s, e6, bnd_s, e7, bnd_s, e8, bnd_s, bnd_s, e8, bnd_s, show (1 : Int32) = io 1 from rfl, io_add]
      simp only [kb]
      by_cases c : skV L i ≤ (kb (skV L) io (m1, pop (nvc (tlF L L.2.1))) i).2
      · rw [if_neg (fun q => by have := (io_lt (b := skV L i) (by omega) (by omega)).mp q; omega), if_pos c]
      · rw [if_pos ((io_lt (b := skV L i) (by omega) (by omega)).mpr (by omega)), if_neg c]) (fun x y z M3 h => by
      obtain ⟨rfl, rfl, rfl, k3⟩ := h
      refine ⟨(_, M3), ⟨rfl, k3⟩, fun K => ?_⟩
      unfold L_X11_skip_31
      rw [if_neg (by decide), show ix 5 = 5 from rfl, n5 k3, if_pos (by rw [io_le (by omega) (by omega)]; omega)])
  exact ⟨r.2, by rw [hr, ← r1], r2⟩
theorem op_58 : ∀ (Mc Mr : Mem), Rel Mc Mr → ∃ (r : Int32) (Mc' Mr' : Mem), f_X10_skip Mc = some (r, Mc') ∧ f_X11_skip Mr = some (r, Mr') ∧ Rel Mc' Mr' :=
  opT2 (fun M => f_X9_bestSkip M) (fun M => bnd (f_X11_laysNow M) (fun M7 => bnd (f_X11_soundNow M7) (fun r8 => bnd (f_X11_sizeOf r8 M7) (fun r10 => lq4 (L_X11_skip_31) FU (-1) r10 0 M7)))) (fun M => by unfold f_X10_skip; rw [bnd2_id]) (fun M => rfl) (fun L Mc Mr hL h0 hC hR => ⟨_, skipC hL h0 hC, skipR hL h0 hR⟩)
