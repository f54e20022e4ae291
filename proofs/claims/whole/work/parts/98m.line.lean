/-! A PIECE'S LINE, another word's, the first line's; then any line -/
theorem pieceB {n : Nat} {t : Nat → Int32} {a : Nat} {L : Lh} {Mc Mr : Mem} (hn : n ≤ 600) (h : Sb n t 0 a Mc Mr) (hB : OkB L) (hD : Dr0 L Mc Mr) (er0 : f_X11_is (lo (wn 6)) Mr = 0) (ew : f_X6_isWord 7 Mc = some 1) (er : f_X11_is (lo (wn 7)) Mr = 1) : ∃ Mc' Mr', f_X6_readPiece 7 Mc = some Mc' ∧ f_X11_lineHere Mr = some Mr' ∧ Bd n t a Mc Mr Mc' Mr' := by
  obtain ⟨D1, D2, D3, D4⟩ := hD
  obtain ⟨B1, ⟨B6, B7⟩, Bz, Bp⟩ := hB
  have c7 : Mc.1 7 7 = io (L.1 7) := (D1 6 (by omega)).1
  have r7 : Mr.1 7 38 = io (L.1 7) := (D1 6 (by omega)).2
  have e12 : Mr.1 0 12 = 0 := h.2.2.1.2.2.1
  rw [wlit.2.2.2.2.2.2.1] at er0
  rw [wlit.2.2.2.2.2.2.2.1] at er
  have eC : f_X6_readPiece 7 Mc = if Mc.1 7 7 < 6 then letv (Mc.1 7 7) (fun x2 => bnd (f_X6_expectWord 7 Mc) (fun M5 => pcC x2 M5)) else bnd (f_X6_fail (3 : Int32) Mc) (fun M29 => some M29) := rfl
  rw [eC]
  unfold f_X11_lineHere
  rw [er0, roomNo, bnd2_s, if_pos rfl, if_pos e12, er, c7]
  by_cases c : L.1 7 = 6
  · obtain ⟨Mc1, Mr1, e1, f1, g1, k1, q1⟩ := failS (k := 3) h (by omega)
    refine ⟨Mc1, Mr1, ?_, ?_, 3, a, g1, Nat.le_refl _, fun u => by omega, KpC.refl.lf k1, KpR.refl.lf q1⟩
    · rw [if_neg (show ¬ io (L.1 7) < 6 by rw [show (6 : Int32) = io 6 from rfl, io_lt (by omega) (by omega)]; omega), show f_X6_fail 3 Mc = _ from e1, bnd_s]
    · rw [show f_X11_isRoom 1 6 6 Mr = _ from roomFull (k := 6) (m := 6) (by omega) (r7.trans (congrArg io c)) f1 g1, bnd2_s, if_pos rfl, if_neg (g1.good (by omega)).2]
  · obtain ⟨Mc1, Mr1, a1, e1, f1, g1, k1, q1, m1, -⟩ := nextS hn h
    have c7a : Mc1.1 7 7 = io (L.1 7) := by rw [k1.1 7 (by decide)]; exact c7
    have r7a : Mr1.1 7 38 = io (L.1 7) := by rw [q1.1 7 (by decide)]; exact r7
    obtain ⟨v, Mc2, Mr2, b2, a2, e2, f2, g2, m2, hv, ⟨u0, u1, u2, u3, u7⟩, ⟨x9, x7⟩, k2, q2⟩ := pieceS (p := L.1 7) hn (by omega) c7a r7a g1
    have kC : ∀ cc j, cc ≠ 6 → ¬ (((cc = 9 ∨ cc = 10 ∨ cc = 11 ∨ cc = 12) ∧ j = L.1 7) ∨ (cc = 7 ∧ j = 7)) → Mc2.1 cc j = Mc.1 cc j := fun cc j hc hx => by rw [k2.1 cc j hc hx, k1.1 cc hc]
    have kR : ∀ cc j, cc ≠ 0 → ¬ ((cc = 9 ∧ 96 + 4 * L.1 7 ≤ j ∧ j < 96 + 4 * L.1 7 + 4) ∨ (cc = 7 ∧ j = 38)) → Mr2.1 cc j = Mr.1 cc j := fun cc j hc hx => by rw [q2.1 cc j hc hx, q1.1 cc hc]
    refine ⟨Mc2, Mr2, ?_, ?_, b2, a2, g2, by omega, fun u => ⟨(fu L.1 7 (L.1 7 + 1), L.2.1, fu L.2.2.1 (L.1 7) v, L.2.2.2), ⟨?_, ?_, ?_, fun p hp => ?_⟩, fun i hi => ?_, ?_, fun z hz => ?_, fun p hp => ?_⟩, (KpC.refl.lf k1).trans (k2.mono (fun cc j hx => ?_)), (KpR.refl.lf q1).trans (q2.mono (fun cc j hx => ?_))⟩
    · rw [if_pos (show io (L.1 7) < 6 by rw [show (6 : Int32) = io 6 from rfl, io_lt (by omega) (by omega)]; omega), letv_eq, takeC h ew e1, bnd_s, e2]
    · rw [show f_X11_isRoom 1 6 6 Mr = _ from roomYes (k := 6) (m := 6) (by omega) (by omega) r7 (by omega) h f1 g1, bnd2_s, if_neg (show ¬ (1 : Int32) = 0 by decide), f2, bnd_s]
    · exact B1
    · exact ⟨B6, by show fu L.1 7 (L.1 7 + 1) 7 ≤ 6; rw [fu_eq]; omega⟩
    · exact Bz
    · have hp' : p < L.1 7 + 1 := hp
      show fu L.2.2.1 (L.1 7) v p 0 ≤ 600 ∧ (1 ≤ fu L.2.2.1 (L.1 7) v p 1 ∧ fu L.2.2.1 (L.1 7) v p 1 ≤ 9) ∧ fu L.2.2.1 (L.1 7) v p 2 ≤ 300 ∧ fu L.2.2.1 (L.1 7) v p 3 ≤ 14
      by_cases e : p = L.1 7
      · rw [e, fu_eq]; exact hv
      · rw [fu_ne e]; exact Bp p (by omega)
    · show _ = io (fu L.1 7 (L.1 7 + 1) (i + 1)) ∧ _ = io (fu L.1 7 (L.1 7 + 1) (i + 1))
      by_cases e : i = 6
      · subst e
        rw [show (6 + 1) = 7 from rfl, fu_eq, show 32 + 6 = 38 from rfl]
        exact ⟨u7, x7⟩
      · rw [fu_ne (by omega), kC 7 (i + 1) (by decide) (by omega), kR 7 (32 + i) (by decide) (by omega)]
        exact D1 i hi
    · refine ⟨(show fu L.1 7 (L.1 7 + 1) 8 = L.1 8 from fu_ne (by decide)).trans D2.1, ?_⟩
      rw [kR 7 39 (by decide) (by omega)]
      exact D2.2
    · rw [kC 8 z (by decide) (by omega), kR 8 (28 + z) (by decide) (by omega)]
      exact D3 z hz
    · have hp' : p < L.1 7 + 1 := hp
      show (_ = io (fu L.2.2.1 (L.1 7) v p 0) ∧ _ = io (fu L.2.2.1 (L.1 7) v p 1) ∧ _ = io (fu L.2.2.1 (L.1 7) v p 2) ∧ _ = io (fu L.2.2.1 (L.1 7) v p 3)) ∧ ∀ w, w < 4 → _ = io (fu L.2.2.1 (L.1 7) v p w)
      by_cases e : p = L.1 7
      · rw [e, fu_eq]
        exact ⟨⟨u0, u1, u2, u3⟩, x9⟩
      · rw [fu_ne e, kC 9 p (by decide) (by omega), kC 10 p (by decide) (by omega), kC 11 p (by decide) (by omega), kC 12 p (by decide) (by omega)]
        refine ⟨(D4 p (by omega)).1, fun w hw => ?_⟩
        rw [kR 9 _ (by decide) (by omega)]
        exact (D4 p (by omega)).2 w hw
    · unfold XC; omega
    · unfold XR; omega
theorem otherB {n : Nat} {t : Nat → Int32} {a : Nat} {Mc Mr : Mem} (h : Sb n t 0 a Mc Mr) (er0 : f_X11_is (lo (wn 6)) Mr = 0) (er : f_X11_is (lo (wn 7)) Mr = 0) : ∃ Mc' Mr', f_X6_fail 1 Mc = some Mc' ∧ f_X11_lineHere Mr = some Mr' ∧ Bd n t a Mc Mr Mc' Mr' := by
  have e12 : Mr.1 0 12 = 0 := h.2.2.1.2.2.1
  rw [wlit.2.2.2.2.2.2.1] at er0
  rw [wlit.2.2.2.2.2.2.2.1] at er
  obtain ⟨Mc1, Mr1, e1, f1, g1, k1, q1⟩ := failS (k := 1) h (by omega)
  refine ⟨Mc1, Mr1, e1, ?_, 1, a, g1, Nat.le_refl _, fun u => by omega, KpC.refl.lf k1, KpR.refl.lf q1⟩
  unfold f_X11_lineHere
  rw [er0, roomNo, bnd2_s, if_pos rfl, if_pos e12, er, roomNo, bnd2_s, if_pos rfl, if_pos e12, show f_X11_fails 1 Mr = _ from f1, bnd_s]
theorem headB {n : Nat} {t : Nat → Int32} {a : Nat} {L : Lh} {Mc Mr : Mem} (hn : n ≤ 600) (h : Sb n t 0 a Mc Mr) (hz : ∀ i, L.1 i = 0) (hD : Dr0 L Mc Mr) : ∃ Mc' Mr', f_X6_readHead 7 Mc = some Mc' ∧ (∀ (K : Mem → Option (Int32 × Mem)), hdR K Mr = K Mr') ∧ Bd n t a Mc Mr Mc' Mr' := by
  obtain ⟨D1, D2, D3, D4⟩ := hD
  obtain ⟨v1, v2, v3, v4, v5, Mc1, Mr1, b1, a1, e1, f1, g1, m1, ⟨w1, w2, w3, w4, w5⟩, ⟨c1, c2, c3, c4, c5⟩, ⟨r1, r2, r3, r4, r5⟩, k1, q1⟩ := headS hn h
  refine ⟨Mc1, Mr1, e1, f1, b1, a1, g1, m1, fun _ => ⟨((fun i => if i = 1 then v1 else if i = 2 then v2 else if i = 3 then v3 else if i = 4 then v4 else if i = 5 then v5 else 0), L.2), ⟨⟨w1, w2, w3, w4, w5⟩, ⟨Nat.zero_le _, Nat.zero_le _⟩, fun z hz => absurd hz (Nat.not_lt_zero _), fun p hp => absurd hp (Nat.not_lt_zero _)⟩, fun i hi => ?_, ⟨rfl, ?_⟩, fun z hz => absurd hz (Nat.not_lt_zero _), fun p hp => absurd hp (Nat.not_lt_zero _)⟩, k1.mono (fun cc j hx => ?_), q1.mono (fun cc j hx => ?_)⟩
  · rcases (by omega : i = 0 ∨ i = 1 ∨ i = 2 ∨ i = 3 ∨ i = 4 ∨ i = 5 ∨ i = 6) with rfl | rfl | rfl | rfl | rfl | rfl | rfl
    · exact ⟨c1, r1⟩
    · exact ⟨c2, r2⟩
    · exact ⟨c3, r3⟩
    · exact ⟨c4, r4⟩
    · exact ⟨c5, r5⟩
    · have := D1 5 (by omega)
      rw [hz] at this
      rw [k1.1 7 (5 + 1) (by decide) (by omega), q1.1 7 (32 + 5) (by decide) (by omega)]
      exact this
    · have := D1 6 (by omega)
      rw [hz] at this
      rw [k1.1 7 (6 + 1) (by decide) (by omega), q1.1 7 (32 + 6) (by decide) (by omega)]
      exact this
  · rw [q1.1 7 39 (by decide) (by omega)]; exact D2.2
  · unfold XC; omega
  · unfold XR; omega
/-- a line, the reference -/
def lnR (K : Mem → Option (Int32 × Mem)) (M : Mem) : Option (Int32 × Mem) :=
  if (M.1 6 4) = 0 then hdR (fun M62 => tlR K M62) M else bnd (f_X11_lineHere M) (fun M22 => tlR K M22)
def XC0 (c j : Nat) : Prop := 7 ≤ c ∧ c ≤ 12
def XR0 (c j : Nat) : Prop := XR c j ∨ (c = 6 ∧ j = 4)
theorem lineS {n : Nat} {t : Nat → Int32} {a : Nat} {L : Lh} {Mc Mr : Mem} (hn : n ≤ 600) (h : Sb n t 0 a Mc Mr) (hL : OkL L) (hD : Dr0 L Mc Mr) (c0 : Mc.1 7 0 = io (L.1 0)) (r0 : Mr.1 6 4 = io (L.1 0)) (hi : L.1 0 < 600) : ∃ Mc' Mr' b' a', f_X6_readLine 7 Mc = some Mc' ∧ (∀ K, lnR K Mr = K Mr') ∧ Sb n t b' a' Mc' Mr' ∧ (b' = 0 → a < a' ∧ ∃ L', OkL L' ∧ Dr0 L' Mc' Mr' ∧ L'.1 0 = L.1 0 + 1 ∧ Mc'.1 7 0 = io (L'.1 0) ∧ Mr'.1 6 4 = io (L'.1 0)) ∧ KpC XC0 Mc Mc' ∧ KpR XR0 Mr Mr' := by
  have body : ∃ Mc1 Mr1, f_X6_readLine 7 Mc = J_X6_readLine_54 7 Mc1 ∧ (∀ K, lnR K Mr = tlR K Mr1) ∧ Bd n t a Mc Mr Mc1 Mr1 := by
    unfold f_X6_readLine lnR
    rw [c0, r0]
    by_cases c : L.1 0 = 0
    · obtain ⟨Mc1, Mr1, e1, f1, g1⟩ := headB hn h (hL.1 c) hD
      refine ⟨Mc1, Mr1, ?_, fun K => ?_, g1⟩
      · rw [c, if_pos (show io 0 = 0 from rfl), e1, bnd_s]
      · rw [c, if_pos (show io 0 = 0 from rfl), f1]
    · have n0 : ¬ io (L.1 0) = 0 := fun q => c ((io_inj (b := 0) (by omega) (by omega)).mp q)
      have hB := OkB.of hL (by omega)
      rw [if_neg n0]
      rcases wordS (w := 6) hn (by omega) h with ⟨e6, f6, -⟩ | ⟨e6, f6⟩
      · obtain ⟨Mc1, Mr1, e1, f1, g1⟩ := zoneS hn h hB hD e6 f6
        refine ⟨Mc1, Mr1, ?_, fun K => ?_, g1⟩
        · rw [e6, bnd_s, if_neg (show ¬ (1 : Int32) = 0 by decide), e1, bnd_s]
        · rw [if_neg n0, f1, bnd_s]
      · rcases wordS (w := 7) hn (by omega) h with ⟨e7, f7, -⟩ | ⟨e7, f7⟩
        · obtain ⟨Mc1, Mr1, e1, f1, g1⟩ := pieceB hn h hB hD f6 e7 f7
          refine ⟨Mc1, Mr1, ?_, fun K => ?_, g1⟩
          · rw [e6, bnd_s, if_pos rfl, e7, bnd_s, if_neg (show ¬ (1 : Int32) = 0 by decide), e1, bnd_s]
          · rw [if_neg n0, f1, bnd_s]
        · obtain ⟨Mc1, Mr1, e1, f1, g1⟩ := otherB h f6 f7
          refine ⟨Mc1, Mr1, ?_, fun K => ?_, g1⟩
          · rw [e6, bnd_s, if_pos rfl, e7, bnd_s, if_pos rfl, e1, bnd_s]
          · rw [if_neg n0, f1, bnd_s]
  obtain ⟨Mc1, Mr1, e1, f1, b1, a1, g1, m1, d1, k1, q1⟩ := body
  have x1 : Mc1.1 7 0 = io (L.1 0) := by rw [k1.1 7 0 (by decide) (by unfold XC; omega)]; exact c0
  have x2 : Mr1.1 6 4 = io (L.1 0) := by rw [q1.1 6 4 (by decide) (by unfold XR; omega)]; exact r0
  obtain ⟨Mc2, Mr2, b2, a2, e2, f2, g2, d2, k2, q2⟩ := tailS hn x1 x2 g1
  refine ⟨Mc2, Mr2, b2, a2, by rw [e1, e2], fun K => by rw [f1, f2], g2, fun u => ?_, (k1.mono (fun c j hx => ?_)).trans (k2.mono (fun c j hx => ?_)), (q1.mono (fun c j hx => Or.inl hx)).trans (q2.mono (fun c j hx => Or.inr hx))⟩
  · obtain ⟨y1, y2, y3, y4⟩ := d2 u
    obtain ⟨L1, o1, o2⟩ := d1 y1
    refine ⟨by omega, Lln L1 (L.1 0 + 1), o1.ok o2.2.1.1 (by omega) (by omega), (o2.kp k2 q2).ln, ?_, ?_, ?_⟩
    · exact (show fu L1.1 0 (L.1 0 + 1) 0 = _ from fu_eq)
    · rw [y3]; exact congrArg io (show fu L1.1 0 (L.1 0 + 1) 0 = _ from fu_eq).symm
    · rw [y4]; exact congrArg io (show fu L1.1 0 (L.1 0 + 1) 0 = _ from fu_eq).symm
  · exact ⟨hx.1, hx.2.1⟩
  · unfold XC0; omega
