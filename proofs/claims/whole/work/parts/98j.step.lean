/-! TOKEN BY TOKEN, both sides in step -/
def Tk (n : Nat) (t : Nat → Int32) (a : Nat) (Mc Mr : Mem) : Prop := Mc.1 6 2 = io a ∧ Mr.1 0 9 = io a ∧ ∃ l, a + l ≤ n ∧ Mc.1 6 3 = io (a + l) ∧ Mr.1 0 7 = io (a + l) ∧ ((Mc.1 6 1 = io 4 ∧ Mr.1 0 8 = io 0) ∨ (1 ≤ l ∧ ((Mc.1 6 1 = io 1 ∧ Mr.1 0 8 = io 1 ∧ (∀ i, i < l → isW (t (a + i))) ∧ Mr.2 0 11 = wc t a l) ∨ (Mc.1 6 1 = io 2 ∧ Mr.1 0 8 = io 2 ∧ (∀ i, i < l → isD (t (a + i))) ∧ Mr.1 0 10 = io (nm t a l)) ∨ (Mc.1 6 1 = io 3 ∧ Mr.1 0 8 = io 3) ∨ (Mc.1 6 1 = io 0 ∧ Mr.1 0 8 = io 4))))
theorem kindW {x : Int32} (h : isW x) (M : Mem) : f_X6_kindOf x M = io 1 := by
  rcases kindC x M with q | q | q | q
  · exact q.2
  · exact absurd h q.1
  · exact absurd h q.1
  · exact absurd h q.1
theorem kindD {x : Int32} (h : isD x) (M : Mem) : f_X6_kindOf x M = io 2 := by
  have hw : ¬ isW x := fun q => by
    have h1 := Int32.le_iff_toInt_le.mp h.2
    have h2 := Int32.le_iff_toInt_le.mp q.1
    have e1 : (97 : Int32).toInt = 97 := rfl
    have e2 : (57 : Int32).toInt = 57 := rfl
    omega
  rcases kindC x M with q | q | q | q
  · exact absurd q.1 hw
  · exact q.2.2
  · exact absurd h q.2.1
  · exact absurd h q.2.1
theorem kindNW {x : Int32} (h : ¬ isW x) (M : Mem) : f_X6_kindOf x M ≠ io 1 := by
  rcases kindC x M with q | q | q | q
  · exact absurd q.1 h
  · rw [q.2.2]; decide
  · rw [q.2.2.2]; decide
  · rw [q.2.2.2]; decide
theorem kindND {x : Int32} (h : ¬ isD x) (M : Mem) : f_X6_kindOf x M ≠ io 2 := by
  rcases kindC x M with q | q | q | q
  · rw [q.2]; decide
  · exact absurd q.2.1 h
  · rw [q.2.2.2]; decide
  · rw [q.2.2.2]; decide
theorem nextAt {n pos : Nat} {t : Nat → Int32} {Mc Mr : Mem} (hn : n ≤ 600) (hC : TxC n t Mc) (hR : TxR n t Mr) (hp : pos ≤ n) (h1 : Mc.1 6 3 = io pos) (h2 : Mr.1 0 7 = io pos) : ∃ Mc' Mr' a, f_X6_nextToken Mc = some Mc' ∧ f_X11_next Mr = some Mr' ∧ Tk n t a Mc' Mr' ∧ FtC Mc Mc' ∧ FtR Mr Mr' ∧ pos ≤ a := by
  obtain ⟨m, m1, m2, m3⟩ := blanks n pos t hp
  have cC := nextC (a := pos + m) hn hC h1 m2 rfl m1 m3
  have cR := nextR (a := pos + m) hn hR h2 m2 rfl m1 m3
  generalize ha : pos + m = a at *
  by_cases c : a = n
  · obtain ⟨Mc', e, k1, k2, k3, k4⟩ := cC.1 c
    obtain ⟨Mr', f, r1, r2, r3, r4⟩ := cR.1 c
    exact ⟨Mc', Mr', a, e, f, ⟨k2, r2, 0, by omega, k3, r3, Or.inl ⟨k1, r1⟩⟩, k4, r4, by omega⟩
  · have hlt : a < n := by omega
    have dC := cC.2 hlt
    obtain ⟨rW, rD, rS, rX⟩ := cR.2 hlt
    by_cases cw : isW (t a)
    · obtain ⟨l, l1, l2, l3⟩ := runs_of n a (fun i => isW (t i)) m1
      have l0 : 1 ≤ l := by
        rcases Nat.eq_zero_or_pos l with q | q
        · subst q
          exact absurd cw (l3.resolve_left (by omega))
        · exact q
      obtain ⟨Mc', e, k1, k2, k3, k4⟩ := dC 1 l (by omega) (kindW cw) (Or.inr ⟨l0, l1, Or.inl rfl, fun i hi => kindW (l2 i hi), l3.imp id kindNW⟩)
      obtain ⟨Mr', f, r1, r2, r3, r4, r5⟩ := rW cw l l0 l1 l2 l3
      exact ⟨Mc', Mr', a, e, f, ⟨k2, r2, l, l1, k3, r3, Or.inr ⟨l0, Or.inl ⟨k1, r1, l2, r4⟩⟩⟩, k4, r5, by omega⟩
    · by_cases cd' : isD (t a)
      · obtain ⟨l, l1, l2, l3⟩ := runs_of n a (fun i => isD (t i)) m1
        have l0 : 1 ≤ l := by
          rcases Nat.eq_zero_or_pos l with q | q
          · subst q
            exact absurd cd' (l3.resolve_left (by omega))
          · exact q
        obtain ⟨Mc', e, k1, k2, k3, k4⟩ := dC 2 l (by omega) (kindD cd') (Or.inr ⟨l0, l1, Or.inr rfl, fun i hi => kindD (l2 i hi), l3.imp id kindND⟩)
        obtain ⟨Mr', f, r1, r2, r3, r4, r5⟩ := rD cw cd' l l0 l1 l2 l3
        exact ⟨Mc', Mr', a, e, f, ⟨k2, r2, l, l1, k3, r3, Or.inr ⟨l0, Or.inr (Or.inl ⟨k1, r1, l2, r4⟩)⟩⟩, k4, r5, by omega⟩
      · by_cases cs : t a = 59
        · have kS : ∀ M, f_X6_kindOf (t a) M = io 3 := fun M => by
            rcases kindC (t a) M with q | q | q | q
            · exact absurd q.1 cw
            · exact absurd q.2.1 cd'
            · exact q.2.2.2
            · exact absurd cs q.2.2.1
          obtain ⟨Mc', e, k1, k2, k3, k4⟩ := dC 3 1 (by omega) kS (Or.inl ⟨rfl, by omega, by omega⟩)
          obtain ⟨Mr', f, r1, r2, r3, r4⟩ := rS cw cd' cs
          exact ⟨Mc', Mr', a, e, f, ⟨k2, r2, 1, by omega, k3, r3, Or.inr ⟨by omega, Or.inr (Or.inr (Or.inl ⟨k1, r1⟩))⟩⟩, k4, r4, by omega⟩
        · have kX : ∀ M, f_X6_kindOf (t a) M = io 0 := fun M => by
            rcases kindC (t a) M with q | q | q | q
            · exact absurd q.1 cw
            · exact absurd q.2.1 cd'
            · exact absurd q.2.2.1 cs
            · exact q.2.2.2
          obtain ⟨Mc', e, k1, k2, k3, k4⟩ := dC 0 1 (by omega) kX (Or.inl ⟨rfl, by omega, by omega⟩)
          obtain ⟨Mr', f, r1, r2, r3, r4⟩ := rX cw cd' cs
          exact ⟨Mc', Mr', a, e, f, ⟨k2, r2, 1, by omega, k3, r3, Or.inr ⟨by omega, Or.inr (Or.inr (Or.inr ⟨k1, r1⟩))⟩⟩, k4, r4, by omega⟩
/-- what the reading changes beside the lehr that it reads -/
def LfC (M M' : Mem) : Prop := (∀ a, a ≠ 6 → M'.1 a = M.1 a) ∧ M'.2 = M.2
def LfR (M M' : Mem) : Prop := (∀ a, a ≠ 0 → M'.1 a = M.1 a) ∧ (∀ j, j ∈ [6, 14, 15] → M'.1 0 j = M.1 0 j) ∧ ∀ a, a ≠ 0 → M'.2 a = M.2 a
theorem LfC.refl {M : Mem} : LfC M M := ⟨fun _ _ => Eq.refl _, Eq.refl _⟩
theorem LfR.refl {M : Mem} : LfR M M := ⟨fun _ _ => Eq.refl _, fun _ _ => Eq.refl _, fun _ _ => Eq.refl _⟩
theorem LfC.trans {M M' M'' : Mem} (h : LfC M M') (g : LfC M' M'') : LfC M M'' := ⟨fun a ha => (g.1 a ha).trans (h.1 a ha), g.2.trans h.2⟩
theorem LfR.trans {M M' M'' : Mem} (h : LfR M M') (g : LfR M' M'') : LfR M M'' := ⟨fun a ha => (g.1 a ha).trans (h.1 a ha), fun j hj => (g.2.1 j hj).trans (h.2.1 j hj), fun a ha => (g.2.2 a ha).trans (h.2.2 a ha)⟩
theorem FtC.lf {M M' : Mem} (h : FtC M M') : LfC M M' := ⟨h.1, h.2.2⟩
theorem FtR.lf {M M' : Mem} (h : FtR M M') : LfR M M' := ⟨h.1, fun j hj => h.2.1 j (by revert hj; revert j; decide), h.2.2⟩
/-- where both stand: b the fault, a the token's first byte -/
def Sb (n : Nat) (t : Nat → Int32) (b a : Nat) (Mc Mr : Mem) : Prop := TxC n t Mc ∧ TxR n t Mr ∧ (b ≤ 3 ∧ Mc.1 6 4 = io b ∧ Mr.1 0 12 = io b ∧ Mc.1 6 5 = Mr.1 0 13 ∧ (b = 0 → Mc.1 6 5 = m1)) ∧ (b = 0 → Tk n t a Mc Mr)
theorem Sb.good {n : Nat} {t : Nat → Int32} {b a : Nat} {Mc Mr : Mem} (h : Sb n t b a Mc Mr) (hb : b ≠ 0) : ¬ Mc.1 6 4 = 0 ∧ ¬ Mr.1 0 12 = 0 := by
  rw [h.2.2.1.2.1, h.2.2.1.2.2.1]
  have := h.2.2.1.1
  exact ⟨fun q => hb ((io_inj (b := 0) (by omega) (by omega)).mp q), fun q => hb ((io_inj (b := 0) (by omega) (by omega)).mp q)⟩
theorem Sb.stC {n : Nat} {t : Nat → Int32} {b a p k : Nat} {v : Int32} {Mc Mr : Mem} (h : Sb n t b a Mc Mr) (hp : p ∉ [4, 5, 6]) : Sb n t b a (st Mc p k v) Mr := by
  have n4 : (4 : Nat) ≠ p := fun q => hp (by rw [← q]; decide)
  have n5 : (5 : Nat) ≠ p := fun q => hp (by rw [← q]; decide)
  have n6 : (6 : Nat) ≠ p := fun q => hp (by rw [← q]; decide)
  unfold Sb TxC Tk at *
  rw [stne n4, stne n5, stne n6]
  exact h
theorem Sb.stR {n : Nat} {t : Nat → Int32} {b a p k : Nat} {v : Int32} {Mc Mr : Mem} (h : Sb n t b a Mc Mr) (hp : p ∉ [0, 5]) : Sb n t b a Mc (st Mr p k v) := by
  have n0 : (0 : Nat) ≠ p := fun q => hp (by rw [← q]; decide)
  have n5 : (5 : Nat) ≠ p := fun q => hp (by rw [← q]; decide)
  unfold Sb TxR Tk at *
  rw [stne n0, stne n5]
  exact h
/-- the next token -/
theorem nextS {n : Nat} {t : Nat → Int32} {a : Nat} {Mc Mr : Mem} (hn : n ≤ 600) (h : Sb n t 0 a Mc Mr) : ∃ Mc' Mr' a', f_X6_nextToken Mc = some Mc' ∧ f_X11_next Mr = some Mr' ∧ Sb n t 0 a' Mc' Mr' ∧ LfC Mc Mc' ∧ LfR Mr Mr' ∧ a ≤ a' ∧ (Mc.1 6 1 ≠ io 4 → a < a') := by
  obtain ⟨hC, hR, ⟨-, b1, b2, b3, b4⟩, hT⟩ := h
  obtain ⟨q1, q2, l, q3, q4, q5, q6⟩ := hT rfl
  obtain ⟨Mc', Mr', a', e, f, g1, g2, g3, g4⟩ := nextAt hn hC hR q3 q4 q5
  refine ⟨Mc', Mr', a', e, f, ⟨hC.f g2, hR.f g3, ⟨by omega, ?_, ?_, ?_, fun _ => ?_⟩, fun _ => g1⟩, g2.lf, g3.lf, by omega, fun c => ?_⟩
  · rw [g2.2.1 4 (by decide)]; exact b1
  · rw [g3.2.1 12 (by decide)]; exact b2
  · rw [g2.2.1 5 (by decide), g3.2.1 13 (by decide)]; exact b3
  · rw [g2.2.1 5 (by decide)]; exact b4 rfl
  · rcases q6 with q | q
    · exact absurd q.1 c
    · omega
/-- a fault -/
theorem failS {n : Nat} {t : Nat → Int32} {a k : Nat} {Mc Mr : Mem} (h : Sb n t 0 a Mc Mr) (hk : 1 ≤ k ∧ k ≤ 3) : ∃ Mc' Mr', f_X6_fail (io k) Mc = some Mc' ∧ f_X11_fails (io k) Mr = some Mr' ∧ Sb n t k a Mc' Mr' ∧ LfC Mc Mc' ∧ LfR Mr Mr' := by
  obtain ⟨hC, hR, ⟨-, b1, b2, b3, b4⟩, hT⟩ := h
  obtain ⟨q1, q2, -⟩ := hT rfl
  refine ⟨st (st Mc 6 4 (io k)) 6 5 (io a), st (st Mr 0 12 (io k)) 0 13 (io a), ?_, ?_, ⟨?_, ?_, ⟨by omega, ?_, ?_, ?_, fun c => by omega⟩, fun c => by omega⟩, ⟨fun a ha => ?_, rfl⟩, ⟨fun a ha => ?_, fun j hj => ?_, fun _ _ => rfl⟩⟩
  · unfold f_X6_fail
    rw [letv_eq, letv_eq, show (st Mc 6 4 (io k)).1 6 2 = io a from by rw [st_rd (by decide)]; exact q1]
  · unfold f_X11_fails
    rw [if_pos (show Mr.1 0 12 = 0 from b2), letv_eq, letv_eq, show (st Mr 0 12 (io k)).1 0 9 = io a from by rw [st_rd (by decide)]; exact q2]
  · unfold TxC at *
    rw [stne (by decide), stne (by decide), stne (by decide), stne (by decide)]; exact hC
  · unfold TxR at *
    rw [st_rd (by decide), st_rd (by decide), stne (by decide), stne (by decide)]; exact hR
  · rw [st_rd (by decide)]; simp [st]
  · rw [st_rd (by decide)]; simp [st]
  · simp [st]
  · rw [stne ha, stne ha]
  · rw [stne ha, stne ha]
  · have n13 : j ≠ 13 := by rintro rfl; revert hj; decide
    have n12 : j ≠ 12 := by rintro rfl; revert hj; decide
    rw [st_rd (fun q => n13 q.2), st_rd (fun q => n12 q.2)]
/-- is it this word? -/
theorem wordS {n : Nat} {t : Nat → Int32} {a w : Nat} {Mc Mr : Mem} (hn : n ≤ 600) (hw : w < 12) (h : Sb n t 0 a Mc Mr) : (f_X6_isWord w Mc = some 1 ∧ f_X11_is (lo (wn w)) Mr = 1 ∧ Mc.1 6 1 ≠ io 4) ∨ (f_X6_isWord w Mc = some 0 ∧ f_X11_is (lo (wn w)) Mr = 0) := by
  obtain ⟨hC, hR, ⟨-, b1, b2, b3, b4⟩, hT⟩ := h
  obtain ⟨q1, q2, l, q3, q4, q5, q6⟩ := hT rfl
  rcases q6 with ⟨k1, k2⟩ | ⟨l0, ⟨k1, k2, k3, k4⟩ | ⟨k1, k2, -⟩ | ⟨k1, k2⟩ | ⟨k1, k2⟩⟩
  · exact Or.inr ⟨isWordC0 (by rw [k1]; decide), isR0 (Or.inr (by rw [k2]; decide))⟩
  · rcases isWordC hn hC hw k1 q1 q4 q3 with ⟨u, e⟩ | ⟨u, e⟩
    · rcases isR hw b2 k2 k3 k4 with ⟨v, f⟩ | ⟨v, f⟩
      · exact Or.inl ⟨e, f, by rw [k1]; decide⟩
      · exact absurd u v
    · rcases isR hw b2 k2 k3 k4 with ⟨v, f⟩ | ⟨v, f⟩
      · exact absurd v u
      · exact Or.inr ⟨e, f⟩
  · exact Or.inr ⟨isWordC0 (by rw [k1]; decide), isR0 (Or.inr (by rw [k2]; decide))⟩
  · exact Or.inr ⟨isWordC0 (by rw [k1]; decide), isR0 (Or.inr (by rw [k2]; decide))⟩
  · exact Or.inr ⟨isWordC0 (by rw [k1]; decide), isR0 (Or.inr (by rw [k2]; decide))⟩
/-- a word is asked for -/
theorem asksS {n : Nat} {t : Nat → Int32} {b a w : Nat} {Mc Mr : Mem} (hn : n ≤ 600) (hw : w < 12) (h : Sb n t b a Mc Mr) : ∃ Mc' Mr' b' a', f_X6_expectWord w Mc = some Mc' ∧ f_X11_asks (lo (wn w)) Mr = some Mr' ∧ Sb n t b' a' Mc' Mr' ∧ LfC Mc Mc' ∧ LfR Mr Mr' ∧ a ≤ a' := by
  unfold f_X6_expectWord f_X11_asks f_X11_takesWord
  by_cases c : b = 0
  · subst c
    rw [if_pos (show Mc.1 6 4 = 0 from h.2.2.1.2.1)]
    rcases wordS hn hw h with ⟨e, f, -⟩ | ⟨e, f⟩
    · obtain ⟨Mc', Mr', a', g1, g2, g3, g4, g5, g6, -⟩ := nextS hn h
      refine ⟨Mc', Mr', 0, a', ?_, ?_, g3, g4, g5, g6⟩
      · rw [e, bnd_s, if_neg (by decide), g1, bnd_s]
      · rw [f, if_neg (by decide), g2, bnd_s, bnd2_s, if_neg (by decide)]
    · obtain ⟨Mc', Mr', g1, g2, g3, g4, g5⟩ := failS (k := 1) h (by omega)
      refine ⟨Mc', Mr', 1, a, ?_, ?_, g3, g4, g5, Nat.le_refl _⟩
      · rw [e, bnd_s, if_pos rfl, show f_X6_fail 1 Mc = some Mc' from g1, bnd_s]
      · rw [f, if_pos rfl, bnd2_s, if_pos rfl, show f_X11_fails 1 Mr = some Mr' from g2, bnd_s]
  · obtain ⟨c1, c2⟩ := h.good c
    refine ⟨Mc, Mr, b, a, by rw [if_neg c1], ?_, h, LfC.refl, LfR.refl, Nat.le_refl _⟩
    rw [isR0 (Or.inl c2), if_pos rfl, bnd2_s, if_pos rfl]
    unfold f_X11_fails
    rw [if_neg c2, bnd_s]
/-- the rest of a named number, the class -/
def nmd (p2 p3 : Int32) (M3 : Mem) : Option (Int32 × Mem) :=
  if (M3.1 6 4) = 0 then
  if (M3.1 6 1) = 2 then
  bnd (f_X6_tokenNumber M3) (fun r6 =>
  if r6 < p2 then
  bnd (f_X6_fail (2 : Int32) M3) (fun M11 =>
  some (p2, M11))
  else
  if r6 ≤ p3 then
  bnd (f_X6_nextToken M3) (fun M15 =>
  some (r6, M15))
  else
  bnd (f_X6_fail (2 : Int32) M3) (fun M18 =>
  some (p2, M18)))
  else
  bnd (f_X6_fail (1 : Int32) M3) (fun M21 =>
  some (p2, M21))
  else
  some (p2, M3)
theorem named_eq {w : Nat} {p2 p3 : Int32} {M : Mem} : f_X6_readNamed w p2 p3 M = bnd (f_X6_expectWord w M) (fun M3 => nmd p2 p3 M3) := rfl
theorem numbS {n : Nat} {t : Nat → Int32} {b a l0 h0 : Nat} {Mc Mr : Mem} (hn : n ≤ 600) (hl : l0 ≤ h0) (hh : h0 ≤ 600) (h : Sb n t b a Mc Mr) : ∃ v Mc' Mr' b' a', nmd (io l0) (io h0) Mc = some (io v, Mc') ∧ f_X11_number (io l0) (io h0) Mr = some (io v, Mr') ∧ (l0 ≤ v ∧ v ≤ h0) ∧ Sb n t b' a' Mc' Mr' ∧ LfC Mc Mc' ∧ LfR Mr Mr' ∧ a ≤ a' := by
  unfold nmd f_X11_number
  by_cases c : b = 0
  · subst c
    rw [if_pos (show Mc.1 6 4 = 0 from h.2.2.1.2.1), if_pos (show Mr.1 0 12 = 0 from h.2.2.1.2.2.1)]
    obtain ⟨q1, q2, l, q3, q4, q5, q6⟩ := h.2.2.2 rfl
    by_cases ck : Mc.1 6 1 = io 2
    · have hk : Mr.1 0 8 = io 2 ∧ (∀ i, i < l → isD (t (a + i))) ∧ Mr.1 0 10 = io (nm t a l) := by
        rcases q6 with ⟨k1, k2⟩ | ⟨l0, ⟨k1, k2, k3, k4⟩ | ⟨k1, k2, k3, k4⟩ | ⟨k1, k2⟩ | ⟨k1, k2⟩⟩
        · rw [k1] at ck; exact absurd ck (by decide)
        · rw [k1] at ck; exact absurd ck (by decide)
        · exact ⟨k2, k3, k4⟩
        · rw [k1] at ck; exact absurd ck (by decide)
        · rw [k1] at ck; exact absurd ck (by decide)
      obtain ⟨k1, k2, k3⟩ := hk
      have hnm := nm_le l k2
      rw [if_pos (show Mc.1 6 1 = 2 from ck), if_pos (show Mr.1 0 8 = 2 from k1), tokNum hn h.1 q1 q4 q3 k2, bnd_s, k3]
      have hin : f_X11_in (io (nm t a l)).toInt64 (io l0).toInt64 (io h0).toInt64 Mr = if l0 ≤ nm t a l ∧ nm t a l ≤ h0 then 1 else 0 := by
        rw [in_eq, Int32.toInt_toInt64, Int32.toInt_toInt64, Int32.toInt_toInt64, io_toInt (by omega), io_toInt (by omega), io_toInt (by omega)]
        by_cases u : l0 ≤ nm t a l ∧ nm t a l ≤ h0
        · rw [if_pos u, if_pos (by omega)]
        · rw [if_neg u, if_neg (by omega)]
      rw [hin, ite01]
      by_cases u : l0 ≤ nm t a l ∧ nm t a l ≤ h0
      · obtain ⟨Mc', Mr', a', g1, g2, g3, g4, g5, g6, -⟩ := nextS hn h
        refine ⟨nm t a l, Mc', Mr', 0, a', ?_, ?_, u, g3, g4, g5, g6⟩
        · rw [Nat.min_eq_left (by omega), if_neg (by rw [io_lt (by omega) (by omega)]; omega), if_pos (by rw [io_le (by omega) (by omega)]; omega), g1, bnd_s]
        · rw [if_pos u, letv_eq, g2, bnd_s]
      · obtain ⟨Mc', Mr', g1, g2, g3, g4, g5⟩ := failS (k := 2) h (by omega)
        refine ⟨l0, Mc', Mr', 2, a, ?_, ?_, by omega, g3, g4, g5, Nat.le_refl _⟩
        · have g1' : f_X6_fail 2 Mc = some Mc' := g1
          by_cases c2 : min (nm t a l) 601 < l0
          · rw [if_pos (by rw [io_lt (by omega) (by omega)]; omega), g1', bnd_s]
          · rw [if_neg (by rw [io_lt (by omega) (by omega)]; omega), if_neg (by rw [io_le (by omega) (by omega)]; omega), g1', bnd_s]
        · rw [if_neg u, show f_X11_fails 2 Mr = some Mr' from g2, bnd_s]
    · have hk : Mr.1 0 8 ≠ io 2 := by
        rcases q6 with ⟨k1, k2⟩ | ⟨l0, ⟨k1, k2, k3, k4⟩ | ⟨k1, k2, k3, k4⟩ | ⟨k1, k2⟩ | ⟨k1, k2⟩⟩
        · rw [k2]; decide
        · rw [k2]; decide
        · exact absurd k1 ck
        · rw [k2]; decide
        · rw [k2]; decide
      obtain ⟨Mc', Mr', g1, g2, g3, g4, g5⟩ := failS (k := 1) h (by omega)
      refine ⟨l0, Mc', Mr', 1, a, ?_, ?_, by omega, g3, g4, g5, Nat.le_refl _⟩
      · rw [if_neg (show ¬ Mc.1 6 1 = 2 from ck), show f_X6_fail 1 Mc = some Mc' from g1, bnd_s]
      · rw [if_neg (show ¬ Mr.1 0 8 = 2 from hk), show f_X11_fails 1 Mr = some Mr' from g2, bnd_s]
  · obtain ⟨c1, c2⟩ := h.good c
    exact ⟨l0, Mc, Mr, b, a, by rw [if_neg c1], by rw [if_neg c2], by omega, h, LfC.refl, LfR.refl, Nat.le_refl _⟩
/-- a named number -/
theorem namedS {n : Nat} {t : Nat → Int32} {b a w l0 h0 : Nat} {Mc Mr : Mem} (hn : n ≤ 600) (hw : w < 12) (hl : l0 ≤ h0) (hh : h0 ≤ 600) (h : Sb n t b a Mc Mr) : ∃ v Mc' Mr' b' a', f_X6_readNamed w (io l0) (io h0) Mc = some (io v, Mc') ∧ f_X11_number_ (lo (wn w)) (io l0) (io h0) Mr = some (io v, Mr') ∧ (l0 ≤ v ∧ v ≤ h0) ∧ Sb n t b' a' Mc' Mr' ∧ LfC Mc Mc' ∧ LfR Mr Mr' ∧ a ≤ a' := by
  obtain ⟨Mc1, Mr1, b1, a1, e1, f1, g1, k1, r1, m1⟩ := asksS hn hw h
  obtain ⟨v, Mc2, Mr2, b2, a2, e2, f2, hv, g2, k2, r2, m2⟩ := numbS hn hl hh g1
  refine ⟨v, Mc2, Mr2, b2, a2, ?_, ?_, hv, g2, k1.trans k2, r1.trans r2, by omega⟩
  · rw [named_eq, e1, bnd_s, e2]
  · unfold f_X11_number_
    rw [f1, bnd_s, f2, bnd2_s]
/-- the sign at a line's end, if all is good so far -/
theorem signS {n : Nat} {t : Nat → Int32} {a : Nat} {Mc Mr : Mem} (hn : n ≤ 600) (h : Sb n t 0 a Mc Mr) : ∃ Mc' Mr' b' a', f_X6_expectSign Mc = some Mc' ∧ f_X11_ends Mr = some Mr' ∧ Sb n t b' a' Mc' Mr' ∧ LfC Mc Mc' ∧ LfR Mr Mr' ∧ a ≤ a' ∧ (b' = 0 → a < a') := by
  unfold f_X6_expectSign f_X11_ends
  have e4 : Mc.1 6 4 = 0 := h.2.2.1.2.1
  have e12 : Mr.1 0 12 = 0 := h.2.2.1.2.2.1
  obtain ⟨q1, q2, l, q3, q4, q5, q6⟩ := h.2.2.2 rfl
  rw [if_pos e4]
  by_cases ck : Mc.1 6 1 = io 3
  · have hk : Mr.1 0 8 = io 3 := by
      rcases q6 with ⟨k1, k2⟩ | ⟨l0, ⟨k1, k2, k3, k4⟩ | ⟨k1, k2, k3, k4⟩ | ⟨k1, k2⟩ | ⟨k1, k2⟩⟩
      · rw [k1] at ck; exact absurd ck (by decide)
      · rw [k1] at ck; exact absurd ck (by decide)
      · rw [k1] at ck; exact absurd ck (by decide)
      · exact k2
      · rw [k1] at ck; exact absurd ck (by decide)
    obtain ⟨Mc', Mr', a', g1, g2, g3, g4, g5, g6, g7⟩ := nextS hn h
    refine ⟨Mc', Mr', 0, a', ?_, ?_, g3, g4, g5, g6, fun _ => g7 (by rw [ck]; decide)⟩
    · rw [if_pos (show Mc.1 6 1 = 3 from ck), g1, bnd_s]
    · rw [if_pos (show Mr.1 0 8 = 3 from hk), if_pos e12, g2, bnd_s]
  · have hk : Mr.1 0 8 ≠ io 3 := by
      rcases q6 with ⟨k1, k2⟩ | ⟨l0, ⟨k1, k2, k3, k4⟩ | ⟨k1, k2, k3, k4⟩ | ⟨k1, k2⟩ | ⟨k1, k2⟩⟩
      · rw [k2]; decide
      · rw [k2]; decide
      · rw [k2]; decide
      · exact absurd k1 ck
      · rw [k2]; decide
    obtain ⟨Mc', Mr', g1, g2, g3, g4, g5⟩ := failS (k := 1) h (by omega)
    refine ⟨Mc', Mr', 1, a, ?_, ?_, g3, g4, g5, Nat.le_refl _, fun c => by omega⟩
    · rw [if_neg (show ¬ Mc.1 6 1 = 3 from ck), show f_X6_fail 1 Mc = some Mc' from g1, bnd_s]
    · rw [if_neg (show ¬ Mr.1 0 8 = 3 from hk), show f_X11_fails 1 Mr = some Mr' from g2, bnd_s, if_neg (g3.good (by omega)).2]
