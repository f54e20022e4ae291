/-! A WHOLE LINE, both sides in step -/
def Dr0 (L : Lh) (Mc Mr : Mem) : Prop := (∀ i, i < 7 → Mc.1 7 (i + 1) = io (L.1 (i + 1)) ∧ Mr.1 7 (32 + i) = io (L.1 (i + 1))) ∧ (L.1 8 = 0 ∧ Mr.1 7 39 = io 0) ∧ (∀ z, z < L.1 6 → Mc.1 8 z = io (L.2.1 z) ∧ Mr.1 8 (28 + z) = io (L.2.1 z)) ∧ (∀ p, p < L.1 7 → (Mc.1 9 p = io (L.2.2.1 p 0) ∧ Mc.1 10 p = io (L.2.2.1 p 1) ∧ Mc.1 11 p = io (L.2.2.1 p 2) ∧ Mc.1 12 p = io (L.2.2.1 p 3)) ∧ ∀ w, w < 4 → Mr.1 9 (96 + (4 * p + w)) = io (L.2.2.1 p w))
def OkB (L : Lh) : Prop := ((1 ≤ L.1 1 ∧ L.1 1 ≤ 14) ∧ L.1 2 ≤ 3 ∧ L.1 3 ≤ 10 ∧ (1 ≤ L.1 4 ∧ L.1 4 ≤ 4) ∧ L.1 5 ≤ 600) ∧ (L.1 6 ≤ 7 ∧ L.1 7 ≤ 6) ∧ (∀ z, z < L.1 6 → L.2.1 z ≤ 600) ∧ (∀ p, p < L.1 7 → L.2.2.1 p 0 ≤ 600 ∧ (1 ≤ L.2.2.1 p 1 ∧ L.2.2.1 p 1 ≤ 9) ∧ L.2.2.1 p 2 ≤ 300 ∧ L.2.2.1 p 3 ≤ 14)
def Lln (L : Lh) (i : Nat) : Lh := (fu L.1 0 i, L.2)
theorem OkB.ok {L : Lh} {i : Nat} (h : OkB L) (h8 : L.1 8 = 0) (h1 : 1 ≤ i) (h2 : i ≤ 600) : OkL (Lln L i) := by
  have e : ∀ k, 0 < k → (Lln L i).1 k = L.1 k := fun k hk => fu_ne (by omega)
  have e0 : (Lln L i).1 0 = i := by
    show fu L.1 0 i 0 = i
    exact fu_eq
  unfold OkL
  rw [e0, e 1 (by omega), e 2 (by omega), e 3 (by omega), e 4 (by omega), e 5 (by omega), e 6 (by omega), e 7 (by omega), e 8 (by omega)]
  obtain ⟨⟨g1, g2, g3, g4, g5⟩, ⟨g6, g7⟩, gz, gp⟩ := h
  exact ⟨fun q => by omega, fun _ => ⟨g1.1, g4.1⟩, ⟨h2, g1.2, g2, g3, g4.2, g5, g6, g7, by omega⟩, gz, gp, fun a ha => by omega⟩
theorem OkB.of {L : Lh} (h : OkL L) (h0 : 0 < L.1 0) : OkB L := by
  obtain ⟨-, a1, ⟨-, b1, b2, b3, b4, b5, b6, b7, -⟩, c1, c2, -⟩ := h
  exact ⟨⟨⟨(a1 h0).1, b1⟩, b2, b3, ⟨(a1 h0).2, b4⟩, b5⟩, ⟨b6, b7⟩, c1, c2⟩
theorem Dr0.ln {L : Lh} {i : Nat} {Mc Mr : Mem} (h : Dr0 L Mc Mr) : Dr0 (Lln L i) Mc Mr := by
  have e : ∀ k, 0 < k → (Lln L i).1 k = L.1 k := fun k hk => fu_ne (by omega)
  unfold Dr0 at *
  rw [e 6 (by omega), e 7 (by omega), e 8 (by omega)]
  refine ⟨fun k hk => ?_, h.2⟩
  rw [e (k + 1) (by omega)]
  exact h.1 k hk
theorem Dr0.kp {L : Lh} {Mc Mr Mc' Mr' : Mem} (h : Dr0 L Mc Mr) (k : KpC (fun c j => c = 7 ∧ j = 0) Mc Mc') (r : KpR (fun c j => c = 6 ∧ j = 4) Mr Mr') : Dr0 L Mc' Mr' := by
  obtain ⟨h1, h2, h3, h4⟩ := h
  refine ⟨fun i hi => ?_, ?_, fun z hz => ?_, fun p hp => ⟨?_, fun w hw => ?_⟩⟩
  · rw [k.1 7 (i + 1) (by decide) (by omega), r.1 7 (32 + i) (by decide) (by omega)]; exact h1 i hi
  · rw [r.1 7 39 (by decide) (by omega)]; exact h2
  · rw [k.1 8 z (by decide) (by omega), r.1 8 (28 + z) (by decide) (by omega)]; exact h3 z hz
  · rw [k.1 9 p (by decide) (by omega), k.1 10 p (by decide) (by omega), k.1 11 p (by decide) (by omega), k.1 12 p (by decide) (by omega)]; exact (h4 p hp).1
  · rw [r.1 9 _ (by decide) (by omega)]; exact (h4 p hp).2 w hw
def XC (c j : Nat) : Prop := 7 ≤ c ∧ c ≤ 12 ∧ ¬ (c = 7 ∧ j = 0)
def XR (c j : Nat) : Prop := (c = 7 ∧ 32 ≤ j) ∨ (c = 8 ∧ 28 ≤ j) ∨ (c = 9 ∧ 96 ≤ j)
/-- is there room for one more? -/
theorem roomNo {p2 p3 : Int32} {M : Mem} : f_X11_isRoom 0 p2 p3 M = some (0, M) := by
  unfold f_X11_isRoom J_X11_isRoom_18 J_X11_isRoom_33
  rw [if_pos rfl, if_pos rfl, if_pos rfl]
theorem roomFull {n : Nat} {t : Nat → Int32} {a k m : Nat} {Mr Mc' Mr' : Mem} (hk : k < 8) (h1 : Mr.1 7 (32 + k) = io m) (e : f_X11_fails 3 Mr = some Mr') (g : Sb n t 3 a Mc' Mr') : f_X11_isRoom 1 (io k) (io m) Mr = some (0, Mr') := by
  have hg := (g.good (by omega)).2
  unfold f_X11_isRoom J_X11_isRoom_18 J_X11_isRoom_33
  rw [if_neg (show ¬ (1 : Int32) = 0 by decide), readR hk, bnd_s, if_pos h1, e, bnd_s, if_neg (show ¬ (1 : Int32) = 0 by decide), if_neg hg, if_neg (show ¬ (1 : Int32) = 0 by decide), if_neg hg]
theorem roomYes {n : Nat} {t : Nat → Int32} {a a' k m x : Nat} {Mc Mr Mc' Mr' : Mem} (hk : k < 8) (hm : m < 100) (h1 : Mr.1 7 (32 + k) = io x) (hx : x < m) (h : Sb n t 0 a Mc Mr) (e : f_X11_next Mr = some Mr') (g : Sb n t 0 a' Mc' Mr') : f_X11_isRoom 1 (io k) (io m) Mr = some (1, Mr') := by
  unfold f_X11_isRoom J_X11_isRoom_18 J_X11_isRoom_33
  rw [if_neg (show ¬ (1 : Int32) = 0 by decide), readR hk, bnd_s, h1, if_neg (fun q => by have := (io_inj (by omega) (by omega)).mp q; omega), if_neg (show ¬ (1 : Int32) = 0 by decide), if_pos (show Mr.1 0 12 = 0 from h.2.2.1.2.2.1), e, bnd_s, if_neg (show ¬ (1 : Int32) = 0 by decide), if_pos (show Mr'.1 0 12 = 0 from g.2.2.1.2.2.1)]
/-- a word that is there -/
theorem takeC {n : Nat} {t : Nat → Int32} {a w : Nat} {Mc Mr Mc' : Mem} (h : Sb n t 0 a Mc Mr) (e : f_X6_isWord w Mc = some 1) (e2 : f_X6_nextToken Mc = some Mc') : f_X6_expectWord w Mc = some Mc' := by
  unfold f_X6_expectWord
  rw [if_pos (show Mc.1 6 4 = 0 from h.2.2.1.2.1), e, bnd_s, if_neg (show ¬ (1 : Int32) = 0 by decide), e2, bnd_s]
/-- what a line leaves ahead of its end -/
def Bd (n : Nat) (t : Nat → Int32) (a : Nat) (Mc Mr Mc' Mr' : Mem) : Prop := ∃ b' a', Sb n t b' a' Mc' Mr' ∧ a ≤ a' ∧ (b' = 0 → ∃ L', OkB L' ∧ Dr0 L' Mc' Mr') ∧ KpC XC Mc Mc' ∧ KpR XR Mr Mr'
theorem zoneS {n : Nat} {t : Nat → Int32} {a : Nat} {L : Lh} {Mc Mr : Mem} (hn : n ≤ 600) (h : Sb n t 0 a Mc Mr) (hB : OkB L) (hD : Dr0 L Mc Mr) (ew : f_X6_isWord 6 Mc = some 1) (er : f_X11_is (lo (wn 6)) Mr = 1) : ∃ Mc' Mr', f_X6_readZone 7 Mc = some Mc' ∧ f_X11_lineHere Mr = some Mr' ∧ Bd n t a Mc Mr Mc' Mr' := by
  obtain ⟨D1, D2, D3, D4⟩ := hD
  obtain ⟨B1, ⟨B6, B7⟩, Bz, Bp⟩ := hB
  have c6 : Mc.1 7 6 = io (L.1 6) := (D1 5 (by omega)).1
  have r6 : Mr.1 7 37 = io (L.1 6) := (D1 5 (by omega)).2
  rw [wlit.2.2.2.2.2.2.1] at er
  unfold f_X6_readZone f_X11_lineHere
  rw [er, c6, show rC 7 8 = 8 from rfl]
  by_cases c : L.1 6 = 7
  · obtain ⟨Mc1, Mr1, e1, f1, g1, k1, q1⟩ := failS (k := 3) h (by omega)
    refine ⟨Mc1, Mr1, ?_, ?_, 3, a, g1, Nat.le_refl _, fun u => by omega, KpC.refl.lf k1, KpR.refl.lf q1⟩
    · rw [if_neg (show ¬ io (L.1 6) < 7 by rw [show (7 : Int32) = io 7 from rfl, io_lt (by omega) (by omega)]; omega), show f_X6_fail 3 Mc = _ from e1, bnd_s]
    · rw [show f_X11_isRoom 1 5 7 Mr = _ from roomFull (k := 5) (m := 7) (by omega) (r6.trans (congrArg io c)) f1 g1, bnd2_s, if_pos rfl, if_neg (g1.good (by omega)).2, if_neg (g1.good (by omega)).2]
  · obtain ⟨Mc1, Mr1, a1, e1, f1, g1, k1, q1, m1, -⟩ := nextS hn h
    obtain ⟨v, Mc2, Mr2, b2, a2, e2, f2, hv, g2, k2, q2, m2⟩ := numbS (l0 := 0) (h0 := 600) hn (by omega) (by omega) g1
    have r6a : Mr1.1 7 37 = io (L.1 6) := by rw [q1.1 7 (by decide)]; exact r6
    have r6b : (st Mr2 8 (28 + L.1 6) (io v)).1 7 37 = io (L.1 6) := by rw [stne (by decide), q2.1 7 (by decide)]; exact r6a
    have c6b : (st Mc2 8 (L.1 6) (io v)).1 7 6 = io (L.1 6) := by rw [stne (by decide), k2.1 7 (by decide), k1.1 7 (by decide)]; exact c6
    have kk := k1.trans k2
    have qq := q1.trans q2
    refine ⟨st (st Mc2 8 (L.1 6) (io v)) 7 6 (io (L.1 6 + 1)), st (st Mr2 8 (28 + L.1 6) (io v)) 7 37 (io (L.1 6 + 1)), ?_, ?_, b2, a2, (((g2.stC (by decide)).stC (by decide)).stR (by decide)).stR (by decide), by omega, fun u => ⟨(fu L.1 6 (L.1 6 + 1), fu L.2.1 (L.1 6) v, L.2.2.1, L.2.2.2), ⟨?_, ?_, fun z hz => ?_, ?_⟩, fun i hi => ?_, ?_, fun z hz => ?_, fun p hp => ?_⟩, ((KpC.refl.lf kk).sto ⟨by omega, by omega, by omega⟩).sto ⟨by omega, by omega, by omega⟩, ((KpR.refl.lf qq).sto (Or.inr (Or.inl ⟨rfl, by omega⟩)) (by decide)).sto (Or.inl ⟨rfl, by omega⟩) (by decide)⟩
    · rw [if_pos (show io (L.1 6) < 7 by rw [show (7 : Int32) = io 7 from rfl, io_lt (by omega) (by omega)]; omega), named_eq, takeC h ew e1, bnd_s, show nmd 0 600 Mc1 = _ from e2, bnd2_s, oob_f (show L.1 6 < 7 by omega) (by omega), ix_io (by omega)]
      simp only [Bool.false_eq_true, if_false, letv_eq]
      rw [c6b, show io (L.1 6) + (1 : Int32) = io (L.1 6 + 1) from io_add _ 1]
    · rw [show f_X11_isRoom 1 5 7 Mr = _ from roomYes (k := 5) (m := 7) (by omega) (by omega) r6 (by omega) h f1 g1, bnd2_s, if_neg (show ¬ (1 : Int32) = 0 by decide), show f_X11_hasRead 5 Mr1 = _ from readR (k := 5) (by omega), bnd_s, r6a, show f_X11_number 0 600 Mr1 = _ from f2, bnd2_s, show (28 : Int32) + io (L.1 6) = io (28 + L.1 6) from io_add 28 _, oob_f (show 28 + L.1 6 < 35 by omega) (by omega), ix_io (by omega)]
      simp only [Bool.false_eq_true, if_false, letv_eq]
      rw [show f_X11_hasRead 5 (st Mr2 8 (28 + L.1 6) (io v)) = _ from readR (k := 5) (by omega), bnd_s, r6b, show io (L.1 6) + (1 : Int32) = io (L.1 6 + 1) from io_add _ 1, show f_X11_tells 5 (io (L.1 6 + 1)) (st Mr2 8 (28 + L.1 6) (io v)) = _ from tellsR (k := 5) (by omega), bnd_s]
    · exact B1
    · exact ⟨by show fu L.1 6 (L.1 6 + 1) 6 ≤ 7; rw [fu_eq]; omega, B7⟩
    · have hz' : z < L.1 6 + 1 := hz
      show fu L.2.1 (L.1 6) v z ≤ 600
      by_cases e : z = L.1 6
      · subst e; rw [fu_eq]; omega
      · rw [fu_ne e]; exact Bz z (by omega)
    · exact Bp
    · show _ = io (fu L.1 6 (L.1 6 + 1) (i + 1)) ∧ _ = io (fu L.1 6 (L.1 6 + 1) (i + 1))
      by_cases e : i = 5
      · subst e
        rw [show (5 + 1) = 6 from rfl, fu_eq, show 32 + 5 = 37 from rfl]
        exact ⟨by simp [st], by simp [st]⟩
      · rw [fu_ne (by omega), st_rd (by omega), stne (by decide), kk.1 7 (by decide), st_rd (by omega), stne (by decide), qq.1 7 (by decide)]
        exact D1 i hi
    · refine ⟨(show fu L.1 6 (L.1 6 + 1) 8 = L.1 8 from fu_ne (by decide)).trans D2.1, ?_⟩
      rw [st_rd (by decide), stne (by decide), qq.1 7 (by decide)]
      exact D2.2
    · have hz' : z < L.1 6 + 1 := hz
      show _ = io (fu L.2.1 (L.1 6) v z) ∧ _ = io (fu L.2.1 (L.1 6) v z)
      rw [stne (a := 7) (i := 8) (by decide), stne (a := 7) (i := 8) (by decide)]
      by_cases e : z = L.1 6
      · rw [e, fu_eq]
        exact ⟨by simp [st], by simp [st]⟩
      · rw [fu_ne e, st_rd (by omega), st_rd (by omega), kk.1 8 (by decide), qq.1 8 (by decide)]
        exact D3 z (by omega)
    · rw [stne (by decide), stne (by decide), stne (by decide), stne (by decide), stne (by decide), stne (by decide), stne (by decide), stne (by decide), stne (by decide), stne (by decide), kk.1 9 (by decide), kk.1 10 (by decide), kk.1 11 (by decide), kk.1 12 (by decide), qq.1 9 (by decide)]
      exact D4 p hp
