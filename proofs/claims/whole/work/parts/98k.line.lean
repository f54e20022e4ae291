/-! LINE BY LINE, both sides in step -/
theorem wlit : lo (wn 0) = 240075 ∧ lo (wn 1) = 10495135 ∧ lo (wn 2) = 8798 ∧ lo (wn 3) = 298288 ∧ lo (wn 4) = 315743 ∧ lo (wn 5) = 14006 ∧ lo (wn 6) = 523076 ∧ lo (wn 7) = 8683934 ∧ lo (wn 8) = 161156 ∧ lo (wn 9) = 10792937 ∧ lo (wn 10) = 1162531 ∧ lo (wn 11) = 47 := by decide
theorem tellsR {k : Nat} {v : Int32} {M : Mem} (h : k < 8) : f_X11_tells (io k) v M = some (st M 7 (32 + k) v) := by
  unfold f_X11_tells
  rw [show (32 : Int32) + io k = io (32 + k) from io_add 32 k, oob_f (by omega) (by omega), ix_io (by omega)]
  simp only [Bool.false_eq_true, if_false, letv_eq]
theorem readR {k : Nat} {M : Mem} (h : k < 8) : f_X11_hasRead (io k) M = some (M.1 7 (32 + k)) := by
  unfold f_X11_hasRead
  rw [show (32 : Int32) + io k = io (32 + k) from io_add 32 k, oob_f (by omega) (by omega), ix_io (by omega)]
  simp only [Bool.false_eq_true, if_false]
/-- what a line may change: the places X -/
def KpC (X : Nat → Nat → Prop) (M M' : Mem) : Prop := (∀ c j, c ≠ 6 → ¬ X c j → M'.1 c j = M.1 c j) ∧ M'.2 = M.2
def KpR (X : Nat → Nat → Prop) (M M' : Mem) : Prop := (∀ c j, c ≠ 0 → ¬ X c j → M'.1 c j = M.1 c j) ∧ (∀ j, j ∈ [6, 14, 15] → M'.1 0 j = M.1 0 j) ∧ ∀ a, a ≠ 0 → M'.2 a = M.2 a
theorem KpC.lf {X : Nat → Nat → Prop} {M M' M'' : Mem} (h : KpC X M M') (g : LfC M' M'') : KpC X M M'' := ⟨fun c j hc hx => by rw [g.1 c hc]; exact h.1 c j hc hx, g.2.trans h.2⟩
theorem KpR.lf {X : Nat → Nat → Prop} {M M' M'' : Mem} (h : KpR X M M') (g : LfR M' M'') : KpR X M M'' := ⟨fun c j hc hx => by rw [g.1 c hc]; exact h.1 c j hc hx, fun j hj => (g.2.1 j hj).trans (h.2.1 j hj), fun a ha => (g.2.2 a ha).trans (h.2.2 a ha)⟩
theorem KpC.refl {X : Nat → Nat → Prop} {M : Mem} : KpC X M M := ⟨fun _ _ _ _ => Eq.refl _, Eq.refl _⟩
theorem KpR.refl {X : Nat → Nat → Prop} {M : Mem} : KpR X M M := ⟨fun _ _ _ _ => Eq.refl _, fun _ _ => Eq.refl _, fun _ _ => Eq.refl _⟩
theorem KpC.sto {X : Nat → Nat → Prop} {M M' : Mem} {p k : Nat} {v : Int32} (h : KpC X M M') (hx : X p k) : KpC X M (st M' p k v) := ⟨fun c j hc hn => by rw [st_rd (fun q => hn (by rw [q.1, q.2]; exact hx))]; exact h.1 c j hc hn, h.2⟩
theorem KpR.sto {X : Nat → Nat → Prop} {M M' : Mem} {p k : Nat} {v : Int32} (h : KpR X M M') (hx : X p k) (hp : p ≠ 0) : KpR X M (st M' p k v) := ⟨fun c j hc hn => by rw [st_rd (fun q => hn (by rw [q.1, q.2]; exact hx))]; exact h.1 c j hc hn, fun j hj => by rw [st_rd (fun q => hp q.1.symm)]; exact h.2.1 j hj, h.2.2⟩
theorem KpC.trans {X : Nat → Nat → Prop} {M M' M'' : Mem} (h : KpC X M M') (g : KpC X M' M'') : KpC X M M'' := ⟨fun c j hc hx => (g.1 c j hc hx).trans (h.1 c j hc hx), g.2.trans h.2⟩
theorem KpR.trans {X : Nat → Nat → Prop} {M M' M'' : Mem} (h : KpR X M M') (g : KpR X M' M'') : KpR X M M'' := ⟨fun c j hc hx => (g.1 c j hc hx).trans (h.1 c j hc hx), fun j hj => (g.2.1 j hj).trans (h.2.1 j hj), fun a ha => (g.2.2 a ha).trans (h.2.2 a ha)⟩
theorem KpC.mono {X Y : Nat → Nat → Prop} {M M' : Mem} (h : KpC X M M') (g : ∀ c j, X c j → Y c j) : KpC Y M M' := ⟨fun c j hc hx => h.1 c j hc (fun q => hx (g c j q)), h.2⟩
theorem KpR.mono {X Y : Nat → Nat → Prop} {M M' : Mem} (h : KpR X M M') (g : ∀ c j, X c j → Y c j) : KpR Y M M' := ⟨fun c j hc hx => h.1 c j hc (fun q => hx (g c j q)), h.2⟩
/-- the first line, the reference -/
def hdR {ρ : Type} (K : Mem → Option ρ) (M : Mem) : Option ρ :=
  bnd (f_X11_asks (240075 : Int64) M) (fun M32 =>
  bnd2 (f_X11_number_ (10495135 : Int64) (1 : Int32) (14 : Int32) M32) (fun r33 M35 =>
  bnd (f_X11_tells (0 : Int32) r33 M35) (fun M38 =>
  bnd2 (f_X11_number_ (8798 : Int64) (0 : Int32) (3 : Int32) M38) (fun r39 M41 =>
  bnd (f_X11_tells (1 : Int32) r39 M41) (fun M44 =>
  bnd2 (f_X11_number_ (298288 : Int64) (0 : Int32) (10 : Int32) M44) (fun r45 M47 =>
  bnd (f_X11_tells (2 : Int32) r45 M47) (fun M50 =>
  bnd2 (f_X11_number_ (315743 : Int64) (1 : Int32) (4 : Int32) M50) (fun r51 M53 =>
  bnd (f_X11_tells (3 : Int32) r51 M53) (fun M56 =>
  bnd2 (f_X11_number_ (14006 : Int64) (0 : Int32) (600 : Int32) M56) (fun r57 M59 =>
  bnd (f_X11_tells (4 : Int32) r57 M59) (fun M62 => K M62)))))))))))
theorem headS {n : Nat} {t : Nat → Int32} {b a : Nat} {Mc Mr : Mem} (hn : n ≤ 600) (h : Sb n t b a Mc Mr) : ∃ (v1 v2 v3 v4 v5 : Nat) (Mc' Mr' : Mem) (b' a' : Nat), f_X6_readHead 7 Mc = some Mc' ∧ (∀ (K : Mem → Option (Int32 × Mem)), hdR K Mr = K Mr') ∧ Sb n t b' a' Mc' Mr' ∧ a ≤ a' ∧ ((1 ≤ v1 ∧ v1 ≤ 14) ∧ v2 ≤ 3 ∧ v3 ≤ 10 ∧ (1 ≤ v4 ∧ v4 ≤ 4) ∧ v5 ≤ 600) ∧ (Mc'.1 7 1 = io v1 ∧ Mc'.1 7 2 = io v2 ∧ Mc'.1 7 3 = io v3 ∧ Mc'.1 7 4 = io v4 ∧ Mc'.1 7 5 = io v5) ∧ (Mr'.1 7 32 = io v1 ∧ Mr'.1 7 33 = io v2 ∧ Mr'.1 7 34 = io v3 ∧ Mr'.1 7 35 = io v4 ∧ Mr'.1 7 36 = io v5) ∧ KpC (fun c j => c = 7 ∧ 1 ≤ j ∧ j ≤ 5) Mc Mc' ∧ KpR (fun c j => c = 7 ∧ 32 ≤ j ∧ j ≤ 36) Mr Mr' := by
  obtain ⟨Mc0, Mr0, b0, a0, e0, f0, g0, k0, r0, m0⟩ := asksS (w := 0) hn (by omega) h
  obtain ⟨v1, Mc1, Mr1, b1, a1, e1, f1, w1, g1, k1, r1, m1⟩ := namedS (w := 1) (l0 := 1) (h0 := 14) hn (by omega) (by omega) (by omega) g0
  obtain ⟨v2, Mc2, Mr2, b2, a2, e2, f2, w2, g2, k2, r2, m2⟩ := namedS (w := 2) (l0 := 0) (h0 := 3) hn (by omega) (by omega) (by omega) ((g1.stC (p := 7) (k := 1) (v := io v1) (by decide)).stR (p := 7) (k := 32) (v := io v1) (by decide))
  obtain ⟨v3, Mc3, Mr3, b3, a3, e3, f3, w3, g3, k3, r3, m3⟩ := namedS (w := 3) (l0 := 0) (h0 := 10) hn (by omega) (by omega) (by omega) ((g2.stC (p := 7) (k := 2) (v := io v2) (by decide)).stR (p := 7) (k := 33) (v := io v2) (by decide))
  obtain ⟨v4, Mc4, Mr4, b4, a4, e4, f4, w4, g4, k4, r4, m4⟩ := namedS (w := 4) (l0 := 1) (h0 := 4) hn (by omega) (by omega) (by omega) ((g3.stC (p := 7) (k := 3) (v := io v3) (by decide)).stR (p := 7) (k := 34) (v := io v3) (by decide))
  obtain ⟨v5, Mc5, Mr5, b5, a5, e5, f5, w5, g5, k5, r5, m5⟩ := namedS (w := 5) (l0 := 0) (h0 := 600) hn (by omega) (by omega) (by omega) ((g4.stC (p := 7) (k := 4) (v := io v4) (by decide)).stR (p := 7) (k := 35) (v := io v4) (by decide))
  rw [wlit.1] at f0
  rw [wlit.2.1] at f1
  rw [wlit.2.2.1] at f2
  rw [wlit.2.2.2.1] at f3
  rw [wlit.2.2.2.2.1] at f4
  rw [wlit.2.2.2.2.2.1] at f5
  refine ⟨v1, v2, v3, v4, v5, st Mc5 7 5 (io v5), st Mr5 7 36 (io v5), b5, a5, ?_, fun K => ?_, (g5.stC (by decide)).stR (by decide), by omega, ⟨w1, w2.2, w3.2, w4, w5.2⟩, ⟨?_, ?_, ?_, ?_, ?_⟩, ⟨?_, ?_, ?_, ?_, ?_⟩, ?_, ?_⟩
  · unfold f_X6_readHead
    rw [e0, bnd_s, show f_X6_readNamed 1 1 14 Mc0 = _ from e1, bnd2_s, letv_eq, show f_X6_readNamed 2 0 3 _ = _ from e2, bnd2_s, letv_eq, show f_X6_readNamed 3 0 10 _ = _ from e3, bnd2_s, letv_eq, show f_X6_readNamed 4 1 4 _ = _ from e4, bnd2_s, letv_eq, show f_X6_readNamed 5 0 600 _ = _ from e5, bnd2_s, letv_eq]
  · unfold hdR
    rw [f0, bnd_s, show f_X11_number_ 10495135 1 14 Mr0 = _ from f1, bnd2_s, show f_X11_tells 0 (io v1) Mr1 = _ from tellsR (k := 0) (by omega), bnd_s, show f_X11_number_ 8798 0 3 _ = _ from f2, bnd2_s, show f_X11_tells 1 (io v2) Mr2 = _ from tellsR (k := 1) (by omega), bnd_s, show f_X11_number_ 298288 0 10 _ = _ from f3, bnd2_s, show f_X11_tells 2 (io v3) Mr3 = _ from tellsR (k := 2) (by omega), bnd_s, show f_X11_number_ 315743 1 4 _ = _ from f4, bnd2_s, show f_X11_tells 3 (io v4) Mr4 = _ from tellsR (k := 3) (by omega), bnd_s, show f_X11_number_ 14006 0 600 _ = _ from f5, bnd2_s, show f_X11_tells 4 (io v5) Mr5 = _ from tellsR (k := 4) (by omega), bnd_s]
  · rw [st_rd (by decide), k5.1 7 (by decide), st_rd (by decide), k4.1 7 (by decide), st_rd (by decide), k3.1 7 (by decide), st_rd (by decide), k2.1 7 (by decide)]; simp [st]
  · rw [st_rd (by decide), k5.1 7 (by decide), st_rd (by decide), k4.1 7 (by decide), st_rd (by decide), k3.1 7 (by decide)]; simp [st]
  · rw [st_rd (by decide), k5.1 7 (by decide), st_rd (by decide), k4.1 7 (by decide)]; simp [st]
  · rw [st_rd (by decide), k5.1 7 (by decide)]; simp [st]
  · simp [st]
  · rw [st_rd (by decide), r5.1 7 (by decide), st_rd (by decide), r4.1 7 (by decide), st_rd (by decide), r3.1 7 (by decide), st_rd (by decide), r2.1 7 (by decide)]; simp [st]
  · rw [st_rd (by decide), r5.1 7 (by decide), st_rd (by decide), r4.1 7 (by decide), st_rd (by decide), r3.1 7 (by decide)]; simp [st]
  · rw [st_rd (by decide), r5.1 7 (by decide), st_rd (by decide), r4.1 7 (by decide)]; simp [st]
  · rw [st_rd (by decide), r5.1 7 (by decide)]; simp [st]
  · simp [st]
  · exact ((((((((((KpC.refl.lf k0).lf k1).sto (by decide)).lf k2).sto (by decide)).lf k3).sto (by decide)).lf k4).sto (by decide)).lf k5).sto (by decide)
  · exact ((((((((((KpR.refl.lf r0).lf r1).sto (by decide) (by decide)).lf r2).sto (by decide) (by decide)).lf r3).sto (by decide) (by decide)).lf r4).sto (by decide) (by decide)).lf r5).sto (by decide) (by decide)
/-- a piece's line behind its word: the class -/
def pcC (x2 : Int32) (M5 : Mem) : Option Mem :=
  bnd2 (f_X6_readNamed 8 (0 : Int32) (600 : Int32) M5) (fun r6 M8 =>
  if oob x2 6 = true then none else
  letv (st M8 (rC 7 9) (ix x2) r6) (fun M9 =>
  bnd2 (f_X6_readNamed 9 (1 : Int32) (9 : Int32) M9) (fun r11 M13 =>
  if oob x2 6 = true then none else
  letv (st M13 (rC 7 10) (ix x2) r11) (fun M14 =>
  bnd2 (f_X6_readNamed 10 (0 : Int32) (300 : Int32) M14) (fun r16 M18 =>
  if oob x2 6 = true then none else
  letv (st M18 (rC 7 11) (ix x2) r16) (fun M19 =>
  bnd2 (f_X6_readNamed 11 (0 : Int32) (14 : Int32) M19) (fun r21 M23 =>
  if oob x2 6 = true then none else
  letv (st M23 (rC 7 12) (ix x2) r21) (fun M24 =>
  letv (st M24 7 7 ((M24.1 7 7) + (1 : Int32))) (fun M26 =>
  some M26)))))))))
theorem pieceS {n p : Nat} {t : Nat → Int32} {b a : Nat} {Mc Mr : Mem} (hn : n ≤ 600) (hp : p < 6) (h1 : Mc.1 7 7 = io p) (h2 : Mr.1 7 38 = io p) (h : Sb n t b a Mc Mr) : ∃ (v : Nat → Nat) (Mc' Mr' : Mem) (b' a' : Nat), pcC (io p) Mc = some Mc' ∧ f_X11_pieceLine Mr = some Mr' ∧ Sb n t b' a' Mc' Mr' ∧ a ≤ a' ∧ (v 0 ≤ 600 ∧ (1 ≤ v 1 ∧ v 1 ≤ 9) ∧ v 2 ≤ 300 ∧ v 3 ≤ 14) ∧ (Mc'.1 9 p = io (v 0) ∧ Mc'.1 10 p = io (v 1) ∧ Mc'.1 11 p = io (v 2) ∧ Mc'.1 12 p = io (v 3) ∧ Mc'.1 7 7 = io (p + 1)) ∧ ((∀ w, w < 4 → Mr'.1 9 (96 + (4 * p + w)) = io (v w)) ∧ Mr'.1 7 38 = io (p + 1)) ∧ KpC (fun c j => ((c = 9 ∨ c = 10 ∨ c = 11 ∨ c = 12) ∧ j = p) ∨ (c = 7 ∧ j = 7)) Mc Mc' ∧ KpR (fun c j => (c = 9 ∧ 96 + 4 * p ≤ j ∧ j < 96 + 4 * p + 4) ∨ (c = 7 ∧ j = 38)) Mr Mr' := by
  obtain ⟨v0, Mc1, Mr1, b1, a1, e1, f1, w1, g1, k1, r1, m1⟩ := namedS (w := 8) (l0 := 0) (h0 := 600) hn (by omega) (by omega) (by omega) h
  obtain ⟨v1, Mc2, Mr2, b2, a2, e2, f2, w2, g2, k2, r2, m2⟩ := namedS (w := 9) (l0 := 1) (h0 := 9) hn (by omega) (by omega) (by omega) ((g1.stC (p := 9) (k := p) (v := io v0) (by decide)).stR (p := 9) (k := 4 * (24 + p)) (v := io v0) (by decide))
  obtain ⟨v2, Mc3, Mr3, b3, a3, e3, f3, w3, g3, k3, r3, m3⟩ := namedS (w := 10) (l0 := 0) (h0 := 300) hn (by omega) (by omega) (by omega) ((g2.stC (p := 10) (k := p) (v := io v1) (by decide)).stR (p := 9) (k := 4 * (24 + p) + 1) (v := io v1) (by decide))
  obtain ⟨v3, Mc4, Mr4, b4, a4, e4, f4, w4, g4, k4, r4, m4⟩ := namedS (w := 11) (l0 := 0) (h0 := 14) hn (by omega) (by omega) (by omega) ((g3.stC (p := 11) (k := p) (v := io v2) (by decide)).stR (p := 9) (k := 4 * (24 + p) + 2) (v := io v2) (by decide))
  rw [wlit.2.2.2.2.2.2.2.2.1] at f1
  rw [wlit.2.2.2.2.2.2.2.2.2.1] at f2
  rw [wlit.2.2.2.2.2.2.2.2.2.2.1] at f3
  rw [wlit.2.2.2.2.2.2.2.2.2.2.2] at f4
  have r9 : rC 7 9 = 9 := by rfl
  have r10 : rC 7 10 = 10 := by rfl
  have r11 : rC 7 11 = 11 := by rfl
  have r12 : rC 7 12 = 12 := by rfl
  have c77 : (st Mc4 12 p (io v3)).1 7 7 = io p := by
    rw [stne (by decide), k4.1 7 (by decide), stne (by decide), k3.1 7 (by decide), stne (by decide), k2.1 7 (by decide), stne (by decide), k1.1 7 (by decide)]; exact h1
  have c738 : (st Mr4 9 (4 * (24 + p) + 3) (io v3)).1 7 38 = io p := by
    rw [stne (by decide), r4.1 7 (by decide), stne (by decide), r3.1 7 (by decide), stne (by decide), r2.1 7 (by decide), stne (by decide), r1.1 7 (by decide)]; exact h2
  refine ⟨fun w => if w = 0 then v0 else if w = 1 then v1 else if w = 2 then v2 else v3, st (st Mc4 12 p (io v3)) 7 7 (io (p + 1)), st (st Mr4 9 (4 * (24 + p) + 3) (io v3)) 7 38 (io (p + 1)), b4, a4, ?_, ?_, (((g4.stC (by decide)).stC (by decide)).stR (by decide)).stR (by decide), by omega, ⟨w1.2, w2, w3.2, w4.2⟩, ⟨?_, ?_, ?_, ?_, ?_⟩, ⟨fun w hw => ?_, ?_⟩, ?_, ?_⟩
  · unfold pcC
    rw [r9, r10, r11, r12, oob_f hp (by omega), ix_io (by omega)]
    simp only [Bool.false_eq_true, if_false]
    rw [show f_X6_readNamed 8 0 600 Mc = _ from e1, bnd2_s, letv_eq, show f_X6_readNamed 9 1 9 _ = _ from e2, bnd2_s, letv_eq, show f_X6_readNamed 10 0 300 _ = _ from e3, bnd2_s, letv_eq, show f_X6_readNamed 11 0 14 _ = _ from e4, bnd2_s, letv_eq, letv_eq, c77, show io p + (1 : Int32) = io (p + 1) from io_add p 1]
  · unfold f_X11_pieceLine
    rw [show f_X11_hasRead 6 Mr = _ from readR (k := 6) (by omega), h2, bnd_s, letv_eq, show (24 : Int32) + io p = io (24 + p) from io_add 24 p, show (4 : Int32) * io (24 + p) = io (4 * (24 + p)) from io_mul 4 _, show io (4 * (24 + p)) + (1 : Int32) = io (4 * (24 + p) + 1) from io_add _ 1, show io (4 * (24 + p)) + (2 : Int32) = io (4 * (24 + p) + 2) from io_add _ 2, show io (4 * (24 + p)) + (3 : Int32) = io (4 * (24 + p) + 3) from io_add _ 3, oob_f (show 4 * (24 + p) < 120 by omega) (by omega), oob_f (show 4 * (24 + p) + 1 < 120 by omega) (by omega), oob_f (show 4 * (24 + p) + 2 < 120 by omega) (by omega), oob_f (show 4 * (24 + p) + 3 < 120 by omega) (by omega), ix_io (show 4 * (24 + p) < 2147483648 by omega), ix_io (show 4 * (24 + p) + 1 < 2147483648 by omega), ix_io (show 4 * (24 + p) + 2 < 2147483648 by omega), ix_io (show 4 * (24 + p) + 3 < 2147483648 by omega)]
    simp only [Bool.false_eq_true, if_false]
    rw [show f_X11_number_ 161156 0 600 Mr = _ from f1, bnd2_s, letv_eq, show f_X11_number_ 10792937 1 9 _ = _ from f2, bnd2_s, letv_eq, show f_X11_number_ 1162531 0 300 _ = _ from f3, bnd2_s, letv_eq, show f_X11_number_ 47 0 14 _ = _ from f4, bnd2_s, letv_eq, show f_X11_hasRead 6 (st Mr4 9 (4 * (24 + p) + 3) (io v3)) = _ from readR (k := 6) (by omega), bnd_s, c738, show io p + (1 : Int32) = io (p + 1) from io_add p 1, show f_X11_tells 6 (io (p + 1)) (st Mr4 9 (4 * (24 + p) + 3) (io v3)) = _ from tellsR (k := 6) (by omega), bnd_s]
  · rw [stne (by decide), stne (by decide), k4.1 9 (by decide), stne (by decide), k3.1 9 (by decide), stne (by decide), k2.1 9 (by decide)]; simp [st]
  · rw [stne (by decide), stne (by decide), k4.1 10 (by decide), stne (by decide), k3.1 10 (by decide)]; simp [st]
  · rw [stne (by decide), stne (by decide), k4.1 11 (by decide)]; simp [st]
  · rw [stne (by decide)]; simp [st]
  · simp [st]
  · rw [stne (by decide)]
    rcases (by omega : w = 0 ∨ w = 1 ∨ w = 2 ∨ w = 3) with rfl | rfl | rfl | rfl
    · rw [st_rd (by omega), r4.1 9 (by decide), st_rd (by omega), r3.1 9 (by decide), st_rd (by omega), r2.1 9 (by decide), show 96 + (4 * p + 0) = 4 * (24 + p) by omega]; simp [st]
    · rw [st_rd (by omega), r4.1 9 (by decide), st_rd (by omega), r3.1 9 (by decide), show 96 + (4 * p + 1) = 4 * (24 + p) + 1 by omega]; simp [st]
    · rw [st_rd (by omega), r4.1 9 (by decide), show 96 + (4 * p + 2) = 4 * (24 + p) + 2 by omega]; simp [st]
    · rw [show 96 + (4 * p + 3) = 4 * (24 + p) + 3 by omega]; simp [st]
  · simp [st]
  · exact (((((((((KpC.refl.lf k1).sto (Or.inl ⟨by omega, rfl⟩)).lf k2).sto (Or.inl ⟨by omega, rfl⟩)).lf k3).sto (Or.inl ⟨by omega, rfl⟩)).lf k4).sto (Or.inl ⟨by omega, rfl⟩)).sto (Or.inr ⟨rfl, rfl⟩))
  · exact (((((((((KpR.refl.lf r1).sto (Or.inl ⟨rfl, by omega, by omega⟩) (by decide)).lf r2).sto (Or.inl ⟨rfl, by omega, by omega⟩) (by decide)).lf r3).sto (Or.inl ⟨rfl, by omega, by omega⟩) (by decide)).lf r4).sto (Or.inl ⟨rfl, by omega, by omega⟩) (by decide)).sto (Or.inr ⟨rfl, rfl⟩) (by decide))
/-- a line's end -/
def tlR (K : Mem → Option (Int32 × Mem)) (M : Mem) : Option (Int32 × Mem) :=
  if (f_X11_isGood M) = 0 then
  J_X11_lehr_135 K M
  else
  bnd (f_X11_ends M) (fun M29 =>
  J_X11_lehr_135 K M29)
theorem tailS {n i : Nat} {t : Nat → Int32} {b a : Nat} {Mc Mr : Mem} (hn : n ≤ 600) (h1 : Mc.1 7 0 = io i) (h2 : Mr.1 6 4 = io i) (h : Sb n t b a Mc Mr) : ∃ (Mc' Mr' : Mem) (b' a' : Nat), J_X6_readLine_54 7 Mc = some Mc' ∧ (∀ K, tlR K Mr = K Mr') ∧ Sb n t b' a' Mc' Mr' ∧ (b' = 0 → b = 0 ∧ a < a' ∧ Mc'.1 7 0 = io (i + 1) ∧ Mr'.1 6 4 = io (i + 1)) ∧ KpC (fun c j => c = 7 ∧ j = 0) Mc Mc' ∧ KpR (fun c j => c = 6 ∧ j = 4) Mr Mr' := by
  have jr : ∀ K M, J_X11_lehr_135 K M = K (st M 6 4 (M.1 6 4 + 1)) := fun K M => by
    unfold J_X11_lehr_135
    rw [show oob 4 5 = false from rfl, show ix 4 = 4 from rfl]
    simp only [Bool.false_eq_true, if_false, letv_eq]
  unfold J_X6_readLine_54
  by_cases c : b = 0
  · subst c
    obtain ⟨Mc1, Mr1, b1, a1, e1, f1, g1, k1, r1, m1, m2⟩ := signS hn h
    have x1 : Mc1.1 7 0 = io i := by rw [k1.1 7 (by decide)]; exact h1
    have x2 : Mr1.1 6 4 = io i := by rw [r1.1 6 (by decide)]; exact h2
    have hT : ∀ K, tlR K Mr = K (st Mr1 6 4 (io (i + 1))) := fun K => by
      unfold tlR f_X11_isGood
      rw [if_pos (show Mr.1 0 12 = 0 from h.2.2.1.2.2.1), if_neg (show ¬ (1 : Int32) = 0 by decide), f1, bnd_s, jr, x2, show io i + (1 : Int32) = io (i + 1) from io_add i 1]
    rw [e1, bnd_s, x1, show io i + (1 : Int32) = io (i + 1) from io_add i 1]
    by_cases c1 : b1 = 0
    · subst c1
      rw [if_pos (show Mc1.1 6 4 = 0 from g1.2.2.1.2.1), letv_eq]
      exact ⟨_, _, 0, a1, rfl, hT, (g1.stC (by decide)).stR (by decide), fun _ => ⟨rfl, m2 rfl, by simp [st], by simp [st]⟩, (KpC.refl.lf k1).sto (by decide), (KpR.refl.lf r1).sto (by decide) (by decide)⟩
    · rw [if_neg (g1.good c1).1]
      exact ⟨_, _, b1, a1, rfl, hT, g1.stR (by decide), fun q => absurd q c1, KpC.refl.lf k1, (KpR.refl.lf r1).sto (by decide) (by decide)⟩
  · obtain ⟨c1, c2⟩ := h.good c
    have hT : ∀ K, tlR K Mr = K (st Mr 6 4 (Mr.1 6 4 + 1)) := fun K => by
      unfold tlR f_X11_isGood
      rw [if_neg c2, if_pos rfl, jr]
    unfold f_X6_expectSign
    rw [if_neg c1, bnd_s, if_neg c1]
    exact ⟨_, _, b, a, rfl, hT, h.stR (by decide), fun q => absurd q c, KpC.refl, KpR.refl.sto (p := 6) (k := 4) (by decide) (by decide)⟩
