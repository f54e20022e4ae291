/-! thin, pace, raise, rescue -/
/-- the first below n of which S is so -/
def ff (S : Nat → Bool) : Nat → Option Nat
  | 0 => none
  | n + 1 => match ff S n with
    | some m => some m
    | none => if S n = true then some n else none
theorem ff_none {S : Nat → Bool} : ∀ {n : Nat}, (∀ i, i < n → S i = false) → ff S n = none
  | 0, _ => rfl
  | n + 1, h => by
    simp only [ff]
    rw [ff_none (fun i hi => h i (by omega)), h n (by omega)]
    rfl
theorem ff_some {S : Nat → Bool} {m : Nat} (hm : S m = true) (h : ∀ i, i < m → S i = false) : ∀ {n : Nat}, m < n → ff S n = some m
  | 0, hn => absurd hn (Nat.not_lt_zero _)
  | n + 1, hn => by
    simp only [ff]
    by_cases e : m = n
    · subst e
      rw [ff_none h, hm]; rfl
    · rw [ff_some hm h (by omega)]
theorem ff_or (S : Nat → Bool) (n : Nat) : (ff S n = none ∧ ∀ i, i < n → S i = false) ∨ ∃ m, m < n ∧ ff S n = some m ∧ S m = true ∧ ∀ i, i < m → S i = false := by
  rcases first_or (fun i => S i = true) n with h | ⟨m, h1, h2, h3⟩
  · exact Or.inl ⟨ff_none (fun i hi => by simpa using h i hi), fun i hi => by simpa using h i hi⟩
  · exact Or.inr ⟨m, h1, ff_some h2 (fun i hi => by simpa using h3 i hi) h1, h2, fun i hi => by simpa using h3 i hi⟩
def fu2 (f : Nat → Nat → Nat) (p w n : Nat) : Nat → Nat → Nat := fun q v => if q = p ∧ v = w then n else f q v
theorem fu2_eq {f : Nat → Nat → Nat} {p w n : Nat} : fu2 f p w n p w = n := if_pos ⟨rfl, rfl⟩
theorem fu2_ne {f : Nat → Nat → Nat} {p w n q v : Nat} (h : ¬ (q = p ∧ v = w)) : fu2 f p w n q v = f q v := if_neg h
/-- both sides have gone their ways -/
theorem twoWays {Mc Mr : Mem} {fc fr : Option (Int32 × Mem)} {v : Int32} (h : Rel Mc Mr) (hc : ∃ M', fc = some (v, M') ∧ KC Mc M') (hr : ∃ M', fr = some (v, M') ∧ KR Mr M') : ∃ (r : Int32) (Mc' Mr' : Mem), fc = some (r, Mc') ∧ fr = some (r, Mr') ∧ Rel Mc' Mr' := by
  obtain ⟨M1, e1, k1⟩ := hc
  obtain ⟨M2, e2, k2⟩ := hr
  exact ⟨v, M1, M2, e1, e2, (h.kc k1).kr k2⟩
theorem Lk.pz {L : Lh} (hL : OkL L) (h0 : 0 < L.1 0) {p w n : Nat} (hw : (w = 1 ∧ 1 ≤ n ∧ n ≤ 9) ∨ (w = 2 ∧ n ≤ 1000000)) : Lk L L.1 (fu2 L.2.2.1 p w n) L.2.1 0 (L.1 6) := by
  obtain ⟨a, b, c, d, e⟩ := Lk.now hL h0
  refine ⟨a, b, c, d, fun q hq => ?_⟩
  obtain ⟨e0, e1, e2, e3⟩ := e q hq
  refine ⟨fu2_ne (by omega), ?_, ?_, fu2_ne (by omega)⟩
  · unfold fu2
    split <;> omega
  · unfold fu2
    split <;> omega
theorem numsOf {L : Lh} {M : Mem} (hC : RpC 35 L M) : ∀ i, i ∈ [1, 2, 4, 5, 6, 7] → M.1 35 i = io (L.1 i) := fun i hi => hC.1 i (by revert i; decide)
/-- the class's trial with one number of a piece another -/
theorem Tc_pz {L : Lh} {M M' : Mem} {p w n : Nat} (hL : OkL L) (h0 : 0 < L.1 0) (hC : RpC 35 L M) (hw : (w = 1 ∧ 1 ≤ n ∧ n ≤ 9) ∨ (w = 2 ∧ n ≤ 1000000)) (hp : p < L.1 7) (g : ∀ a, a ∈ [35, 36, 37, 40, 41, 45] → M'.1 a = M.1 a) (g1 : ∀ q, M'.1 38 q = if q = p ∧ w = 1 then io n else M.1 38 q) (g2 : ∀ q, M'.1 39 q = if q = p ∧ w = 2 then io n else M.1 39 q) : Tc (rcf L L.1 (fu2 L.2.2.1 p w n) L.2.1 0 (L.1 6)) M' := by
  refine Tc_mod hL hC (Lk.pz hL h0 hw) rfl (g 41 (by decide)) (g 45 (by decide)) (g 37 (by decide)) (g 40 (by decide)) (fun i hi => by rw [g 35 (by decide)]; exact numsOf hC i hi) (fun z hz => by rw [g 36 (by decide)]; exact hC.2.2.1 z hz) (fun q hq => ?_)
  have hq' := hC.2.2.2.1 q hq
  rw [g1, g2]
  constructor
  · by_cases c : q = p ∧ w = 1
    · rw [if_pos c, c.1, c.2, fu2_eq]
    · rw [if_neg c, fu2_ne (by omega)]; exact hq'.2.1
  · by_cases c : q = p ∧ w = 2
    · rw [if_pos c, c.1, c.2, fu2_eq]
    · rw [if_neg c, fu2_ne (by omega)]; exact hq'.2.2.1
theorem em_dec {i : Nat} (h0 : 0 < i) : io i + m1 = io (i - 1) := by rw [show m1 = -(io 1) from rfl, ← Int32.sub_eq_add_neg, io_sub h0]
def thS (L : Lh) (p : Nat) : Nat → Bool := fun i => snd (rcf L L.1 (fu2 L.2.2.1 p 1 (9 - i)) L.2.1 0 (L.1 6)) p
def thV (L : Lh) (p : Nat) : Int32 := match ff (thS L p) 9 with
  | none => m1
  | some m => io (9 - m)
theorem thinC {L : Lh} {M : Mem} {p : Nat} (hL : OkL L) (h0 : 0 < L.1 0) (hC : RpC 14 L M) (hp : p < L.1 7) : ∃ M', f_X9_greatestThick (io p) M = some (thV L p, M') ∧ KC M M' := by
  have g := hL.2.2.1
  obtain ⟨M1, e1, hC1, k1⟩ := copyT hL hC
  unfold f_X9_greatestThick
  rw [e1, bnd_s, pieceC (hC1.1 7 (by omega)) (by omega), ite01, if_pos (pos_io hp (by omega))]
  have step : ∀ i M2, i < 9 → (∀ a, a ∈ [35, 36, 37, 39, 40, 41, 45] → M2.1 a = M1.1 a) → (∀ q, q ≠ p → M2.1 38 q = M1.1 38 q) → KC M M2 → ∃ M3, (∀ a, a ∈ [35, 36, 37, 39, 40, 41, 45] → M3.1 a = M1.1 a) ∧ (∀ q, q ≠ p → M3.1 38 q = M1.1 38 q) ∧ KC M M3 ∧ ∀ K, L_X9_greatestThick_30 (io p) K (io (9 - i)) M2 = if thS L p i = true then some (io (9 - i), M3) else K (if i < 8 then io (9 - (i + 1)) else io 0) M3 := by
    intro i M2 hi g1 g2 k2
    have hT : Tc (rcf L L.1 (fu2 L.2.2.1 p 1 (9 - i)) L.2.1 0 (L.1 6)) (st M2 38 p (io (9 - i))) := by
      refine Tc_pz hL h0 hC1 (Or.inl ⟨rfl, by omega, by omega⟩) hp (fun a ha => ?_) (fun q => ?_) (fun q => ?_)
      · rw [stne (by revert a; decide)]; exact g1 a (by revert a; decide)
      · by_cases c : q = p
        · subst c; simp [st]
        · rw [if_neg (fun q => c q.1), st_rd (fun q => c q.2)]; exact g2 q c
      · rw [if_neg (by omega), stne (by decide)]; rw [g1 39 (by decide)]
    obtain ⟨M3, e3, f3⟩ := tSound (p := p) ((Lk.pz hL h0 (p := p) (w := 1) (n := 9 - i) (Or.inl ⟨rfl, by omega, by omega⟩)).ok hL) hT hp
    refine ⟨M3, fun a ha => ?_, fun q hq => ?_, (k2.sto (by omega)).trans (fr49 f3), fun K => ?_⟩
    · rw [f3.1 a (by revert a; decide), stne (by revert a; decide)]; exact g1 a ha
    · rw [f3.1 38 (by decide), st_rd (fun q => hq q.2)]; exact g2 q hq
    · unfold L_X9_greatestThick_30
      simp only [lit, nio1]
      rw [if_neg (show ¬ io (9 - i) < io 1 by rw [io_lt (by omega) (by omega)]; omega), oob_f (show p < 6 by omega) (by omega), ix_io (by omega)]
      simp only [Bool.false_eq_true, if_false, letv_eq]
      rw [e3, bnd2_s]
      unfold thS
      by_cases c : snd (rcf L L.1 (fu2 L.2.2.1 p 1 (9 - i)) L.2.1 0 (L.1 6)) p = true
      · rw [if_pos c, if_pos c, if_neg (show ¬ (1 : Int32) = io 0 by decide)]
      · rw [if_neg c, if_neg c, if_pos (show (0 : Int32) = io 0 from rfl), em_dec (by omega)]
        by_cases c8 : i < 8
        · rw [if_pos c8]; rfl
        · rw [if_neg c8, show 9 - i - 1 = 0 by omega]
  rcases ff_or (thS L p) 9 with ⟨f1, f2⟩ | ⟨m, hm, f1, f2, f3⟩
  · have ev : thV L p = m1 := by unfold thV; rw [f1]
    rw [ev]
    obtain ⟨r, ⟨r1, r2⟩, hr⟩ := in2x (b := L_X9_greatestThick_30 (io p)) (fun i x M2 => x = io (9 - i) ∧ (∀ a, a ∈ [35, 36, 37, 39, 40, 41, 45] → M2.1 a = M1.1 a) ∧ (∀ q, q ≠ p → M2.1 38 q = M1.1 38 q) ∧ KC M M2) (fun r => r.1 = m1 ∧ KC M r.2) 9 (x := 9) (y := M1) ⟨rfl, fun _ _ => rfl, fun _ _ => rfl, k1⟩ (by omega) (fun i x M2 hi h => by
        obtain ⟨rfl, g1, g2, k2⟩ := h
        obtain ⟨M3, g3, g4, k3, he⟩ := step i M2 hi g1 g2 k2
        refine ⟨io (9 - (i + 1)), M3, ⟨rfl, g3, g4, k3⟩, fun K => ?_⟩
        rw [he, f2 i hi]
        simp only [Bool.false_eq_true, if_false]
        by_cases c8 : i < 8
        · rw [if_pos c8]
        · rw [if_neg c8, show 9 - (i + 1) = 0 by omega]) (fun x M2 h => by
        obtain ⟨rfl, g1, g2, k2⟩ := h
        refine ⟨(m1, M2), ⟨rfl, k2⟩, fun K => ?_⟩
        unfold L_X9_greatestThick_30
        rw [if_pos (show io (9 - 9) < 1 by decide)]; rfl)
    exact ⟨r.2, by rw [hr, ← r1], r2⟩
  · have ev : thV L p = io (9 - m) := by unfold thV; rw [f1]
    rw [ev]
    obtain ⟨r, ⟨r1, r2⟩, hr⟩ := in2x (b := L_X9_greatestThick_30 (io p)) (fun i x M2 => x = io (9 - i) ∧ (∀ a, a ∈ [35, 36, 37, 39, 40, 41, 45] → M2.1 a = M1.1 a) ∧ (∀ q, q ≠ p → M2.1 38 q = M1.1 38 q) ∧ KC M M2) (fun r => r.1 = io (9 - m) ∧ KC M r.2) m (x := 9) (y := M1) ⟨rfl, fun _ _ => rfl, fun _ _ => rfl, k1⟩ (by omega) (fun i x M2 hi h => by
        obtain ⟨rfl, g1, g2, k2⟩ := h
        obtain ⟨M3, g3, g4, k3, he⟩ := step i M2 (by omega) g1 g2 k2
        refine ⟨io (9 - (i + 1)), M3, ⟨rfl, g3, g4, k3⟩, fun K => ?_⟩
        rw [he, f3 i hi]
        simp only [Bool.false_eq_true, if_false]
        rw [if_pos (by omega)]) (fun x M2 h => by
        obtain ⟨rfl, g1, g2, k2⟩ := h
        obtain ⟨M3, g3, g4, k3, he⟩ := step m M2 (by omega) g1 g2 k2
        exact ⟨(io (9 - m), M3), ⟨rfl, k3⟩, fun K => by rw [he, if_pos f2]⟩)
    exact ⟨r.2, by rw [hr, ← r1], r2⟩
theorem thinR {L : Lh} {M : Mem} {p : Nat} (hL : OkL L) (h0 : 0 < L.1 0) (hR : RpR 0 L M) (hp : p < L.1 7) : ∃ M', bnd (f_X11_lays M) (fun M7 => lq2 (L_X11_thin_24 (io p)) FU 9 M7) = some (thV L p, M') ∧ KR M M' := by
  have g := hL.2.2.1
  obtain ⟨M1, e1, hs1, k1⟩ := rLays hL hR
  rw [e1, bnd_s]
  have step : ∀ i M2, i < 9 → (∃ n, Ls L L.1 (fu2 L.2.2.1 p 1 n) L.2.1 0 (L.1 6) M2) → KR M M2 → ∃ M3, (∃ n, Ls L L.1 (fu2 L.2.2.1 p 1 n) L.2.1 0 (L.1 6) M3) ∧ KR M M3 ∧ ∀ K, L_X11_thin_24 (io p) K (io (9 - i)) M2 = if thS L p i = true then some (io (9 - i), M3) else K (io (9 - (i + 1))) M3 := by
    intro i M2 hi hs k2
    obtain ⟨n, hs⟩ := hs
    have hlk := Lk.pz hL h0 (p := p) (w := 1) (n := 9 - i) (Or.inl ⟨rfl, by omega, by omega⟩)
    have hs2 : Ls L L.1 (fu2 L.2.2.1 p 1 (9 - i)) L.2.1 0 (L.1 6) (st M2 13 p (io (9 - i))) := by
      obtain ⟨a, b, c⟩ := hs
      refine ⟨by rw [stne (by decide)]; exact a, fun z hz => by rw [stne (by decide)]; exact b z hz, fun q hq => ?_⟩
      have := c q hq
      constructor
      · by_cases cq : q = p
        · subst cq; rw [fu2_eq]; simp [st]
        · rw [fu2_ne (by omega), st_rd (fun q => cq q.2), this.1, fu2_ne (by omega)]
      · rw [fu2_ne (by omega), stne (by decide), this.2, fu2_ne (by omega)]
    have k3 : KR M (st M2 13 p (io (9 - i))) := k2.sto (by decide)
    obtain ⟨M3, e3, hs3, k4⟩ := rIsSound hL (hR.kr k3) hlk hs2 hp
    refine ⟨M3, ⟨_, hs3⟩, k3.trans k4, fun K => ?_⟩
    unfold L_X11_thin_24
    simp only [lit, nio1]
    rw [if_neg (show ¬ io (9 - i) ≤ io 0 by rw [io_le (by omega) (by omega)]; omega), oob_f (show p < 6 by omega) (by omega), ix_io (by omega)]
    simp only [Bool.false_eq_true, if_false, letv_eq]
    rw [e3, bnd2_s]
    unfold thS
    by_cases c : snd (rcf L L.1 (fu2 L.2.2.1 p 1 (9 - i)) L.2.1 0 (L.1 6)) p = true
    · rw [if_pos c, if_pos c, if_neg (show ¬ (1 : Int32) = io 0 by decide)]
    · rw [if_neg c, if_neg c, if_pos (show (0 : Int32) = io 0 from rfl), em_dec (by omega)]; rfl
  have hs0 : ∃ n, Ls L L.1 (fu2 L.2.2.1 p 1 n) L.2.1 0 (L.1 6) M1 := ⟨L.2.2.1 p 1, by
    have : fu2 L.2.2.1 p 1 (L.2.2.1 p 1) = L.2.2.1 := by
      funext q v
      unfold fu2
      split
      · rename_i h; rw [h.1, h.2]
      · rfl
    rw [this]; exact hs1⟩
  rcases ff_or (thS L p) 9 with ⟨f1, f2⟩ | ⟨m, hm, f1, f2, f3⟩
  · have ev : thV L p = m1 := by unfold thV; rw [f1]
    rw [ev]
    obtain ⟨r, ⟨r1, r2⟩, hr⟩ := in2x (b := L_X11_thin_24 (io p)) (fun i x M2 => x = io (9 - i) ∧ (∃ n, Ls L L.1 (fu2 L.2.2.1 p 1 n) L.2.1 0 (L.1 6) M2) ∧ KR M M2) (fun r => r.1 = m1 ∧ KR M r.2) 9 (x := 9) (y := M1) ⟨rfl, hs0, k1⟩ (by omega) (fun i x M2 hi h => by
        obtain ⟨rfl, g1, k2⟩ := h
        obtain ⟨M3, g3, k3, he⟩ := step i M2 hi g1 k2
        refine ⟨io (9 - (i + 1)), M3, ⟨rfl, g3, k3⟩, fun K => ?_⟩
        rw [he, f2 i hi]
        simp only [Bool.false_eq_true, if_false]) (fun x M2 h => by
        obtain ⟨rfl, g1, k2⟩ := h
        refine ⟨(m1, M2), ⟨rfl, k2⟩, fun K => ?_⟩
        unfold L_X11_thin_24
        rw [if_pos (show io (9 - 9) ≤ 0 by decide)]; rfl)
    exact ⟨r.2, by rw [hr, ← r1], r2⟩
  · have ev : thV L p = io (9 - m) := by unfold thV; rw [f1]
    rw [ev]
    obtain ⟨r, ⟨r1, r2⟩, hr⟩ := in2x (b := L_X11_thin_24 (io p)) (fun i x M2 => x = io (9 - i) ∧ (∃ n, Ls L L.1 (fu2 L.2.2.1 p 1 n) L.2.1 0 (L.1 6) M2) ∧ KR M M2) (fun r => r.1 = io (9 - m) ∧ KR M r.2) m (x := 9) (y := M1) ⟨rfl, hs0, k1⟩ (by omega) (fun i x M2 hi h => by
        obtain ⟨rfl, g1, k2⟩ := h
        obtain ⟨M3, g3, k3, he⟩ := step i M2 (by omega) g1 k2
        refine ⟨io (9 - (i + 1)), M3, ⟨rfl, g3, k3⟩, fun K => ?_⟩
        rw [he, f3 i hi]
        simp only [Bool.false_eq_true, if_false]) (fun x M2 h => by
        obtain ⟨rfl, g1, k2⟩ := h
        obtain ⟨M3, g3, k3, he⟩ := step m M2 (by omega) g1 k2
        exact ⟨(io (9 - m), M3), ⟨rfl, k3⟩, fun K => by rw [he, if_pos f2]⟩)
    exact ⟨r.2, by rw [hr, ← r1], r2⟩
/-- a piece is asked, and both go their ways -/
theorem opP2 {d : Int32} {fc fr : Int32 → Mem → Option (Int32 × Mem)} (qc qr : Int32 → Mem → Option (Int32 × Mem)) (ec : ∀ a M, fc a M = if f_X5_hasPiece 14 a M = 0 then some (d, M) else qc a M) (er : ∀ a M, fr a M = bnd (f_X11_isPiece a.toInt64 (st M 0 0 0)) (fun r => if r = 0 then some (d, st M 0 0 0) else qr a (st M 0 0 0))) (H : ∀ L p Mc Mr, p < L.1 7 → OkL L → 0 < L.1 0 → RpC 14 L Mc → RpR 0 L Mr → ∃ v, (∃ M', qc (io p) Mc = some (v, M') ∧ KC Mc M') ∧ ∃ M', qr (io p) Mr = some (v, M') ∧ KR Mr M') : ∀ (Mc Mr : Mem) (a1 : Int32), Rel Mc Mr → ∃ (r : Int32) (Mc' Mr' : Mem), fc a1 Mc = some (r, Mc') ∧ fr a1 Mr = some (r, Mr') ∧ Rel Mc' Mr' := by
  intro Mc Mr a h
  obtain ⟨hX, L, hN⟩ := h.split
  have hk := kr0 Mr
  have hN1 := hN.kr hk
  have h7 := hN.1.2.2.1
  rw [ec, er, pieceC (hN.2.1.1 7 (by omega)) (by omega), pieceR hN.1 hN1.2.2.1]
  rw [bnd_s, ite01, ite01]
  rcases below a (L.1 7) with hb | ⟨p, hp, rfl, hp2⟩
  · rw [if_neg hb, if_neg hb]
    exact ⟨d, Mc, _, rfl, rfl, h.kr hk⟩
  · rw [if_pos (pos_io hp hp2), if_pos (pos_io hp hp2)]
    obtain ⟨v, hc, hr⟩ := H L p Mc (st Mr 0 0 0) hp hN.1 (hN.1.pos (i := 7) (by omega)) hN.2.1 hN1.2.2.1
    exact twoWays (h.kr hk) hc hr
theorem op_52 : ∀ (Mc Mr : Mem) (a1 : Int32), Rel Mc Mr → ∃ (r : Int32) (Mc' Mr' : Mem), f_X10_thin a1 Mc = some (r, Mc') ∧ f_X11_thin a1 Mr = some (r, Mr') ∧ Rel Mc' Mr' :=
  opP2 (fun a M => f_X9_greatestThick a M) (fun a M => bnd (f_X11_lays M) (fun M7 => lq2 (L_X11_thin_24 a) FU 9 M7)) (fun a M => by unfold f_X10_thin; rw [bnd2_id]) (fun _ _ => rfl) (fun L p Mc Mr hp hL h0 hC hR => ⟨thV L p, thinC hL h0 hC hp, thinR hL h0 hR hp⟩)
