/-! TRIALS: what would be, on both sides -/
theorem in1x {α ρ : Type} {b : (α → Option ρ) → α → Option ρ} (I : Nat → α → Prop) (Q : ρ → Prop) (n : Nat) {x : α} (h0 : I 0 x) (hn : n < 4096) (hs : ∀ i x, i < n → I i x → ∃ x', I (i + 1) x' ∧ ∀ K, b K x = K x') (he : ∀ x, I n x → ∃ r, Q r ∧ ∀ K, b K x = some r) : ∃ r, Q r ∧ lq1 b FU x = some r := by
  obtain ⟨x', h, e⟩ := in1 (b := b) I (fun x => b (fun _ => none) x) n h0 hn hs (fun x hx K => by
    obtain ⟨r, -, hr⟩ := he x hx
    rw [hr, hr])
  obtain ⟨r, hq, hr⟩ := he x' h
  exact ⟨r, hq, by rw [e, hr]⟩
theorem in2x {α β ρ : Type} {b : (α → β → Option ρ) → α → β → Option ρ} (I : Nat → α → β → Prop) (Q : ρ → Prop) (n : Nat) {x : α} {y : β} (h0 : I 0 x y) (hn : n < 4096) (hs : ∀ i x y, i < n → I i x y → ∃ x' y', I (i + 1) x' y' ∧ ∀ K, b K x y = K x' y') (he : ∀ x y, I n x y → ∃ r, Q r ∧ ∀ K, b K x y = some r) : ∃ r, Q r ∧ lq2 b FU x y = some r := by
  obtain ⟨x', y', h, e⟩ := in2 (b := b) I (fun x y => b (fun _ _ => none) x y) n h0 hn hs (fun x y hx K => by
    obtain ⟨r, -, hr⟩ := he x y hx
    rw [hr, hr])
  obtain ⟨r, hq, hr⟩ := he x' y' h
  exact ⟨r, hq, by rw [e, hr]⟩
theorem in3x {α β γ ρ : Type} {b : (α → β → γ → Option ρ) → α → β → γ → Option ρ} (I : Nat → α → β → γ → Prop) (Q : ρ → Prop) (n : Nat) {x : α} {y : β} {z : γ} (h0 : I 0 x y z) (hn : n < 4096) (hs : ∀ i x y z, i < n → I i x y z → ∃ x' y' z', I (i + 1) x' y' z' ∧ ∀ K, b K x y z = K x' y' z') (he : ∀ x y z, I n x y z → ∃ r, Q r ∧ ∀ K, b K x y z = some r) : ∃ r, Q r ∧ lq3 b FU x y z = some r := by
  obtain ⟨x', y', z', h, e⟩ := in3 (b := b) I (fun x y z => b (fun _ _ _ => none) x y z) n h0 hn hs (fun x y z hx K => by
    obtain ⟨r, -, hr⟩ := he x y z hx
    rw [hr, hr])
  obtain ⟨r, hq, hr⟩ := he x' y' z' h
  exact ⟨r, hq, by rw [e, hr]⟩
theorem in4x {α β γ δ ρ : Type} {b : (α → β → γ → δ → Option ρ) → α → β → γ → δ → Option ρ} (I : Nat → α → β → γ → δ → Prop) (Q : ρ → Prop) (n : Nat) {x : α} {y : β} {z : γ} {w : δ} (h0 : I 0 x y z w) (hn : n < 4096) (hs : ∀ i x y z w, i < n → I i x y z w → ∃ x' y' z' w', I (i + 1) x' y' z' w' ∧ ∀ K, b K x y z w = K x' y' z' w') (he : ∀ x y z w, I n x y z w → ∃ r, Q r ∧ ∀ K, b K x y z w = some r) : ∃ r, Q r ∧ lq4 b FU x y z w = some r := by
  obtain ⟨x', y', z', w', h, e⟩ := in4 (b := b) I (fun x y z w => b (fun _ _ _ _ => none) x y z w) n h0 hn hs (fun x y z w hx K => by
    obtain ⟨r, -, hr⟩ := he x y z w hx
    rw [hr, hr])
  obtain ⟨r, hq, hr⟩ := he x' y' z' w' h
  exact ⟨r, hq, by rw [e, hr]⟩
/-- pieces that never crack -/
def nvc (c : Cf) : Nat := bN (fun p => decide ((run c (c.1 1) p).2.2.2.2.1 = none)) (c.1 7)
def snd (c : Cf) (p : Nat) : Bool := decide ((run c (c.1 1) p).2.2.2.2.1 = none)
theorem nvc_lt {c : Cf} (h : OkC c) : nvc c < 64 :=
  Nat.lt_of_lt_of_le (bN_lt _ _) (Nat.pow_le_pow_right (n := 2) (by decide) (h.2.2.2.2.2.1 : c.1 7 ≤ 6))
/-- the class's trial belt has it so -/
def Tc (c : Cf) (M : Mem) : Prop := (M.1 35 1 = io (c.1 1) ∧ M.1 35 2 = io (c.1 2) ∧ M.1 35 4 = io (c.1 4) ∧ M.1 35 5 = io (c.1 5) ∧ M.1 35 6 = io (c.1 6) ∧ M.1 35 7 = io (c.1 7)) ∧ (∀ p, p < c.1 7 → M.1 37 p = io (c.2.1 p 0) ∧ M.1 38 p = io (c.2.1 p 1) ∧ M.1 39 p = io (c.2.1 p 2) ∧ M.1 40 p = io (c.2.1 p 3)) ∧ (∀ z s, z < c.1 6 → s < 14 → f_X1_airAt 34 (io z) (io s) (M.1 41 1) M = some (io (c.2.2 z s)))
theorem Tc.congr {c : Cf} {M M' : Mem} (h : Tc c M) (g : ∀ a, a ∈ [35, 36, 37, 38, 39, 40, 41, 45] → M'.1 a = M.1 a) : Tc c M' := by
  obtain ⟨h1, h2, h3⟩ := h
  refine ⟨?_, ?_, fun z s hz hs => ?_⟩
  · rw [g 35 (by decide)]; exact h1
  · rw [g 37 (by decide), g 38 (by decide), g 39 (by decide), g 40 (by decide)]; exact h2
  · rw [airC_49 (g 36 (by decide)) (g 45 (by decide)), g 41 (by decide)]; exact h3 z s hz hs
theorem Tc.cn {c : Cf} {M : Mem} (h : Tc c M) : Cn_49 c (st M 49 2 (M.1 41 1 ||| 0)) := by
  obtain ⟨h1, h2, h3⟩ := h
  refine ⟨?_, ?_, fun z s hz hs => ?_⟩
  · rw [stne (by decide)]; exact h1
  · rw [stne (by decide), stne (by decide), stne (by decide), stne (by decide)]; exact h2
  · rw [airC_49 (M := M) (stne (by decide)) (stne (by decide))]
    have : (st M 49 2 (M.1 41 1 ||| 0)).1 49 2 = M.1 41 1 := by
      simp [st]
    rw [this]; exact h3 z s hz hs
theorem trial {c : Cf} {M : Mem} {u pw : Nat} (hok : OkC c) (h : Tc c M) (hu : u < 2147483648) (hw : pw < 64) : ∃ M', f_X2_follow 49 0 (io u) (io pw) M = some M' ∧ Ct_49 c (fun q => c.1 2 = 2 ∨ pw.testBit q = true) (min u 14) (fun _ => min u 14) M' ∧ Fr (49 :: Cs_49) M M' := by
  obtain ⟨M', e, hT, hF, -⟩ := followC_49 (d := 0) hok h.cn hu hw
  exact ⟨M', e, hT, hF⟩
theorem fr49 {M M' : Mem} (h : Fr (49 :: Cs_49) M M') : KC M M' := KC.refl.fr h (by decide)
theorem e49 : rC 49 1 = 35 ∧ rC 49 6 = 53 := by decide
theorem crackB {c : Cf} (hok : OkC c) {p : Nat} (hp : p < c.1 7) {M : Mem} {x : Int32} (h : M.1 53 p = oi (run c (c.1 1) p).2.2.2.2.1) (hx : x = io 14) : (decide (M.1 53 p = m1) || !decide (M.1 53 p ≤ x)) = snd c p := by
  have hk := (run_ok hok (c.1 1) p hp).2.2.1
  have h14 := hok.1
  rw [h, hx]
  unfold snd
  cases e : (run c (c.1 1) p).2.2.2.2.1 with
  | none => simp [oi_none]
  | some n =>
    have := hk n e
    have e1 : (oi (some n) = m1) = False := eq_false (fun q => (io_m1 (a := n) (by omega)).mp q)
    have e2 : (oi (some n) ≤ io 14) = True := eq_true ((io_le (a := n) (by omega) (by omega)).mpr (by omega))
    simp [e1, e2]
theorem w63 : ∀ q, q < 6 → (63 : Nat).testBit q = true := by decide
theorem tNever {c : Cf} {M : Mem} (hok : OkC c) (h : Tc c M) : ∃ M', f_X2_follow 49 0 (M.1 35 1) 63 M = some M' ∧ f_X2_neverCracked 49 M' = some (io (nvc c)) ∧ Fr (49 :: Cs_49) M M' := by
  have h14 := hok.1
  have h6 := hok.2.2.2.2.2.1
  obtain ⟨M', e, hT, hF⟩ := trial (u := c.1 1) (pw := 63) hok h (by omega) (by omega)
  rw [show min (c.1 1) 14 = c.1 1 by omega] at hT
  refine ⟨M', by rw [h.1.1]; exact e, ?_, hF⟩
  unfold f_X2_neverCracked
  have h7 : M'.1 35 7 = io (c.1 7) := by rw [hF.1 35 (by decide)]; exact h.1.2.2.2.2.2
  rw [uncrC e49.1 e49.2 h6 h7, bnd_s]
  congr 2
  exact bN_congr (fun p hp => crackB hok hp (hT p hp (Or.inr (w63 p (by omega)))).2.2.1 rfl)
theorem tBits {c : Cf} {M : Mem} (hok : OkC c) (h : Tc c M) : ∃ M', f_X9_soundBits M = some (io (nvc c), M') ∧ Fr (49 :: Cs_49) M M' := by
  obtain ⟨M', e1, e2, hF⟩ := tNever hok h
  unfold f_X9_soundBits
  rw [e1, bnd_s, e2, bnd_s]
  exact ⟨M', rfl, hF⟩
theorem tCount {c : Cf} {M : Mem} (hok : OkC c) (h : Tc c M) : ∃ M', f_X9_soundCount M = some (io (pop (nvc c)), M') ∧ Fr (49 :: Cs_49) M M' := by
  obtain ⟨M', e1, e2, hF⟩ := tNever hok h
  unfold f_X9_soundCount
  rw [e1, bnd_s, e2, bnd_s, bitc (by have := nvc_lt hok; omega)]
  exact ⟨M', rfl, hF⟩
theorem tSound {c : Cf} {M : Mem} {p : Nat} (hok : OkC c) (h : Tc c M) (hp : p < c.1 7) : ∃ M', f_X9_isSound (io p) M = some (if snd c p = true then 1 else 0, M') ∧ Fr (49 :: Cs_49) M M' := by
  have h14 := hok.1
  have h6 := hok.2.2.2.2.2.1
  have hpw : 2 ^ p < 64 := Nat.lt_of_lt_of_le (Nat.pow_lt_pow_right (by decide) (show p < 6 by omega)) (by decide)
  obtain ⟨M', e, hT, hF⟩ := trial (u := c.1 1) (pw := 2 ^ p) hok h (by omega) hpw
  rw [show min (c.1 1) 14 = c.1 1 by omega] at hT
  have h7 : M'.1 35 7 = io (c.1 7) := by rw [hF.1 35 (by decide)]; exact h.1.2.2.2.2.2
  unfold f_X9_isSound f_X2_neverCracked
  rw [h.1.1, show (1 : Int32) <<< (io p &&& 31) = io (2 ^ p) from io_shl (by omega), e, bnd_s, uncrC e49.1 e49.2 h6 h7, bnd_s, bnd_s]
  have hb := bN_small (fun p => decide (M'.1 53 p = m1) || !decide (M'.1 53 p ≤ 14)) (n := c.1 7) (by omega)
  rw [show (io (bN (fun p => decide (M'.1 53 p = m1) || !decide (M'.1 53 p ≤ 14)) (c.1 7)) >>> (io p &&& 31)) &&& (1 : Int32) = io (if (bN (fun p => decide (M'.1 53 p = m1) || !decide (M'.1 53 p ≤ 14)) (c.1 7)).testBit p then 1 else 0) from io_shr hb (by omega), bN_tb, decide_eq_true hp, Bool.true_and, crackB (x := 14) hok hp (hT p hp (Or.inr (by rw [Nat.testBit_two_pow]; simp))).2.2.1 rfl]
  refine ⟨M', ?_, hF⟩
  by_cases c1 : snd c p = true
  · rw [if_pos c1, if_neg (by decide), if_pos c1]
  · rw [if_neg c1, if_pos (show io 0 = 0 from rfl), if_neg c1]
/-- of a copy of the lehr of now, changed here and there -/
theorem Tc_of {L : Lh} {M : Mem} {nums : Nat → Nat} {pz : Nat → Nat → Nat} {tl : Nat → Nat} {ht : Nat → Nat → Nat} {g : Nat → Bool} (h1 : ∀ i, i ∈ [1, 2, 4, 5, 6, 7] → M.1 35 i = io (nums i)) (hz6 : nums 6 ≤ 7) (hz : ∀ z, z < nums 6 → M.1 36 z = io (tl z) ∧ tl z ≤ 1000) (hp : ∀ p, p < nums 7 → M.1 37 p = io (pz p 0) ∧ M.1 38 p = io (pz p 1) ∧ M.1 39 p = io (pz p 2) ∧ M.1 40 p = io (pz p 3)) (hg : M.1 41 1 = io (bN (gst L (L.1 8)) 15)) (hgg : ∀ s, s < 14 → g s = gst L (L.1 8) s) (hh : ∀ z s, z < nums 6 → s < 14 → M.1 45 (z * 15 + s) = io (ht z s) ∧ ht z s ≤ 6000) : Tc (mk nums pz tl ht g) M := by
  refine ⟨⟨h1 1 (by decide), h1 2 (by decide), h1 4 (by decide), h1 5 (by decide), h1 6 (by decide), h1 7 (by decide)⟩, hp, fun z s hz1 hs => ?_⟩
  have hz2 : z < nums 6 := hz1
  have hb := bN_lt (gst L (L.1 8)) 15
  rw [hg, airC_of (b := 34) (P := 35) (A := 41) (tl := tl z) (ht := ht z s) (by decide) (by decide) (by decide) (by decide) (hz z hz2).1 (hh z s hz2 hs).1 (by omega) (by omega) (by omega) (by have := (hz z hz2).2; have := (hh z s hz2 hs).2; omega), bN_tb, decide_eq_true (show s < 15 by omega), Bool.true_and, ← hgg s hs]
  rfl
/-- the reference's numbers laid out -/
def Ls (L : Lh) (nums : Nat → Nat) (pz : Nat → Nat → Nat) (tl : Nat → Nat) (d sk : Nat) (M : Mem) : Prop := (M.1 0 22 = io (nums 2) ∧ M.1 0 23 = io (nums 4) ∧ M.1 0 24 = io d ∧ M.1 0 25 = io (nums 6) ∧ M.1 0 26 = io sk) ∧ (∀ z, z < nums 6 → M.1 12 z = io (tl z)) ∧ (∀ p, p < L.1 7 → M.1 13 p = io (pz p 1) ∧ M.1 14 p = io (pz p 2))
def rcf (L : Lh) (nums : Nat → Nat) (pz : Nat → Nat → Nat) (tl : Nat → Nat) (d sk : Nat) : Cf := mk nums pz tl (fun z s => hot L (L.1 8) (if z < sk then z else z + 1) s) (fun s => gst L (L.1 8) s || d.testBit s)
/-- what of the numbers is as it must be -/
def Lk (L : Lh) (nums : Nat → Nat) (pz : Nat → Nat → Nat) (tl : Nat → Nat) (d sk : Nat) : Prop := (nums 1 = L.1 1 ∧ nums 5 = L.1 5 ∧ nums 7 = L.1 7 ∧ nums 2 ≤ 3 ∧ (1 ≤ nums 4 ∧ nums 4 ≤ 6) ∧ nums 6 ≤ 7) ∧ d < 16384 ∧ sk ≤ 7 ∧ (∀ z, z < nums 6 → tl z ≤ 1000) ∧ (∀ p, p < L.1 7 → pz p 0 = L.2.2.1 p 0 ∧ (1 ≤ pz p 1 ∧ pz p 1 ≤ 9) ∧ pz p 2 ≤ 1000000 ∧ pz p 3 = L.2.2.1 p 3)
theorem Lk.ok {L : Lh} {nums : Nat → Nat} {pz : Nat → Nat → Nat} {tl : Nat → Nat} {d sk : Nat} (hL : OkL L) (h : Lk L nums pz tl d sk) : OkC (rcf L nums pz tl d sk) := by
  obtain ⟨⟨h1, h5, h7, h2, h4, h6⟩, hd, hsk, hz, hp⟩ := h
  have g := hL.2.2.1
  refine OkC.mk (by omega) h2 h4 (by omega) h6 (by omega) (fun p hq => ?_) (fun z s hz1 => ⟨hz z hz1, hot_lt hL _ s⟩)
  have := hp p (by omega)
  have o := hL.2.2.2.2.1 p (by omega)
  exact ⟨by rw [this.1]; exact o.1, this.2.1, this.2.2.1, by rw [this.2.2.2]; exact o.2.2.2⟩
theorem Ls.rn {L : Lh} {nums : Nat → Nat} {pz : Nat → Nat → Nat} {tl : Nat → Nat} {d sk : Nat} {M : Mem} (hL : OkL L) (hR : RpR 0 L M) (h : Lk L nums pz tl d sk) (hs : Ls L nums pz tl d sk M) : Rn (rcf L nums pz tl d sk) M := by
  obtain ⟨⟨h1, h5, h7, h2, h4, h6⟩, hd, hsk, hz, hp⟩ := h
  obtain ⟨⟨s1, s2, s3, s4, s5⟩, s6, s7⟩ := hs
  exact Rn_of hL hR h1 h5 h7 s1 s2 s4 h6 s3 (by omega) s5 hsk (fun z hz1 => ⟨s6 z hz1, hz z hz1⟩) (fun p hq => ⟨(hp p hq).1, (s7 p hq).1, (s7 p hq).2, (hp p hq).2.2.2⟩)
theorem Ls.fr {L : Lh} {nums : Nat → Nat} {pz : Nat → Nat → Nat} {tl : Nat → Nat} {d sk : Nat} {M M' : Mem} (hs : Ls L nums pz tl d sk M) (hf : Fr Rs M M') : Ls L nums pz tl d sk M' := by
  unfold Ls at *
  rw [hf.1 0 (by decide), hf.1 12 (by decide), hf.1 13 (by decide), hf.1 14 (by decide)]
  exact hs
theorem rRuns {L : Lh} {nums : Nat → Nat} {pz : Nat → Nat → Nat} {tl : Nat → Nat} {d sk : Nat} {M : Mem} (hL : OkL L) (hR : RpR 0 L M) (h : Lk L nums pz tl d sk) (hs : Ls L nums pz tl d sk M) : ∃ M', f_X11_runs M = some M' ∧ Rt (rcf L nums pz tl d sk) (fun _ => L.1 1) M' ∧ Ls L nums pz tl d sk M' ∧ KR M M' := by
  obtain ⟨M', e, hT, hF⟩ := runsR (h.ok hL) (Ls.rn hL hR h hs)
  have e1 : (rcf L nums pz tl d sk).1 1 = L.1 1 := h.1.1
  rw [e1] at hT
  exact ⟨M', e, hT, hs.fr hF, KR.refl.fr hF (by decide)⟩
theorem rSound {L : Lh} {c : Cf} {M : Mem} (hL : OkL L) (hok : OkC c) (hR : RpR 0 L M) (h7 : c.1 7 = L.1 7) (h1 : c.1 1 = L.1 1) (hT : Rt c (fun _ => L.1 1) M) : f_X11_soundNow M = some (io (nvc c)) := by
  have g := hL.2.2.1
  rw [soundR (pieces0 hR) (by omega)]
  unfold nvc
  rw [h7]
  congr 2
  refine bN_congr (fun p hp => ?_)
  have := (hT p (by omega)).2.1
  have hk := (run_ok hok (c.1 1) p (by omega)).2.2.1
  rw [this, h1, oi_dec]
  intro n e
  have := hk n (by rw [h1]; exact e)
  omega
theorem rIsSound {L : Lh} {nums : Nat → Nat} {pz : Nat → Nat → Nat} {tl : Nat → Nat} {d sk p : Nat} {M : Mem} (hL : OkL L) (hR : RpR 0 L M) (h : Lk L nums pz tl d sk) (hs : Ls L nums pz tl d sk M) (hp : p < L.1 7) : ∃ M', f_X11_isSound (io p) M = some (if snd (rcf L nums pz tl d sk) p = true then 1 else 0, M') ∧ Ls L nums pz tl d sk M' ∧ KR M M' := by
  have g := hL.2.2.1
  obtain ⟨M', e, hT, hs', hk⟩ := rRuns hL hR h hs
  have h7 : (rcf L nums pz tl d sk).1 7 = L.1 7 := h.1.2.2.1
  have h1 : (rcf L nums pz tl d sk).1 1 = L.1 1 := h.1.1
  refine ⟨M', ?_, hs', hk⟩
  unfold f_X11_isSound snd
  rw [e, bnd_s]
  have hc := (hT p (by omega)).2.1
  have hkk := (run_ok (h.ok hL) (L.1 1) p (by omega)).2.2.1
  simp (disch := omega) only [oob_f, Bool.false_eq_true, if_false, ix_io, hc, h1]
  cases e2 : (run (rcf L nums pz tl d sk) (L.1 1) p).2.2.2.2.1 with
  | none => rw [if_pos (show oi none = -1 from rfl), if_pos (by simp)]
  | some n =>
    have := hkk n e2
    rw [if_neg (show ¬ oi (some n) = -1 from fun q => (io_m1 (a := n) (by omega)).mp q), if_neg (by simp)]
/-- laid out afresh -/
theorem rLays {L : Lh} {M : Mem} (hL : OkL L) (hR : RpR 0 L M) : ∃ M', f_X11_lays M = some M' ∧ Ls L L.1 L.2.2.1 L.2.1 0 (L.1 6) M' ∧ KR M M' := by
  obtain ⟨M1, hM1, hy, hk⟩ := laysR hL hR
  exact ⟨M1, hM1, hy, hk⟩
theorem RpR.kr {L : Lh} {k : Nat} {M M' : Mem} (h : RpR k L M) (g : KR M M') : RpR k L M' := h.congr (fun a ha => g.1 a (by revert a; decide))
theorem RpC.kc {L : Lh} {P : Nat} {M M' : Mem} (h : RpC P L M) (g : KC M M') (hP : P + 10 < 33 ∨ 66 < P) : RpC P L M' := h.congr (fun a h1 h2 => g.1 a (by omega))
/-- the lehr of now as numbers of a trial -/
theorem Lk.now {L : Lh} (hL : OkL L) (h0 : 0 < L.1 0) : Lk L L.1 L.2.2.1 L.2.1 0 (L.1 6) := by
  have g := hL.2.2.1
  refine ⟨⟨rfl, rfl, rfl, by omega, ⟨(hL.2.1 h0).2, by omega⟩, by omega⟩, by omega, by omega, fun z hz => by have := hL.2.2.2.1 z hz; omega, fun p hp => ?_⟩
  have := hL.2.2.2.2.1 p hp
  exact ⟨rfl, this.2.1, by omega, rfl⟩
theorem copyT {L : Lh} {M : Mem} (hL : OkL L) (hC : RpC 14 L M) : ∃ M', f_X1_copyFrom 34 13 M = some M' ∧ RpC 35 L M' ∧ KC M M' := by
  obtain ⟨M1, e1, f1, g1, i1⟩ := beltCopy (P := 35) (Q := 14) hL triRc.1 nowRc.1 triRc.2.1 nowRc.2.1 triRc.2.2 nowRc.2.2 (by omega) hC
  exact ⟨M1, e1, f1, fun a ha => g1 a (by omega), fun a _ => by rw [i1]⟩
/-- the trial belt, with other numbers -/
theorem Tc_mod {L : Lh} {M M' : Mem} {nums : Nat → Nat} {pz : Nat → Nat → Nat} {tl : Nat → Nat} (hL : OkL L) (hC : RpC 35 L M) (h : Lk L nums pz tl 0 (L.1 6)) (h6 : nums 6 = L.1 6) (h41 : M'.1 41 = M.1 41) (h45 : M'.1 45 = M.1 45) (h37 : M'.1 37 = M.1 37) (h40 : M'.1 40 = M.1 40) (hn : ∀ i, i ∈ [1, 2, 4, 5, 6, 7] → M'.1 35 i = io (nums i)) (ht : ∀ z, z < L.1 6 → M'.1 36 z = io (tl z)) (hp : ∀ p, p < L.1 7 → M'.1 38 p = io (pz p 1) ∧ M'.1 39 p = io (pz p 2)) : Tc (rcf L nums pz tl 0 (L.1 6)) M' := by
  have g := hL.2.2.1
  obtain ⟨c1, c2, c3, c4, c5, c6⟩ := hC
  refine Tc_of (L := L) hn (by omega) (fun z hz => ⟨ht z (by omega), h.2.2.2.1 z hz⟩) (fun p hq => ?_) (by rw [h41]; exact c2.2) (fun s hs => by simp) (fun z s hz hs => ?_)
  · have hq' : p < L.1 7 := by have := h.1.2.2.1; omega
    have := h.2.2.2.2 p hq'
    rw [h37, h40, this.1, this.2.2.2]
    exact ⟨(c4 p hq').1, (hp p hq').1, (hp p hq').2, (c4 p hq').2.2.2⟩
  · rw [h45, if_pos (by omega)]
    exact ⟨c6 z s (by omega) (by omega), hot_lt hL z s⟩
