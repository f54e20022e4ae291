/-! THE LEHR READ: all its lines, and what comes of it -/
def L0 : Lh := (fun _ => 0, fun _ => 0, fun _ _ => 0, fun _ _ => 0)
theorem okL0 : OkL L0 := ⟨fun _ _ => rfl, fun h => absurd h (Nat.lt_irrefl 0), ⟨by decide, by decide, by decide, by decide, by decide, by decide, by decide, by decide, by decide⟩, fun z hz => absurd hz (Nat.not_lt_zero _), fun p hp => absurd hp (Nat.not_lt_zero _), fun a ha => absurd ha (Nat.not_lt_zero _)⟩
def Fin (L0 : Nat) (Mc Mr : Mem) : Prop := ∃ b, (b ≤ 3 ∧ Mc.1 6 4 = io b ∧ Mr.1 0 12 = io b ∧ Mc.1 6 5 = Mr.1 0 13 ∧ (b = 0 → Mc.1 6 5 = m1)) ∧ (b = 0 → ∃ L, OkL L ∧ Dr0 L Mc Mr ∧ Mc.1 7 0 = io (L.1 0) ∧ Mr.1 6 4 = io (L.1 0))
theorem loopR {K : Mem → Option (Int32 × Mem)} {M : Mem} : L_X11_lehr_13 K M = if (f_X11_isGood M) = 0 then J_X11_lehr_148 M else if (M.1 0 8) = 0 then J_X11_lehr_148 M else if oob 4 5 = true then none else lnR K M := rfl
theorem loopS {n : Nat} {t : Nat → Int32} (hn : n ≤ 600) : ∀ k i (Mc Mr : Mem) a L, n + 1 - a ≤ k → i ≤ a → Sb n t 0 a Mc Mr → OkL L → Dr0 L Mc Mr → Mc.1 7 0 = io (L.1 0) → Mr.1 6 4 = io (L.1 0) → L.1 0 = i → ∀ f g, k < f → k < g → ∃ Mc' Mr', lq2 (L_X6_readInto_21 7) f (io i) Mc = some Mc' ∧ lq1 L_X11_lehr_13 g Mr = J_X11_lehr_148 Mr' ∧ Fin 0 Mc' Mr' ∧ KpC XC0 Mc Mc' ∧ KpR XR0 Mr Mr' := by
  intro k
  induction k with
  | zero =>
    intro i Mc Mr a L hk hi h
    obtain ⟨-, -, l, q3, -⟩ := h.2.2.2 rfl
    omega
  | succ k ih =>
    intro i Mc Mr a L hk hi h hL hD c0 r0 hl f g hf hg
    obtain ⟨f, rfl⟩ : ∃ u, f = u + 1 := ⟨f - 1, by omega⟩
    obtain ⟨g, rfl⟩ : ∃ u, g = u + 1 := ⟨g - 1, by omega⟩
    have hgood : f_X11_isGood Mr = 1 := by
      unfold f_X11_isGood
      rw [if_pos (show Mr.1 0 12 = 0 from h.2.2.1.2.2.1)]
    have e4 : Mc.1 6 4 = 0 := h.2.2.1.2.1
    obtain ⟨q1, q2, l, q3, q4, q5, q6⟩ := h.2.2.2 rfl
    show ∃ Mc' Mr', L_X6_readInto_21 7 (lq2 (L_X6_readInto_21 7) f) (io i) Mc = some Mc' ∧ L_X11_lehr_13 (lq1 L_X11_lehr_13 g) Mr = J_X11_lehr_148 Mr' ∧ Fin 0 Mc' Mr' ∧ KpC XC0 Mc Mc' ∧ KpR XR0 Mr Mr'
    rw [loopR, hgood, if_neg (show ¬ (1 : Int32) = 0 by decide)]
    by_cases ck : Mc.1 6 1 = io 4
    · have hk2 : Mr.1 0 8 = io 0 := by
        rcases q6 with ⟨k1, k2⟩ | ⟨l0, ⟨k1, k2, k3, k4⟩ | ⟨k1, k2, k3, k4⟩ | ⟨k1, k2⟩ | ⟨k1, k2⟩⟩
        · exact k2
        · rw [k1] at ck; exact absurd ck (by decide)
        · rw [k1] at ck; exact absurd ck (by decide)
        · rw [k1] at ck; exact absurd ck (by decide)
        · rw [k1] at ck; exact absurd ck (by decide)
      rw [if_pos (show Mr.1 0 8 = 0 from hk2)]
      refine ⟨Mc, Mr, ?_, rfl, ⟨0, h.2.2.1, fun _ => ⟨L, hL, hD, c0, r0⟩⟩, KpC.refl, KpR.refl⟩
      unfold L_X6_readInto_21
      rw [if_pos e4, if_pos (show Mc.1 6 1 = 4 from ck)]
      by_cases c : (600 : Int32) ≤ io i
      · rw [if_pos c]
      · rw [if_neg c]
    · have hk2 : Mr.1 0 8 ≠ io 0 ∧ 1 ≤ l := by
        rcases q6 with ⟨k1, k2⟩ | ⟨l0, ⟨k1, k2, k3, k4⟩ | ⟨k1, k2, k3, k4⟩ | ⟨k1, k2⟩ | ⟨k1, k2⟩⟩
        · exact absurd k1 ck
        · rw [k2]; exact ⟨by decide, l0⟩
        · rw [k2]; exact ⟨by decide, l0⟩
        · rw [k2]; exact ⟨by decide, l0⟩
        · rw [k2]; exact ⟨by decide, l0⟩
      rw [if_neg (show ¬ Mr.1 0 8 = 0 from hk2.1), show oob 4 5 = false from rfl]
      simp only [Bool.false_eq_true, if_false]
      obtain ⟨Mc1, Mr1, b1, a1, e1, f1, g1, d1, k1, r1⟩ := lineS hn h hL hD c0 r0 (by omega)
      rw [f1]
      have eC : L_X6_readInto_21 7 (lq2 (L_X6_readInto_21 7) f) (io i) Mc = lq2 (L_X6_readInto_21 7) f (io (i + 1)) Mc1 := by
        generalize lq2 (L_X6_readInto_21 7) f = K
        unfold L_X6_readInto_21
        rw [if_neg (show ¬ (600 : Int32) ≤ io i by rw [show (600 : Int32) = io 600 from rfl, io_le (by omega) (by omega)]; omega), if_pos e4, if_neg (show ¬ Mc.1 6 1 = 4 from ck), e1, bnd_s, show io i + (1 : Int32) = io (i + 1) from io_add i 1]
      rw [eC]
      by_cases c : b1 = 0
      · subst c
        obtain ⟨d2, L', o1, o2, o3, o4, o5⟩ := d1 rfl
        obtain ⟨Mc2, Mr2, e2, f2, g2, k2, r2⟩ := ih (i + 1) Mc1 Mr1 a1 L' (by omega) (by omega) g1 o1 o2 o4 o5 (by omega) f g (by omega) (by omega)
        exact ⟨Mc2, Mr2, e2, f2, g2, k1.trans k2, r1.trans r2⟩
      · obtain ⟨u1, u2⟩ := g1.good c
        obtain ⟨f, rfl⟩ : ∃ u, f = u + 1 := ⟨f - 1, by omega⟩
        obtain ⟨g, rfl⟩ : ∃ u, g = u + 1 := ⟨g - 1, by omega⟩
        refine ⟨Mc1, Mr1, ?_, ?_, ⟨b1, g1.2.2.1, fun u => absurd u c⟩, k1, r1⟩
        · show L_X6_readInto_21 7 (lq2 (L_X6_readInto_21 7) f) (io (i + 1)) Mc1 = _
          generalize lq2 (L_X6_readInto_21 7) f = K
          unfold L_X6_readInto_21
          rw [if_neg u1]
          by_cases c : (600 : Int32) ≤ io (i + 1)
          · rw [if_pos c]
          · rw [if_neg c]
        · show L_X11_lehr_13 (lq1 L_X11_lehr_13 g) Mr1 = _
          generalize lq1 L_X11_lehr_13 g = K
          rw [loopR]
          unfold f_X11_isGood
          rw [if_neg u2, if_pos rfl]
theorem KpC.st6 {X : Nat → Nat → Prop} {M M' : Mem} {k : Nat} {v : Int32} (h : KpC X M M') : KpC X M (st M' 6 k v) := ⟨fun c j hc hx => by rw [st_rd (fun q => hc q.1)]; exact h.1 c j hc hx, h.2⟩
theorem KpR.st0 {X : Nat → Nat → Prop} {M M' : Mem} {k : Nat} {v : Int32} (h : KpR X M M') (hk : k ∉ [6, 14, 15]) : KpR X M (st M' 0 k v) := ⟨fun c j hc hx => by rw [st_rd (fun q => hc q.1)]; exact h.1 c j hc hx, fun j hj => by rw [st_rd (fun q => hk (by rw [← q.2]; exact hj))]; exact h.2.1 j hj, h.2.2⟩
/-- the draft is empty at first -/
theorem emptyC {M : Mem} : ∃ M', f_X5_clear 7 M = some M' ∧ (∀ i, i < 8 → M'.1 7 i = io 0) ∧ KpC XC0 M M' ∧ M'.1 6 = M.1 6 := by
  unfold f_X5_clear
  simp only [letv_eq]
  refine ⟨_, rfl, fun i hi => ?_, ?_, ?_⟩
  · rcases (by omega : i = 0 ∨ i = 1 ∨ i = 2 ∨ i = 3 ∨ i = 4 ∨ i = 5 ∨ i = 6 ∨ i = 7) with rfl | rfl | rfl | rfl | rfl | rfl | rfl | rfl <;> simp [st] <;> rfl
  · have x : ∀ j, XC0 7 j := fun j => by unfold XC0; omega
    exact (((((((KpC.refl.sto (x 0)).sto (x 1)).sto (x 2)).sto (x 3)).sto (x 4)).sto (x 5)).sto (x 6)).sto (x 7)
  · rw [stne (by decide), stne (by decide), stne (by decide), stne (by decide), stne (by decide), stne (by decide), stne (by decide), stne (by decide)]
theorem emptyR {M : Mem} : ∃ M', f_X11_clears M = some M' ∧ (∀ i, i < 8 → M'.1 7 (32 + i) = io 0) ∧ M'.1 6 4 = io 0 ∧ KpR XR0 M M' ∧ M'.1 0 = M.1 0 := by
  unfold f_X11_clears
  rw [show oob 4 5 = false from rfl, show ix 4 = 4 from rfl]
  simp only [Bool.false_eq_true, if_false, letv_eq]
  obtain ⟨r, ⟨h1, h2, h3, h4⟩, e⟩ := in2x (b := L_X11_clears_9) (fun i v y => v = io i ∧ (∀ j, j < i → y.1 7 (32 + j) = io 0) ∧ y.1 6 4 = io 0 ∧ KpR XR0 M y ∧ y.1 0 = M.1 0) (fun r => (∀ j, j < 8 → r.1 7 (32 + j) = io 0) ∧ r.1 6 4 = io 0 ∧ KpR XR0 M r ∧ r.1 0 = M.1 0) 8 (x := 0) (y := st M 6 4 0) ⟨rfl, fun j hj => absurd hj (Nat.not_lt_zero _), by simp [st]; rfl, KpR.refl.sto (Or.inr ⟨rfl, rfl⟩) (by decide), stne (by decide)⟩ (by omega) (fun i v y hi h => by
    obtain ⟨rfl, h1, h2, h3, h4⟩ := h
    refine ⟨io (i + 1), st y 7 (32 + i) 0, ⟨rfl, fun j hj => ?_, ?_, h3.sto (Or.inl (Or.inl ⟨rfl, by omega⟩)) (by decide), ?_⟩, fun K => ?_⟩
    · by_cases c : j = i
      · subst c; simp [st]; rfl
      · rw [st_rd (by omega)]; exact h1 j (by omega)
    · rw [st_rd (by omega)]; exact h2
    · rw [stne (by decide)]; exact h4
    · unfold L_X11_clears_9
      rw [if_neg (show ¬ (8 : Int32) ≤ io i by rw [show (8 : Int32) = io 8 from rfl, io_le (by omega) (by omega)]; omega), tellsR hi, bnd_s, show io i + (1 : Int32) = io (i + 1) from io_add i 1]) (fun v y h => by
    obtain ⟨rfl, h1, h2, h3, h4⟩ := h
    refine ⟨y, ⟨h1, h2, h3, h4⟩, fun K => ?_⟩
    unfold L_X11_clears_9
    rw [if_pos (show (8 : Int32) ≤ io 8 by decide)])
  exact ⟨r, e, h1, h2, h3, h4⟩
theorem RpR.kp {k : Nat} {L : Lh} {M M' : Mem} (h : RpR k L M) (hk : k ≤ 3) (hL : OkL L) (q : KpR XR0 M M') : RpR k L M' := by
  have g := hL.2.2.1
  obtain ⟨h1, h2, h3, h4, h5⟩ := h
  have n10 : ∀ j, M'.1 10 j = M.1 10 j := fun j => q.1 10 j (by decide) (by unfold XR0 XR; omega)
  refine ⟨?_, fun i hi => ?_, fun z hz => ?_, fun p w hp hw => ?_, fun a ha => ?_⟩
  · rw [q.1 6 k (by decide) (by unfold XR0 XR; omega)]; exact h1
  · rw [q.1 7 _ (by decide) (by unfold XR0 XR; omega)]; exact h2 i hi
  · rw [q.1 8 _ (by decide) (by unfold XR0 XR; omega)]; exact h3 z hz
  · rw [q.1 9 _ (by decide) (by unfold XR0 XR; omega)]; exact h4 p w hp hw
  · rw [n10, n10, n10, n10]; exact h5 a ha
theorem keepWI {Mc Mr Mc' Mr' : Mem} (c2 : Mc'.1 2 = Mc.1 2) (ch : ∀ a, 67 < a → Mc'.1 a = Mc.1 a) (cl : Mc'.2 = Mc.2) (r1 : Mr'.1 1 = Mr.1 1) (r2 : Mr'.1 2 = Mr.1 2) (r11 : Mr'.1 11 = Mr.1 11) (r3 : Mr'.2 3 = Mr.2 3) (rr : ∀ k L, OkL L → 1 ≤ k → k ≤ 3 → RpR k L Mr → RpR k L Mr') (hW : ∀ k, k < 4 → RelW Mc Mr k) (hI : ∀ k, k < 3 → RelI Mc Mr k) : (∀ k, k < 4 → RelW Mc' Mr' k) ∧ ∀ k, k < 3 → RelI Mc' Mr' k := by
  refine ⟨fun k hk => ?_, fun k hk => ?_⟩
  · have := hW k hk
    unfold RelW at *
    rw [r1, r2, r3, ch (103 + 2 * k) (by omega), cl]
    exact this
  · rcases hI k hk with h | ⟨h, h', L, ho, hc, hr⟩
    · exact Or.inl ⟨by rw [c2]; exact h.1, by rw [r11]; exact h.2⟩
    · exact Or.inr ⟨by rw [c2]; exact h, by rw [r11]; exact h', L, ho, hc.congr (fun a h1 h2 => ch a (by omega)), rr (k + 1) L ho (by omega) (by omega) hr⟩
