/-! COPIES of lehrs -/
theorem cpI_ne {M : Mem} {a s b d n c : Nat} (h : c ≠ b) : (cpI M a s b d n).1 c = M.1 c := by
  funext j; simp [cpI, h]
theorem cpI_rd {M : Mem} {a b n j : Nat} (h : j < n) : (cpI M a 0 b 0 n).1 b j = M.1 a j := by
  show (if b = b then va_cpy (M.1 a) (M.1 b) 0 0 n j else _) = _
  rw [if_pos rfl]
  unfold va_cpy
  rw [if_pos (by omega), show 0 + (j - 0) = j by omega]
theorem stne {M : Mem} {a k i : Nat} {v : Int32} (h : i ≠ a) : (st M a k v).1 i = M.1 i := by
  funext j; simp [st, h]
def pcM (P Q : Nat) (M : Mem) : Nat → Mem
  | 0 => M
  | n + 1 => st (pcM P Q M n) P n ((pcM P Q M n).1 Q n)
theorem pcM_ne {P Q : Nat} {M : Mem} {c : Nat} (h : c ≠ P) : ∀ n, (pcM P Q M n).1 c = M.1 c
  | 0 => rfl
  | n + 1 => by
    have := pcM_ne (Q := Q) (M := M) h n
    simp only [pcM]
    rw [stne h, this]
theorem pcM_rd {P Q : Nat} {M : Mem} (h : Q ≠ P) : ∀ n i, i < n → (pcM P Q M n).1 P i = M.1 Q i
  | 0, i, hi => absurd hi (Nat.not_lt_zero _)
  | n + 1, i, hi => by
    simp only [pcM]
    by_cases e : i = n
    · subst e
      rw [pcM_ne h]
      simp [st]
    · have := pcM_rd (M := M) h n i (by omega)
      simp [st, e, this]
theorem pcM_2 {P Q : Nat} {M : Mem} : ∀ n, (pcM P Q M n).2 = M.2
  | 0 => rfl
  | n + 1 => pcM_2 n
def rcP (P : Nat) : Prop := rC P 8 = P + 1 ∧ rC P 9 = P + 2 ∧ rC P 10 = P + 3 ∧ rC P 11 = P + 4 ∧ rC P 12 = P + 5
def rcA (A : Nat) : Prop := rC A 2 = A + 1 ∧ rC A 3 = A + 2 ∧ rC A 4 = A + 3 ∧ rC A 5 = A + 4
theorem planCopy {P Q : Nat} {M : Mem} (hP : rcP P) (hQ : rcP Q) (hd : P + 6 ≤ Q ∨ Q + 6 ≤ P) : ∃ M', f_X5_copyFrom P Q M = some M' ∧ (∀ i, i < 8 → M'.1 P i = M.1 Q i) ∧ (∀ j, j < 7 → M'.1 (P + 1) j = M.1 (Q + 1) j) ∧ (∀ j, j < 6 → M'.1 (P + 2) j = M.1 (Q + 2) j ∧ M'.1 (P + 3) j = M.1 (Q + 3) j ∧ M'.1 (P + 4) j = M.1 (Q + 4) j ∧ M'.1 (P + 5) j = M.1 (Q + 5) j) ∧ (∀ a, a < P ∨ P + 5 < a → M'.1 a = M.1 a) ∧ M'.2 = M.2 := by
  have e : f_X5_copyFrom P Q M = some (cpI (cpI (cpI (cpI (cpI (pcM P Q M 8) (Q + 1) 0 (P + 1) 0 7) (Q + 2) 0 (P + 2) 0 6) (Q + 3) 0 (P + 3) 0 6) (Q + 4) 0 (P + 4) 0 6) (Q + 5) 0 (P + 5) 0 6) := by
    unfold f_X5_copyFrom
    rw [hP.1, hP.2.1, hP.2.2.1, hP.2.2.2.1, hP.2.2.2.2, hQ.1, hQ.2.1, hQ.2.2.1, hQ.2.2.2.1, hQ.2.2.2.2]
    rfl
  refine ⟨_, e, fun i hi => ?_, fun j hj => ?_, fun j hj => ⟨?_, ?_, ?_, ?_⟩, fun a ha => ?_, ?_⟩
  · simp (disch := omega) only [cpI_ne]
    exact pcM_rd (by omega) 8 i hi
  · simp (disch := omega) only [cpI_ne, cpI_rd hj, pcM_ne]
  · simp (disch := omega) only [cpI_ne, cpI_rd hj, pcM_ne]
  · simp (disch := omega) only [cpI_ne, cpI_rd hj, pcM_ne]
  · simp (disch := omega) only [cpI_ne, cpI_rd hj, pcM_ne]
  · simp (disch := omega) only [cpI_ne, cpI_rd hj, pcM_ne]
  · simp (disch := omega) only [cpI_ne, pcM_ne]
  · exact pcM_2 (P := P) (Q := Q) (M := M) 8
theorem actsCopy {A B : Nat} {M : Mem} (hA : rcA A) (hB : rcA B) (hd : A + 5 ≤ B ∨ B + 5 ≤ A) : ∃ M', f_X0_copyFrom A B M = some M' ∧ (∀ i, i < 2 → M'.1 A i = M.1 B i) ∧ (∀ j, j < 30 → M'.1 (A + 1) j = M.1 (B + 1) j ∧ M'.1 (A + 2) j = M.1 (B + 2) j ∧ M'.1 (A + 3) j = M.1 (B + 3) j) ∧ (∀ j, j < 105 → M'.1 (A + 4) j = M.1 (B + 4) j) ∧ (∀ a, a < A ∨ A + 4 < a → M'.1 a = M.1 a) ∧ M'.2 = M.2 := by
  have e : f_X0_copyFrom A B M = some (cpI (cpI (cpI (cpI (pcM A B M 2) (B + 1) 0 (A + 1) 0 30) (B + 2) 0 (A + 2) 0 30) (B + 3) 0 (A + 3) 0 30) (B + 4) 0 (A + 4) 0 105) := by
    unfold f_X0_copyFrom
    rw [hA.1, hA.2.1, hA.2.2.1, hA.2.2.2, hB.1, hB.2.1, hB.2.2.1, hB.2.2.2]
    rfl
  refine ⟨_, e, fun i hi => ?_, fun j hj => ⟨?_, ?_, ?_⟩, fun j hj => ?_, fun a ha => ?_, ?_⟩
  · simp (disch := omega) only [cpI_ne]
    exact pcM_rd (by omega) 2 i hi
  · simp (disch := omega) only [cpI_ne, cpI_rd hj, pcM_ne]
  · simp (disch := omega) only [cpI_ne, cpI_rd hj, pcM_ne]
  · simp (disch := omega) only [cpI_ne, cpI_rd hj, pcM_ne]
  · simp (disch := omega) only [cpI_ne, cpI_rd hj, pcM_ne]
  · simp (disch := omega) only [cpI_ne, pcM_ne]
  · exact pcM_2 (P := A) (Q := B) (M := M) 2
theorem beltCopy {P Q : Nat} {L : Lh} {M : Mem} (hL : OkL L) (b1 : rC (P - 1) 0 = P ∧ rC (P - 1) 1 = P + 6) (b2 : rC (Q - 1) 0 = Q ∧ rC (Q - 1) 1 = Q + 6) (hP : rcP P) (hQ : rcP Q) (hA : rcA (P + 6)) (hB : rcA (Q + 6)) (hd : P + 11 ≤ Q ∨ Q + 11 ≤ P) (hC : RpC Q L M) : ∃ M', f_X1_copyFrom (P - 1) (Q - 1) M = some M' ∧ RpC P L M' ∧ (∀ a, a < P ∨ P + 10 < a → M'.1 a = M.1 a) ∧ M'.2 = M.2 := by
  obtain ⟨M1, e1, a1, a2, a3, a4, a5⟩ := planCopy (M := M) hP hQ (by omega)
  obtain ⟨M2, e2, c1, c2, c3, c4, c5⟩ := actsCopy (M := M1) hA hB (by omega)
  obtain ⟨h1, h2, h3, h4, h5, h6⟩ := hC
  have g := hL.2.2.1
  have q : ∀ a, Q + 6 ≤ a → a ≤ Q + 10 → M1.1 a = M.1 a := fun a x y => a4 a (by omega)
  have p : ∀ a, a ≤ P + 5 → M2.1 a = M1.1 a := fun a x => c4 a (by omega)
  refine ⟨M2, ?_, ⟨fun i hi => ?_, ⟨?_, ?_⟩, fun z hz => ?_, fun x hx => ⟨?_, ?_, ?_, ?_⟩, fun a ha => ⟨?_, ?_, ?_⟩, fun z s hz hs => ?_⟩, fun a ha => ?_, ?_⟩
  · unfold f_X1_copyFrom
    rw [b1.1, b1.2, b2.1, b2.2, e1, bnd_s, e2, bnd_s]
  · rw [p P (by omega), a1 i hi]; exact h1 i hi
  · rw [c1 0 (by omega), q _ (by omega) (by omega)]; exact h2.1
  · rw [c1 1 (by omega), q _ (by omega) (by omega)]; exact h2.2
  · rw [p (P + 1) (by omega), a2 z (by omega)]; exact h3 z hz
  · rw [p (P + 2) (by omega), (a3 x (by omega)).1]; exact (h4 x hx).1
  · rw [p (P + 3) (by omega), (a3 x (by omega)).2.1]; exact (h4 x hx).2.1
  · rw [p (P + 4) (by omega), (a3 x (by omega)).2.2.1]; exact (h4 x hx).2.2.1
  · rw [p (P + 5) (by omega), (a3 x (by omega)).2.2.2]; exact (h4 x hx).2.2.2
  · rw [(c2 a (by omega)).1, q _ (by omega) (by omega)]; exact (h5 a ha).1
  · rw [(c2 a (by omega)).2.1, q _ (by omega) (by omega)]; exact (h5 a ha).2.1
  · rw [(c2 a (by omega)).2.2, q _ (by omega) (by omega)]; exact (h5 a ha).2.2
  · rw [c3 (z * 15 + s) (by omega), q _ (by omega) (by omega)]; exact h6 z s hz hs
  · rw [c4 a (by omega), a4 a (by omega)]
  · rw [c5, a5]
/-! the reference's copies -/
theorem rowCopy {p0 m a b np : Nat} {M : Mem} (hm : m ≤ 120) (ha : a ≤ 4) (hb : b ≤ 4) (hab : a ≠ b) (h1 : m * a + m ≤ np) (h2 : m * b + m ≤ np) (hnp : np ≤ 600) : ∃ M', f_X11_copyRow p0 (io m) (io a) (io b) np M = some M' ∧ (∀ j, j < m → M'.1 p0 (m * b + j) = M.1 p0 (m * a + j)) ∧ (∀ j, (j < m * b ∨ m * b + m ≤ j) → M'.1 p0 j = M.1 p0 j) ∧ (∀ c, c ≠ p0 → M'.1 c = M.1 c) ∧ M'.2 = M.2 := by
  have hdis : m * a + m ≤ m * b ∨ m * b + m ≤ m * a := by
    rcases Nat.lt_or_gt_of_ne hab with q | q
    · left
      have := Nat.mul_le_mul_left m (show a + 1 ≤ b from q)
      rw [Nat.mul_add] at this; omega
    · right
      have := Nat.mul_le_mul_left m (show b + 1 ≤ a from q)
      rw [Nat.mul_add] at this; omega
  unfold f_X11_copyRow
  obtain ⟨x, M1, ⟨rfl, g1, g2, g3, g4⟩, hM1⟩ := in2 (b := L_X11_copyRow_3 p0 (io m) (io a) (io b) np) (fun i v M1 => v = io i ∧ (∀ j, j < i → M1.1 p0 (m * b + j) = M.1 p0 (m * a + j)) ∧ (∀ j, (j < m * b ∨ m * b + i ≤ j) → M1.1 p0 j = M.1 p0 j) ∧ (∀ c, c ≠ p0 → M1.1 c = M.1 c) ∧ M1.2 = M.2) (fun _ M => some M) m (x := 0) (y := M) ⟨rfl, fun j hj => absurd hj (Nat.not_lt_zero _), fun _ _ => rfl, fun _ _ => rfl, rfl⟩ (by omega) (fun i v M1 hi h => by
      obtain ⟨rfl, g1, g2, g3, g4⟩ := h
      refine ⟨io (i + 1), st M1 p0 (m * b + i) (M.1 p0 (m * a + i)), ⟨rfl, fun j hj => ?_, fun j hj => ?_, fun c hc => ?_, g4⟩, fun K => ?_⟩
      · by_cases e : j = i
        · subst e; simp [st]
        · have := g1 j (by omega)
          simp [st, e, this]
      · have e : j ≠ m * b + i := by omega
        have := g2 j (by omega)
        simp [st, e, this]
      · rw [stne hc]; exact g3 c hc
      · unfold L_X11_copyRow_3
        simp only [lit, io_mul, io_add]
        rw [if_neg (show ¬ io m ≤ io i by rw [io_le (by omega) (by omega)]; omega), oob_f (show m * a + i < np by omega) (by omega), oob_f (show m * b + i < np by omega) (by omega), ix_io (show m * b + i < 2147483648 by omega), ix_io (show m * a + i < 2147483648 by omega), g2 (m * a + i) (by omega)]
        simp only [Bool.false_eq_true, if_false, letv_eq]) (fun x M1 h K => by
      obtain ⟨rfl, -⟩ := h
      unfold L_X11_copyRow_3
      rw [if_pos (show io m ≤ io m by rw [io_le (by omega) (by omega)]; omega)])
  exact ⟨M1, hM1, g1, g2, g3, g4⟩
theorem lehrCopy {a b : Nat} {M : Mem} (ha : a ≤ 4) (hb : b ≤ 4) (hab : a ≠ b) : ∃ M', f_X11_copyLehr (io a) (io b) M = some M' ∧ (∀ L, OkL L → RpR a L M → RpR b L M') ∧ (∀ k L, OkL L → k ≠ b → RpR k L M → RpR k L M') ∧ (∀ c, c ∉ [6, 7, 8, 9, 10] → M'.1 c = M.1 c) ∧ M'.2 = M.2 := by
  obtain ⟨M1, e1, a1, b1, c1, d1⟩ := rowCopy (p0 := 6) (m := 1) (a := a) (b := b) (np := 5) (M := M) (by omega) ha hb hab (by omega) (by omega) (by omega)
  obtain ⟨M2, e2, a2, b2, c2, d2⟩ := rowCopy (p0 := 7) (m := 8) (a := a) (b := b) (np := 40) (M := M1) (by omega) ha hb hab (by omega) (by omega) (by omega)
  obtain ⟨M3, e3, a3, b3, c3, d3⟩ := rowCopy (p0 := 8) (m := 7) (a := a) (b := b) (np := 35) (M := M2) (by omega) ha hb hab (by omega) (by omega) (by omega)
  obtain ⟨M4, e4, a4, b4, c4, d4⟩ := rowCopy (p0 := 9) (m := 24) (a := a) (b := b) (np := 120) (M := M3) (by omega) ha hb hab (by omega) (by omega) (by omega)
  obtain ⟨M5, e5, a5, b5, c5, d5⟩ := rowCopy (p0 := 10) (m := 120) (a := a) (b := b) (np := 600) (M := M4) (by omega) ha hb hab (by omega) (by omega) (by omega)
  have r6 : ∀ j, M5.1 6 j = M1.1 6 j := fun j => by rw [c5 6 (by decide), c4 6 (by decide), c3 6 (by decide), c2 6 (by decide)]
  have r7 : ∀ j, M5.1 7 j = M2.1 7 j := fun j => by rw [c5 7 (by decide), c4 7 (by decide), c3 7 (by decide)]
  have r8 : ∀ j, M5.1 8 j = M3.1 8 j := fun j => by rw [c5 8 (by decide), c4 8 (by decide)]
  have r9 : ∀ j, M5.1 9 j = M4.1 9 j := fun j => by rw [c5 9 (by decide)]
  have s7 : M1.1 7 = M.1 7 := c1 7 (by decide)
  have s8 : M2.1 8 = M.1 8 := by rw [c2 8 (by decide), c1 8 (by decide)]
  have s9 : M3.1 9 = M.1 9 := by rw [c3 9 (by decide), c2 9 (by decide), c1 9 (by decide)]
  have s10 : M4.1 10 = M.1 10 := by rw [c4 10 (by decide), c3 10 (by decide), c2 10 (by decide), c1 10 (by decide)]
  refine ⟨M5, ?_, fun L hL h => ?_, fun k L hL hk h => ?_, fun c hc => ?_, by rw [d5, d4, d3, d2, d1]⟩
  · unfold f_X11_copyLehr
    simp only [lit]
    rw [e1, bnd_s, e2, bnd_s, e3, bnd_s, e4, bnd_s, e5, bnd_s]
  · have g := hL.2.2.1
    obtain ⟨h1, h2, h3, h4, h5⟩ := h
    refine ⟨?_, fun i hi => ?_, fun z hz => ?_, fun p w hp hw => ?_, fun x hx => ?_⟩
    · have := a1 0 (by omega)
      rw [show 1 * b + 0 = b by omega, show 1 * a + 0 = a by omega] at this
      rw [r6, this]; exact h1
    · rw [r7, a2 i hi, s7]; exact h2 i hi
    · rw [r8, a3 z (by omega), s8]; exact h3 z hz
    · rw [r9, a4 (4 * p + w) (by omega), s9]; exact h4 p w hp hw
    · have h := h5 x hx
      rw [show 120 * b + 4 * x = 120 * b + (4 * x) from rfl, a5 (4 * x) (by omega), a5 (4 * x + 1) (by omega), a5 (4 * x + 2) (by omega), a5 (4 * x + 3) (by omega), s10]
      exact h
  · have g := hL.2.2.1
    obtain ⟨h1, h2, h3, h4, h5⟩ := h
    have hkb : k + 1 ≤ b ∨ b + 1 ≤ k := by omega
    refine ⟨?_, fun i hi => ?_, fun z hz => ?_, fun p w hp hw => ?_, fun x hx => ?_⟩
    · rw [r6, b1 k (by omega)]; exact h1
    · rw [r7, b2 _ (by omega), s7]; exact h2 i hi
    · rw [r8, b3 _ (by omega), s8]; exact h3 z hz
    · rw [r9, b4 _ (by omega), s9]; exact h4 p w hp hw
    · have h := h5 x hx
      rw [b5 (120 * k + 4 * x) (by omega), b5 (120 * k + (4 * x + 1)) (by omega), b5 (120 * k + (4 * x + 2)) (by omega), b5 (120 * k + (4 * x + 3)) (by omega), s10]
      exact h
  · have n6 : c ≠ 6 := fun q => hc (by rw [q]; decide)
    have n7 : c ≠ 7 := fun q => hc (by rw [q]; decide)
    have n8 : c ≠ 8 := fun q => hc (by rw [q]; decide)
    have n9 : c ≠ 9 := fun q => hc (by rw [q]; decide)
    have n10 : c ≠ 10 := fun q => hc (by rw [q]; decide)
    rw [c5 c n10, c4 c n9, c3 c n8, c2 c n7, c1 c n6]
theorem imgRc {k : Nat} (hk : k < 3) : rC 1 k = 67 + 12 * k ∧ (rC (68 + 12 * k - 1) 0 = 68 + 12 * k ∧ rC (68 + 12 * k - 1) 1 = 68 + 12 * k + 6) ∧ rcP (68 + 12 * k) ∧ rcA (68 + 12 * k + 6) := by
  have : ∀ k, k < 3 → rC 1 k = 67 + 12 * k ∧ (rC (68 + 12 * k - 1) 0 = 68 + 12 * k ∧ rC (68 + 12 * k - 1) 1 = 68 + 12 * k + 6) ∧ (rC (68 + 12 * k) 8 = 68 + 12 * k + 1 ∧ rC (68 + 12 * k) 9 = 68 + 12 * k + 2 ∧ rC (68 + 12 * k) 10 = 68 + 12 * k + 3 ∧ rC (68 + 12 * k) 11 = 68 + 12 * k + 4 ∧ rC (68 + 12 * k) 12 = 68 + 12 * k + 5) ∧ (rC (68 + 12 * k + 6) 2 = 68 + 12 * k + 6 + 1 ∧ rC (68 + 12 * k + 6) 3 = 68 + 12 * k + 6 + 2 ∧ rC (68 + 12 * k + 6) 4 = 68 + 12 * k + 6 + 3 ∧ rC (68 + 12 * k + 6) 5 = 68 + 12 * k + 6 + 4) := by decide +kernel
  exact this k hk
theorem nowRc : (rC (14 - 1) 0 = 14 ∧ rC (14 - 1) 1 = 14 + 6) ∧ rcP 14 ∧ rcA (14 + 6) := by
  unfold rcP rcA; decide +kernel
theorem triRc : (rC (35 - 1) 0 = 35 ∧ rC (35 - 1) 1 = 35 + 6) ∧ rcP 35 ∧ rcA (35 + 6) := by
  unfold rcP rcA; decide +kernel
theorem kIn (a : Int32) (M : Mem) : f_X11_in a.toInt64 0 2 M = if 0 ≤ a.toInt ∧ a.toInt < ((3 : Nat) : Int) then 1 else 0 := by
  rw [in_eq, Int32.toInt_toInt64]
  have e600 : (2 : Int64).toInt = 2 := rfl
  have ez : (0 : Int64).toInt = 0 := rfl
  rw [e600, ez]
  by_cases h : 0 ≤ a.toInt ∧ a.toInt < ((3 : Nat) : Int)
  · rw [if_pos h, if_pos (by omega)]
  · rw [if_neg h, if_neg (by omega)]
theorem kHas (a : Int32) (M : Mem) : f_X10_hasImage a M = if 0 ≤ a.toInt ∧ a.toInt < ((3 : Nat) : Int) then 1 else 0 := by
  unfold f_X10_hasImage
  exact hasC (n := 3) (by omega)
theorem op_80 : ∀ (Mc Mr : Mem) (a1 : Int32), Rel Mc Mr → ∃ (r : Int32) (Mc' Mr' : Mem), f_X10_image a1 Mc = some (r, Mc') ∧ f_X11_image a1 Mr = some (r, Mr') ∧ Rel Mc' Mr' := by
  intro Mc Mr a h
  obtain ⟨hX, L, hL, hC, hR, hF⟩ := h.split
  have hk0 := kr0 Mr
  unfold f_X10_image f_X11_image
  rw [letv_eq, kHas, kIn, ite01, ite01]
  rcases below a 3 with hb | ⟨k, hk, rfl, hk2⟩
  · rw [if_neg hb, if_neg hb]
    exact ⟨_, _, _, rfl, rfl, h.kr hk0⟩
  rw [if_pos (pos_io hk hk2), if_pos (pos_io hk hk2), oob_f hk (by omega), ix_io hk2, (imgRc hk).1, show (1 : Int32) + io k = io (1 + k) from io_add 1 k]
  simp only [Bool.false_eq_true, if_false]
  have hR0 : RpR 0 L (st Mr 0 0 0) := hR.congr (fun a ha => hk0.1 a (by revert a; decide))
  obtain ⟨M1, e1, f1, g1, i1⟩ := beltCopy (P := 68 + 12 * k) (Q := 14) hL (imgRc hk).2.1 nowRc.1 (imgRc hk).2.2.1 nowRc.2.1 (imgRc hk).2.2.2 nowRc.2.2 (by omega) hC
  obtain ⟨M2, e2, f2, g2, i2, j2⟩ := lehrCopy (a := 0) (b := 1 + k) (M := st Mr 0 0 0) (by omega) (by omega) (by omega)
  rw [show 67 + 12 * k = 68 + 12 * k - 1 by omega, e1, bnd_s, show f_X11_copyLehr 0 (io (1 + k)) (st Mr 0 0 0) = some M2 from e2, bnd_s]
  simp only [letv_eq]
  have n1 : vp_nar .boolean 1 = io 1 := by rfl
  rw [n1]
  refine ⟨0, _, _, rfl, rfl, Rel.ofX (L := L) ⟨?_, ?_, fun i hi => ?_, fun i hi => ?_⟩ ⟨hL, ?_, ?_, ?_⟩⟩
  · have := hX.1
    unfold RelT at *
    rw [stne (by decide), stne (by decide), stne (by decide), stne (by decide), g1 4 (by omega), g1 5 (by omega), i2 0 (by decide), i2 5 (by decide), hk0.2.1 6 (by decide), hk0.1 5 (by decide)]
    exact this
  · have := hX.2.1
    unfold RelF at *
    rw [stne (by decide), stne (by decide), g1 6 (by omega), i2 0 (by decide), hk0.2.1 14 (by decide), hk0.2.1 15 (by decide)]
    exact this
  · have := hX.2.2.1 i hi
    unfold RelW at *
    rw [stne (by omega), stne (by omega), stne (by omega), g1 (103 + 2 * i) (by omega), i2 1 (by decide), i2 2 (by decide), hk0.1 1 (by decide), hk0.1 2 (by decide)]
    have q1 : (st M1 2 k (io 1)).2 = Mc.2 := i1
    have q2 : (st M2 11 k (io 1)).2 = Mr.2 := j2
    rw [q1, q2]
    exact this
  · by_cases e : i = k
    · subst e
      exact Or.inr ⟨by simp [st], by simp [st], L, hL, f1.congr (fun a h1 h2 => stne (by omega)), by
        have := f2 L hL hR0
        rw [show i + 1 = 1 + i by omega]
        exact this.congr (fun a ha => stne (by revert a; decide))⟩
    · rcases hX.2.2.2 i hi with t | ⟨t1, t2, L', hL', hC', hR'⟩
      · refine Or.inl ⟨?_, ?_⟩
        · simp [st, e, g1 2 (by omega : 2 < 68 + 12 * k ∨ _), t.1]
        · have : M2.1 11 i = Mr.1 11 i := by rw [i2 11 (by decide), hk0.1 11 (by decide)]
          simp [st, e, this, t.2]
      · refine Or.inr ⟨?_, ?_, L', hL', ?_, ?_⟩
        · simp [st, e, g1 2 (by omega : 2 < 68 + 12 * k ∨ _), t1]
        · have : M2.1 11 i = Mr.1 11 i := by rw [i2 11 (by decide), hk0.1 11 (by decide)]
          simp [st, e, this, t2]
        · exact hC'.congr (fun a h1 h2 => by rw [stne (by omega), g1 a (by omega)])
        · exact (g2 (i + 1) L' hL' (by omega) (hR'.congr (fun a ha => hk0.1 a (by revert a; decide)))).congr (fun a ha => stne (by revert a; decide))
  · exact hC.congr (fun a h1 h2 => by rw [stne (by omega), g1 a (by omega)])
  · exact (g2 0 L hL (by omega) hR0).congr (fun a ha => stne (by revert a; decide))
  · unfold RelC at *
    rw [stne (by decide), g1 0 (by omega)]
    rcases hF with h | ⟨h, h2⟩
    · exact Or.inl h
    · exact Or.inr ⟨h, Ct25.congr h2 (fun a h1 h2 => by rw [stne (by omega), g1 a (by omega)])⟩
theorem op_81 : ∀ (Mc Mr : Mem) (a1 : Int32), Rel Mc Mr → ∃ (r : Int32) (Mc' Mr' : Mem), f_X10_back a1 Mc = some (r, Mc') ∧ f_X11_back a1 Mr = some (r, Mr') ∧ Rel Mc' Mr' := by
  intro Mc Mr a h
  obtain ⟨hX, L0, hN0⟩ := h.split
  have hk0 := kr0 Mr
  unfold f_X10_back f_X11_back
  rw [letv_eq, kHas, kIn, ite01, ite01]
  rcases below a 3 with hb | ⟨k, hk, rfl, hk2⟩
  · rw [if_neg hb, if_neg hb]
    exact ⟨_, _, _, rfl, rfl, h.kr hk0⟩
  rw [if_pos (pos_io hk hk2), if_pos (pos_io hk hk2), oob_f hk (by omega), ix_io hk2, (imgRc hk).1, show (1 : Int32) + io k = io (1 + k) from io_add 1 k]
  simp only [Bool.false_eq_true, if_false]
  have s11 : (st Mr 0 0 0).1 11 k = Mr.1 11 k := by simp [st]
  rw [s11]
  rcases hX.2.2.2 k hk with ⟨t1, t2⟩ | ⟨t1, t2, L, hL, hC, hR⟩
  · rw [t1, t2, if_pos (show io 0 = 0 from rfl), if_pos (show io 0 = 0 from rfl)]
    exact ⟨_, _, _, rfl, rfl, h.kr hk0⟩
  rw [t1, t2, if_neg (show ¬ io 1 = 0 by decide), if_neg (show ¬ io 1 = 0 by decide)]
  have hR0 : RpR (1 + k) L (st Mr 0 0 0) := by rw [Nat.add_comm]; exact hR.congr (fun a ha => hk0.1 a (by revert a; decide))
  obtain ⟨M1, e1, f1, g1, i1⟩ := beltCopy (P := 14) (Q := 68 + 12 * k) hL nowRc.1 (imgRc hk).2.1 nowRc.2.1 (imgRc hk).2.2.1 nowRc.2.2 (imgRc hk).2.2.2 (by omega) hC
  obtain ⟨M2, e2, f2, g2, i2, j2⟩ := lehrCopy (a := 1 + k) (b := 0) (M := st Mr 0 0 0) (by omega) (by omega) (by omega)
  rw [show 67 + 12 * k = 68 + 12 * k - 1 by omega, show f_X1_copyFrom 13 (68 + 12 * k - 1) Mc = some M1 from e1, bnd_s, show f_X11_copyLehr (io (1 + k)) 0 (st Mr 0 0 0) = some M2 from e2, bnd_s]
  simp only [letv_eq]
  refine ⟨0, _, _, rfl, rfl, Rel.ofX (L := L) ⟨?_, ?_, fun i hi => ?_, fun i hi => ?_⟩ ⟨hL, ?_, ?_, ?_⟩⟩
  · have := hX.1
    unfold RelT at *
    rw [stne (by decide), stne (by decide), g1 4 (by omega), g1 5 (by omega), i2 0 (by decide), i2 5 (by decide), hk0.2.1 6 (by decide), hk0.1 5 (by decide)]
    exact this
  · have := hX.2.1
    unfold RelF at *
    rw [stne (by decide), g1 6 (by omega), i2 0 (by decide), hk0.2.1 14 (by decide), hk0.2.1 15 (by decide)]
    exact this
  · have := hX.2.2.1 i hi
    unfold RelW at *
    rw [stne (by omega), g1 (103 + 2 * i) (by omega), i2 1 (by decide), i2 2 (by decide), hk0.1 1 (by decide), hk0.1 2 (by decide)]
    have q1 : (st M1 0 10 0).2 = Mc.2 := i1
    have q2 : M2.2 = Mr.2 := j2
    rw [q1, q2]
    exact this
  · rcases hX.2.2.2 i hi with t | ⟨u1, u2, L', hL', hC', hR'⟩
    · refine Or.inl ⟨?_, ?_⟩
      · rw [stne (by decide), g1 2 (by omega)]; exact t.1
      · rw [i2 11 (by decide), hk0.1 11 (by decide)]; exact t.2
    · refine Or.inr ⟨?_, ?_, L', hL', ?_, ?_⟩
      · rw [stne (by decide), g1 2 (by omega)]; exact u1
      · rw [i2 11 (by decide), hk0.1 11 (by decide)]; exact u2
      · exact hC'.congr (fun a h1 h2 => by rw [stne (by omega), g1 a (by omega)])
      · exact g2 (i + 1) L' hL' (by omega) (hR'.congr (fun a ha => hk0.1 a (by revert a; decide)))
  · exact f1.congr (fun a h1 h2 => stne (by omega))
  · exact f2 L hL hR0
  · exact Or.inl (by simp [st]; rfl)
