/-! WORDS, NUMBERS AND SIGNS of the text, on both sides -/
abbrev isB (x : Int32) : Prop := x = 32 ∨ x = 10
abbrev isW (x : Int32) : Prop := (97 : Int32) ≤ x ∧ x ≤ 122
abbrev isD (x : Int32) : Prop := (48 : Int32) ≤ x ∧ x ≤ 57
/-- the text of both -/
def TxC (n : Nat) (t : Nat → Int32) (M : Mem) : Prop := M.1 4 1 = io n ∧ ∀ i, i < n → M.1 5 i = t i
def TxR (n : Nat) (t : Nat → Int32) (M : Mem) : Prop := M.1 0 6 = io n ∧ ∀ i, i < n → M.1 5 i = t i
def FtC (M M' : Mem) : Prop := (∀ a, a ≠ 6 → M'.1 a = M.1 a) ∧ (∀ j, j ∉ [1, 2, 3] → M'.1 6 j = M.1 6 j) ∧ M'.2 = M.2
def FtR (M M' : Mem) : Prop := (∀ a, a ≠ 0 → M'.1 a = M.1 a) ∧ (∀ j, j ∉ [7, 8, 9, 10] → M'.1 0 j = M.1 0 j) ∧ (∀ a, a ≠ 0 → M'.2 a = M.2 a)
theorem FtC.refl {M : Mem} : FtC M M := ⟨fun _ _ => Eq.refl _, fun _ _ => Eq.refl _, Eq.refl _⟩
theorem FtC.sto {M M' : Mem} {k : Nat} {v : Int32} (h : FtC M M') (hk : k ∈ [1, 2, 3]) : FtC M (st M' 6 k v) :=
  ⟨fun a ha => by rw [stne ha]; exact h.1 a ha, fun j hj => by rw [st_rd (fun q => hj (by rw [q.2]; exact hk))]; exact h.2.1 j hj, h.2.2⟩
theorem FtR.refl {M : Mem} : FtR M M := ⟨fun _ _ => Eq.refl _, fun _ _ => Eq.refl _, fun _ _ => Eq.refl _⟩
theorem FtR.sto {M M' : Mem} {k : Nat} {v : Int32} (h : FtR M M') (hk : k ∈ [7, 8, 9, 10]) : FtR M (st M' 0 k v) :=
  ⟨fun a ha => by rw [stne ha]; exact h.1 a ha, fun j hj => by rw [st_rd (fun q => hj (by rw [q.2]; exact hk))]; exact h.2.1 j hj, h.2.2⟩
theorem FtR.stoL {M M' : Mem} {k : Nat} {v : Int64} (h : FtR M M') : FtR M (stL M' 0 k v) :=
  ⟨h.1, h.2.1, fun a ha => by rw [← h.2.2 a ha]; funext j; simp [stL, ha]⟩
theorem TxC.f {n : Nat} {t : Nat → Int32} {M M' : Mem} (h : TxC n t M) (g : FtC M M') : TxC n t M' := ⟨by rw [g.1 4 (by decide)]; exact h.1, fun i hi => by rw [g.1 5 (by decide)]; exact h.2 i hi⟩
theorem TxR.f {n : Nat} {t : Nat → Int32} {M M' : Mem} (h : TxR n t M) (g : FtR M M') : TxR n t M' := ⟨by rw [g.2.1 6 (by decide)]; exact h.1, fun i hi => by rw [g.1 5 (by decide)]; exact h.2 i hi⟩
theorem byteC {n i : Nat} {t : Nat → Int32} {M : Mem} (hn : n ≤ 600) (h : TxC n t M) (hi : i < n) : f_X8_byteAt (io i) M = some (t i) := by
  unfold f_X8_byteAt
  rw [if_neg (show ¬ io i < (0 : Int32) from fun q => by have := (io_lt (b := 0) (by omega) (by omega)).mp q; omega), h.1, if_neg (by rw [io_le (by omega) (by omega)]; omega), if_neg (show ¬ (600 : Int32) ≤ io i from fun q => by have := (io_le (a := 600) (by omega) (by omega)).mp q; omega), oob_f (show i < 600 by omega) (by omega), ix_io (by omega), h.2 i hi]
  rfl
theorem byteR {n i : Nat} {t : Nat → Int32} {M : Mem} (hn : n ≤ 600) (h : TxR n t M) (hi : i ≤ n) (x y : Int32) : f_X11_isByte (io i) x y M = some (if i < n ∧ x ≤ t i ∧ t i ≤ y then 1 else 0) := by
  unfold f_X11_isByte
  rw [h.1]
  by_cases c : i < n
  · rw [if_neg (by rw [io_le (by omega) (by omega)]; omega), oob_f (show i < 600 by omega) (by omega), ix_io (by omega), h.2 i c]
    simp only [Bool.false_eq_true, if_false]
    by_cases c1 : t i < x
    · rw [if_pos c1, if_neg (fun q => Int32.not_lt.mpr q.2.1 c1)]
    · rw [if_neg c1]
      by_cases c2 : y < t i
      · rw [if_pos c2, if_neg (fun q => Int32.not_lt.mpr q.2.2 c2)]
      · rw [if_neg c2, if_pos ⟨c, Int32.not_lt.mp c1, Int32.not_lt.mp c2⟩]
  · rw [if_pos (by rw [io_le (by omega) (by omega)]; omega), if_neg (fun q => c q.1)]
/-- blanks are passed over: where the next begins -/
theorem blanks (n pos : Nat) (t : Nat → Int32) (h : pos ≤ n) : ∃ m, pos + m ≤ n ∧ (∀ i, i < m → isB (t (pos + i))) ∧ (pos + m = n ∨ ¬ isB (t (pos + m))) := by
  rcases first_or (fun i => pos + i = n ∨ ¬ isB (t (pos + i))) (n - pos + 1) with q | ⟨m, hm, h1, h2⟩
  · exact absurd (Or.inl (by omega)) (q (n - pos) (by omega))
  · refine ⟨m, by omega, fun i hi => ?_, h1⟩
    have := h2 i hi
    exact Classical.byContradiction (fun w => this (Or.inr w))
theorem runs_of (n pos : Nat) (S : Nat → Prop) (h : pos ≤ n) : ∃ m, pos + m ≤ n ∧ (∀ i, i < m → S (pos + i)) ∧ (pos + m = n ∨ ¬ S (pos + m)) := by
  rcases first_or (fun i => pos + i = n ∨ ¬ S (pos + i)) (n - pos + 1) with q | ⟨m, hm, h1, h2⟩
  · exact absurd (Or.inl (by omega)) (q (n - pos) (by omega))
  · refine ⟨m, by omega, fun i hi => ?_, h1⟩
    have := h2 i hi
    exact Classical.byContradiction (fun w => this (Or.inr w))
theorem blankC (x : Int32) (M : Mem) : (f_X6_isBlank x M = 0) ↔ ¬ isB x := by
  unfold f_X6_isBlank isB
  by_cases c : x = 32
  · rw [if_pos c]; exact iff_of_false (by decide) (fun q => q (Or.inl c))
  · rw [if_neg c]
    by_cases c2 : x = 10
    · rw [if_pos c2]; exact iff_of_false (by decide) (fun q => q (Or.inr c2))
    · rw [if_neg c2]; exact iff_of_true rfl (fun q => q.elim c c2)
/-- what a sign is: 1 of a word, 2 of a number, 3 the sign, 0 another -/
theorem kindC (x : Int32) (M : Mem) : (isW x ∧ f_X6_kindOf x M = 1) ∨ (¬ isW x ∧ isD x ∧ f_X6_kindOf x M = 2) ∨ (¬ isW x ∧ ¬ isD x ∧ x = 59 ∧ f_X6_kindOf x M = 3) ∨ (¬ isW x ∧ ¬ isD x ∧ x ≠ 59 ∧ f_X6_kindOf x M = 0) := by
  unfold f_X6_kindOf J_X6_kindOf_14 isW isD
  by_cases c1 : x < 97
  · have hw : ¬ ((97 : Int32) ≤ x ∧ x ≤ 122) := fun q => Int32.not_lt.mpr q.1 c1
    rw [if_pos c1]
    by_cases c2 : x < 48
    · rw [if_pos c2]
      have hd : ¬ ((48 : Int32) ≤ x ∧ x ≤ 57) := fun q => Int32.not_lt.mpr q.1 c2
      by_cases c3 : x = 59
      · rw [if_pos c3]; exact Or.inr (Or.inr (Or.inl ⟨hw, hd, c3, rfl⟩))
      · rw [if_neg c3]; exact Or.inr (Or.inr (Or.inr ⟨hw, hd, c3, rfl⟩))
    · rw [if_neg c2]
      by_cases c4 : (57 : Int32) < x
      · rw [if_pos c4]
        have hd : ¬ ((48 : Int32) ≤ x ∧ x ≤ 57) := fun q => Int32.not_lt.mpr q.2 c4
        by_cases c3 : x = 59
        · rw [if_pos c3]; exact Or.inr (Or.inr (Or.inl ⟨hw, hd, c3, rfl⟩))
        · rw [if_neg c3]; exact Or.inr (Or.inr (Or.inr ⟨hw, hd, c3, rfl⟩))
      · rw [if_neg c4]; exact Or.inr (Or.inl ⟨hw, ⟨Int32.not_lt.mp c2, Int32.not_lt.mp c4⟩, rfl⟩)
  · rw [if_neg c1]
    by_cases c5 : (122 : Int32) < x
    · have hw : ¬ ((97 : Int32) ≤ x ∧ x ≤ 122) := fun q => Int32.not_lt.mpr q.2 c5
      have h57 : (57 : Int32) < x := Int32.lt_trans (by decide) c5
      have hd : ¬ ((48 : Int32) ≤ x ∧ x ≤ 57) := fun q => Int32.not_lt.mpr q.2 h57
      have c2 : ¬ x < 48 := fun q => Int32.lt_irrefl (Int32.lt_trans (Int32.lt_trans q (by decide)) h57)
      rw [if_pos c5, if_neg c2, if_pos h57]
      by_cases c3 : x = 59
      · rw [if_pos c3]; exact Or.inr (Or.inr (Or.inl ⟨hw, hd, c3, rfl⟩))
      · rw [if_neg c3]; exact Or.inr (Or.inr (Or.inr ⟨hw, hd, c3, rfl⟩))
    · rw [if_neg c5]; exact Or.inl ⟨⟨Int32.not_lt.mp c1, Int32.not_lt.mp c5⟩, rfl⟩
