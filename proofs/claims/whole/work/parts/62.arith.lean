/-! the machine's arithmetic on these numbers, ready for use -/
theorem oob_f {a n : Nat} (h : a < n) (hn : n < 2147483648) : oob (io a) n = false := by
  rw [oob_io (by omega)]; exact decide_eq_false (by omega)
theorem io_le_t {a b : Nat} (h : a ≤ b) (hb : b < 2147483648) : (io a ≤ io b) = True := by
  rw [io_le (by omega) hb]; exact eq_true h
theorem io_le_f {a b : Nat} (h : b < a) (hb : a < 2147483648) : (io a ≤ io b) = False := by
  rw [io_le hb (by omega)]; exact eq_false (by omega)
theorem io_lt_t {a b : Nat} (h : a < b) (hb : b < 2147483648) : (io a < io b) = True := by
  rw [io_lt (by omega) hb]; exact eq_true h
theorem io_lt_f {a b : Nat} (h : b ≤ a) (hb : a < 2147483648) : (io a < io b) = False := by
  rw [io_lt hb (by omega)]; exact eq_false (by omega)
theorem io_ne {a b : Nat} (h : a ≠ b) (ha : a < 2147483648) (hb : b < 2147483648) : (io a = io b) = False := by
  rw [io_inj ha hb]; exact eq_false h
theorem abs_io {a b : Nat} (ha : a ≤ 1000000000) (hb : b ≤ 1000000000) : f_abs (io a - io b) = io (apt a b) := by
  have e : ∀ {x : Int}, -2000000000 ≤ x → x ≤ 2000000000 → x.bmod (2 ^ 32) = x := fun {x} h1 h2 => Int.bmod_eq_of_le (by omega) (by omega)
  have e1 : (io a - io b).toInt = (a : Int) - b := by
    rw [Int32.toInt_sub, io_toInt (by omega), io_toInt (by omega), e (by omega) (by omega)]
  unfold f_abs
  apply Int32.toInt_inj.mp
  have ec : (0 ≤ io a - io b) ↔ b ≤ a := by
    rw [Int32.le_iff_toInt_le, e1]
    show (0 : Int) ≤ _ ↔ _
    omega
  by_cases h : b ≤ a
  · rw [if_pos (ec.mpr h), e1]
    have : apt a b = a - b := by unfold apt; split <;> omega
    rw [this, io_toInt (by omega)]; omega
  · rw [if_neg (fun q => h (ec.mp q)), Int32.toInt_sub, e1]
    have : apt a b = b - a := by unfold apt; split <;> omega
    rw [this, io_toInt (by omega)]
    show ((0 : Int) - ((a : Int) - b)).bmod (2 ^ 32) = _
    rw [e (by omega) (by omega)]; omega
theorem apart_io {a b : Nat} (ha : a ≤ 1000000000) (hb : b ≤ 1000000000) (M : Mem) : f_X11_apart (io a) (io b) M = io (apt a b) := by
  unfold f_X11_apart apt
  by_cases h : b ≤ a
  · rw [if_pos ((io_le (by omega) (by omega)).mpr h), io_sub h]
    split
    · have : a = b := by omega
      subst this; rfl
    · rfl
  · rw [if_neg (fun q => h ((io_le (by omega) (by omega)).mp q)), io_sub (by omega), if_pos (by omega)]
theorem half_io {a b : Nat} (ha : a ≤ 20000) (hb : b ≤ 20000) : ((io b - io a) / io 2).toInt = ((b : Int) - a).tdiv 2 := by
  have e : ∀ {x : Int}, -1000000 ≤ x → x ≤ 1000000 → x.bmod (2 ^ 32) = x := fun {x} h1 h2 => Int.bmod_eq_of_le (by omega) (by omega)
  have e1 : (io b - io a).toInt = (b : Int) - a := by
    rw [Int32.toInt_sub, io_toInt (by omega), io_toInt (by omega), e (by omega) (by omega)]
  rw [Int32.toInt_div_of_ne_right _ _ (by decide), e1]; rfl
theorem half_int {a b : Nat} : ((b : Int) - a).tdiv 2 = if a ≤ b then (((b - a) / 2 : Nat) : Int) else -(((a - b) / 2 : Nat) : Int) := by
  split
  · rename_i h
    rw [← Int.ofNat_sub h, Int.tdiv_eq_ediv_of_nonneg (by omega)]; rfl
  · rename_i h
    have : (b : Int) - a = -(((a - b : Nat) : Int)) := by omega
    rw [this, Int.neg_tdiv, Int.tdiv_eq_ediv_of_nonneg (by omega)]; rfl
theorem pull1_x {a b : Nat} {x : Int32} (ha : a ≤ 20000) (hb : b ≤ 20000) (hx : x.toInt = if ((b : Int) - a).tdiv 2 < -60 then -60 else if 60 < ((b : Int) - a).tdiv 2 then 60 else ((b : Int) - a).tdiv 2) : io a + x = io (pull 1 a b) := by
  have e : ∀ {x : Int}, -1000000 ≤ x → x ≤ 1000000 → x.bmod (2 ^ 32) = x := fun {x} h1 h2 => Int.bmod_eq_of_le (by omega) (by omega)
  apply Int32.toInt_inj.mp
  rw [Int32.toInt_add, hx, half_int, io_toInt (by omega), io_toInt (by have := pull_le (l := 1) ha hb; omega)]
  unfold pull
  rw [if_pos rfl]
  by_cases h : a ≤ b
  · simp only [if_pos h]
    rw [e (by split <;> (try split) <;> omega) (by split <;> (try split) <;> omega)]
    split
    · omega
    · split <;> omega
  · simp only [if_neg h]
    rw [e (by split <;> (try split) <;> omega) (by split <;> (try split) <;> omega)]
    split
    · omega
    · split <;> omega
theorem pull1_C {a b : Nat} (ha : a ≤ 20000) (hb : b ≤ 20000) : io a + f_max (-(io 60)) (f_min ((io b - io a) / io 2) (io 60)) = io (pull 1 a b) := by
  apply pull1_x ha hb
  have h1 := half_io ha hb
  generalize (io b - io a) / io 2 = y at h1
  generalize ((b : Int) - a).tdiv 2 = z at h1
  have e60 : (io 60).toInt = 60 := rfl
  have en : (-(io 60)).toInt = -60 := rfl
  unfold f_max f_min
  by_cases h2 : io 60 < y
  · rw [if_pos h2]
    have h3 := Int32.lt_iff_toInt_lt.mp h2
    rw [if_pos (by decide), e60]
    rw [if_neg (by omega), if_pos (by omega)]
  · rw [if_neg h2]
    have h3 : ¬ (60 : Int) < z := fun q => h2 (Int32.lt_iff_toInt_lt.mpr (by omega))
    by_cases h4 : -(io 60) < y
    · have h5 := Int32.lt_iff_toInt_lt.mp h4
      rw [if_pos h4, h1, if_neg (by omega), if_neg h3]
    · have h5 : ¬ (-60 : Int) < z := fun q => h4 (Int32.lt_iff_toInt_lt.mpr (by omega))
      rw [if_neg h4, en]
      by_cases h6 : z < -60
      · rw [if_pos h6]
      · rw [if_neg h6, if_neg h3]; omega
theorem pull1_R {a b : Nat} (ha : a ≤ 20000) (hb : b ≤ 20000) (M : Mem) : io a + f_X11_lessOf (io 60) (f_X11_moreOf (-(io 60)) ((io b - io a) / io 2) M) M = io (pull 1 a b) := by
  apply pull1_x ha hb
  have h1 := half_io ha hb
  generalize (io b - io a) / io 2 = y at h1
  generalize ((b : Int) - a).tdiv 2 = z at h1
  have e60 : (io 60).toInt = 60 := rfl
  have en : (-(io 60)).toInt = -60 := rfl
  unfold f_X11_lessOf f_X11_moreOf
  by_cases h2 : -(io 60) ≤ y
  · rw [if_pos h2]
    have h3 := Int32.le_iff_toInt_le.mp h2
    by_cases h4 : y ≤ io 60
    · have h5 := Int32.le_iff_toInt_le.mp h4
      rw [if_pos h4, h1, if_neg (by omega), if_neg (by omega)]
    · have h5 : ¬ z ≤ 60 := fun q => h4 (Int32.le_iff_toInt_le.mpr (by omega))
      rw [if_neg h4, e60, if_neg (by omega), if_pos (by omega)]
  · have h3 : ¬ -60 ≤ z := fun q => h2 (Int32.le_iff_toInt_le.mpr (by omega))
    rw [if_neg h2, if_pos (by decide), en, if_pos (by omega)]
theorem pull_d {l a b : Nat} (h : l ≠ 1) : pull l a b = tw a b (if l = 3 then 3 else 2) := by
  unfold pull
  rw [if_neg h]
  split <;> rfl
/-- all but some cells stay -/
def Fr (S : List Nat) (M M' : Mem) : Prop := (∀ a, a ∉ S → M'.1 a = M.1 a) ∧ M'.2 = M.2
theorem Fr.rfl {S : List Nat} {M : Mem} : Fr S M M := ⟨fun _ _ => Eq.refl _, Eq.refl _⟩
theorem Fr.trans {S : List Nat} {M M' M'' : Mem} (h : Fr S M M') (h2 : Fr S M' M'') : Fr S M M'' := ⟨fun a ha => (h2.1 a ha).trans (h.1 a ha), h2.2.trans h.2⟩
theorem Fr.sto {S : List Nat} {M M' : Mem} {a k : Nat} {v : Int32} (h : Fr S M M') (ha : a ∈ S) : Fr S M (st M' a k v) := by
  refine ⟨fun b hb => ?_, h.2⟩
  have : b ≠ a := fun q => hb (q ▸ ha)
  rw [← h.1 b hb]
  funext j
  simp [st, this]
theorem Fr.mono {S T : List Nat} {M M' : Mem} (h : Fr S M M') (hs : ∀ a, a ∈ S → a ∈ T) : Fr T M M' := ⟨fun a ha => h.1 a (fun q => ha (hs a q)), h.2⟩
