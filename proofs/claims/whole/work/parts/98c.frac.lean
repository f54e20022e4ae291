/-! FRACTIONS in lowest terms -/
abbrev lo (a : Int) : Int64 := Int64.ofInt a
theorem loT {a : Int} (h1 : -4611686018427387904 ≤ a) (h2 : a ≤ 4611686018427387904) : (lo a).toInt = a := by
  rw [Int64.toInt_ofInt]
  exact Int.bmod_eq_of_le (by show _ ≤ a; simp [Int64.size]; omega) (by show a < _; simp [Int64.size]; omega)
theorem lo0 {a : Int} (h1 : -4611686018427387904 ≤ a) (h2 : a ≤ 4611686018427387904) : lo a = 0 ↔ a = 0 := by
  rw [← Int64.toInt_inj, loT h1 h2]
  exact Iff.rfl
theorem lo_rem {a b : Int} (a1 : -4611686018427387904 ≤ a) (a2 : a ≤ 4611686018427387904) (b1 : -4611686018427387904 ≤ b) (b2 : b ≤ 4611686018427387904) : lo a - lo a / lo b * lo b = lo (a.tmod b) := by
  have mn : Int64.minValue.toInt = -9223372036854775808 := by decide
  have mx : Int64.maxValue.toInt = 9223372036854775807 := by decide
  show Int64.ofInt a - Int64.ofInt a / Int64.ofInt b * Int64.ofInt b = Int64.ofInt (a.tmod b)
  rw [← Int64.ofInt_tdiv (by omega) (by omega) (by omega) (by omega), ← Int64.ofInt_mul, ← Int64.ofInt_sub, Int.tmod_def, Int.mul_comm b]
def eu (a b : Nat) : Nat → Nat × Nat
  | 0 => (a, b)
  | i + 1 => ((eu a b i).2, (eu a b i).1 % (eu a b i).2)
theorem eu_le {a b : Nat} : ∀ i, (∀ j, j < i → (eu a b j).2 ≠ 0) → (eu a b i).1 ≤ a + b ∧ (eu a b i).2 ≤ b
  | 0, _ => ⟨Nat.le_add_right .., Nat.le_refl _⟩
  | i + 1, h => by
    have ih := eu_le i (fun j hj => h j (by omega))
    have hp := h i (by omega)
    have := Nat.mod_lt (eu a b i).1 (Nat.pos_of_ne_zero hp)
    simp only [eu]
    omega
theorem eu_half {a b : Nat} : ∀ j, (∀ i, i < 2 * j → (eu a b i).2 ≠ 0) → (eu a b (2 * j)).2 * 2 ^ j ≤ b
  | 0, _ => by simp [eu]
  | j + 1, h => by
    have ih := eu_half j (fun i hi => h i (by omega))
    have h1 := h (2 * j) (by omega)
    have h2 := h (2 * j + 1) (by omega)
    have m1 := Nat.mod_lt (eu a b (2 * j)).1 (Nat.pos_of_ne_zero h1)
    have e1 : eu a b (2 * j + 1) = ((eu a b (2 * j)).2, (eu a b (2 * j)).1 % (eu a b (2 * j)).2) := rfl
    have e2 : (eu a b (2 * (j + 1))).2 = (eu a b (2 * j)).2 % (eu a b (2 * j + 1)).2 := by rw [show 2 * (j + 1) = 2 * j + 1 + 1 by omega]; rfl
    rw [e1] at h2 e2
    rw [e2]
    have key : ∀ x y : Nat, 0 < y → y < x → 2 * (x % y) ≤ x := by
      intro x y hy hxy
      have h3 := Nat.div_add_mod x y
      have h4 := Nat.mod_lt x hy
      have h5 : 1 ≤ x / y := Nat.div_pos (Nat.le_of_lt hxy) hy
      have h6 : y * 1 ≤ y * (x / y) := Nat.mul_le_mul_left _ h5
      omega
    have k := key _ _ (Nat.pos_of_ne_zero h2) m1
    have k2 := Nat.mul_le_mul_right (2 ^ j) k
    rw [Nat.pow_succ]
    calc _ = 2 * ((eu a b (2 * j)).2 % ((eu a b (2 * j)).1 % (eu a b (2 * j)).2)) * 2 ^ j := by rw [Nat.mul_comm (2 ^ j) 2, ← Nat.mul_assoc, Nat.mul_comm _ 2]
      _ ≤ _ := Nat.le_trans k2 ih
theorem eu_end {a b : Nat} (hb : b < 1000000000) : ∃ m, m ≤ 60 ∧ (eu a b m).2 = 0 ∧ ∀ i, i < m → (eu a b i).2 ≠ 0 := by
  rcases first_or (fun i => (eu a b i).2 = 0) 61 with h | ⟨m, hm, h1, h2⟩
  · have := eu_half (a := a) (b := b) 30 (fun i hi => h i (by omega))
    have h60 := h 60 (by omega)
    have : 1 * 2 ^ 30 ≤ (eu a b (2 * 30)).2 * 2 ^ 30 := Nat.mul_le_mul_right _ (Nat.pos_of_ne_zero h60)
    omega
  · exact ⟨m, by omega, h1, h2⟩
theorem gcdC {a b m : Nat} (ha : a ≤ 1000000000000) (hb : b < 1000000000) (hm : m ≤ 60) (h1 : (eu a b m).2 = 0) (h2 : ∀ i, i < m → (eu a b i).2 ≠ 0) (M : Mem) : f_X3_commonDivisor (lo a) (lo b) M = some (lo (eu a b m).1) := by
  have z0 : (0 : Int64) = lo 0 := rfl
  unfold f_X3_commonDivisor
  obtain ⟨r, rfl, hq⟩ := in3x (b := L_X3_commonDivisor_9 (lo a) (lo b) M) (fun i x y z => x = lo (eu a b i).1 ∧ y = lo (eu a b i).2 ∧ z = io i) (fun r => r = lo (eu a b m).1) m (x := lo a) (y := lo b) (z := 0) ⟨rfl, rfl, rfl⟩ (by omega) (fun i x y z hi h => by
    obtain ⟨rfl, rfl, rfl⟩ := h
    have hl := eu_le (a := a) (b := b) i (fun j hj => h2 j (by omega))
    have hn := h2 i hi
    have e0 : ¬ lo (eu a b i).2 = 0 := fun q => hn (by have := (lo0 (by omega) (by omega)).mp q; omega)
    refine ⟨lo (eu a b (i + 1)).1, lo (eu a b (i + 1)).2, io (i + 1), ⟨rfl, rfl, rfl⟩, fun K => ?_⟩
    unfold L_X3_commonDivisor_9
    rw [if_neg (show ¬ (1000 : Int32) ≤ io i from fun q => by have := (io_le (a := 1000) (by omega) (by omega)).mp q; omega), if_neg (fun q => e0 ((lg_cmp_eq _ _).mp q)), if_neg e0, letv_eq, lo_rem (by omega) (by omega) (by omega) (by omega), show io i + (1 : Int32) = io (i + 1) from io_add i 1, ← Int.ofNat_tmod]
    rfl) (fun x y z h => by
    obtain ⟨rfl, rfl, rfl⟩ := h
    refine ⟨_, rfl, fun K => ?_⟩
    unfold L_X3_commonDivisor_9
    rw [if_neg (show ¬ (1000 : Int32) ≤ io m from fun q => by have := (io_le (a := 1000) (by omega) (by omega)).mp q; omega), h1, if_pos (show lg_cmp (lo ((0 : Nat) : Int)) 0 = 0 from (lg_cmp_eq _ _).mpr rfl)])
  exact hq
theorem gcdR {a b m : Nat} (ha : a ≤ 1000000000000) (hb : b < 1000000000) (h1 : (eu a b m).2 = 0) (h2 : ∀ i, i < m → (eu a b i).2 ≠ 0) : ∀ k i n (X Y : Int), i + k = m → k + 1 ≤ n → X.natAbs = (eu a b i).1 → Y.natAbs = (eu a b i).2 → fr_X11_common n (lo X) (lo Y) = some (lo (eu a b m).1)
  | 0, i, n, X, Y, hi, hn, hX, hY => by
    obtain ⟨n, rfl⟩ : ∃ n', n = n' + 1 := ⟨n - 1, by omega⟩
    have hl := eu_le (a := a) (b := b) i (fun j hj => h2 j (by omega))
    have e : i = m := by omega
    subst e
    have hY0 : Y = 0 := by omega
    subst hY0
    simp only [fr_X11_common]
    rw [if_pos (show lg_cmp (lo 0) 0 = 0 from (lg_cmp_eq _ _).mpr rfl)]
    by_cases c : 0 ≤ X
    · rw [if_pos ((lg_cmp_ge _ _).mpr (Int64.le_iff_toInt_le.mpr (by rw [loT (by omega) (by omega)]; exact c))), show X = ((eu a b i).1 : Int) by omega]
    · rw [if_neg (fun q => c (by have := Int64.le_iff_toInt_le.mp ((lg_cmp_ge _ _).mp q); rw [loT (by omega) (by omega)] at this; exact this)), ← Int64.ofInt_neg, show -X = ((eu a b i).1 : Int) by omega]
  | k + 1, i, n, X, Y, hi, hn, hX, hY => by
    obtain ⟨n, rfl⟩ : ∃ n', n = n' + 1 := ⟨n - 1, by omega⟩
    have hl := eu_le (a := a) (b := b) i (fun j hj => h2 j (by omega))
    have hne := h2 i (by omega)
    have e0 : ¬ lo Y = 0 := fun q => hne (by have := (lo0 (by omega) (by omega)).mp q; omega)
    simp only [fr_X11_common]
    rw [if_neg (fun q => e0 ((lg_cmp_eq _ _).mp q)), if_neg e0, lo_rem (by omega) (by omega) (by omega) (by omega), gcdR ha hb h1 h2 k (i + 1) n Y (X.tmod Y) (by omega) (by omega) hY (by rw [Int.natAbs_tmod, hX, hY]; rfl)]
    rfl
theorem fracs {x : Int} {b : Nat} (h1 : -1000000000000 ≤ x) (h2 : x ≤ 1000000000000) (hb0 : 0 < b) (hb : b < 1000000000) : ∃ w : Int32 → Int64, (∀ o M, ∃ M', f_X3_put o (lo x) (lo b) M = some M' ∧ M'.1 = M.1 ∧ (∀ a, a ≠ o → M'.2 a = M.2 a) ∧ ∀ p, f_X3_part o p M' = w p) ∧ ∀ p M, f_X11_partOf (lo x) (lo b) p M = some (w p) := by
  obtain ⟨m, hm, e1, e2⟩ := eu_end (a := x.natAbs) hb
  have hl := eu_le (a := x.natAbs) (b := b) m e2
  have hpos : (eu x.natAbs b m).1 ≠ 0 := by
    rcases Nat.eq_zero_or_pos m with rfl | hp
    · exact absurd e1 (by show b ≠ 0; omega)
    · obtain ⟨k, rfl⟩ : ∃ k, m = k + 1 := ⟨m - 1, by omega⟩
      exact e2 k (by omega)
  have hg0 : ¬ lo (eu x.natAbs b m).1 = 0 := fun q => hpos (by have := (lo0 (by omega) (by omega)).mp q; omega)
  have hgl : ¬ lg_cmp (lo (eu x.natAbs b m).1) 0 ≤ 0 := fun q => by
    have := Int64.le_iff_toInt_le.mp ((lg_cmp_le _ _).mp q)
    rw [loT (by omega) (by omega), show (0 : Int64).toInt = 0 from rfl] at this
    omega
  have eabs : f_absL (lo x) = lo (x.natAbs : Int) := by
    unfold f_absL
    by_cases c : 0 < x
    · rw [if_pos (Int64.lt_iff_toInt_lt.mpr (by rw [loT (by omega) (by omega)]; exact c)), show (x.natAbs : Int) = x by omega]
    · rw [if_neg (fun q => c (by have := Int64.lt_iff_toInt_lt.mp q; rw [loT (by omega) (by omega)] at this; exact this)), ← Int64.ofInt_neg, show (x.natAbs : Int) = -x by omega]
  have eR : f_X11_common (lo x) (lo b) = some (lo (eu x.natAbs b m).1) := gcdR (by omega) hb e1 e2 m 0 100 x b (by omega) (by omega) rfl rfl
  refine ⟨fun p => if p = 0 then lo x / lo (eu x.natAbs b m).1 else lo b / lo (eu x.natAbs b m).1, fun o M => ?_, fun p M => ?_⟩
  · refine ⟨stL (stL M o 0 (lo x / lo (eu x.natAbs b m).1)) o 1 (lo b / lo (eu x.natAbs b m).1), ?_, rfl, fun a ha => ?_, fun p => ?_⟩
    · unfold f_X3_put J_X3_put_26
      rw [eabs, gcdC (by omega) hb hm e1 e2, bnd_s, if_neg hgl, if_neg hg0, letv_eq, if_neg hgl, if_neg hg0, letv_eq]
    · funext j; simp [stL, ha]
    · unfold f_X3_part
      show _ = if p = 0 then lo x / lo (eu x.natAbs b m).1 else lo b / lo (eu x.natAbs b m).1
      by_cases c : p = 0
      · rw [if_pos c, if_pos c]; simp [stL]
      · rw [if_neg c, if_neg c]; simp [stL]
  · unfold f_X11_partOf
    rw [eR, bnd_s, bnd_s, if_neg hg0, if_neg hg0]
    show _ = some (if p = 0 then lo x / lo (eu x.natAbs b m).1 else lo b / lo (eu x.natAbs b m).1)
    by_cases c : p = 0
    · rw [if_pos c, if_pos c]
    · rw [if_neg c, if_neg c]
