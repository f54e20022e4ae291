/-! SMALL NUMBERS AND LOOPS: what both sides count with -/
def io (n : Nat) : Int32 := Int32.ofNat n
def m1 : Int32 := -1
theorem lit (k : Nat) : (OfNat.ofNat k : Int32) = io (OfNat.ofNat k) := (Eq.refl (io k)).trans (Eq.refl _)
theorem nio1 : -(io 1) = m1 := (Eq.refl m1).trans (Eq.refl _)
theorem io_toInt {a : Nat} (h : a < 2147483648) : (io a).toInt = a := Int32.toInt_ofNat_of_lt h
theorem m1_toInt : m1.toInt = -1 := rfl
theorem io_inj {a b : Nat} (ha : a < 2147483648) (hb : b < 2147483648) : (io a = io b) ↔ a = b := by
  rw [← Int32.toInt_inj, io_toInt ha, io_toInt hb]; omega
theorem io_le {a b : Nat} (ha : a < 2147483648) (hb : b < 2147483648) : (io a ≤ io b) ↔ a ≤ b := by
  rw [Int32.le_iff_toInt_le, io_toInt ha, io_toInt hb]; omega
theorem io_lt {a b : Nat} (ha : a < 2147483648) (hb : b < 2147483648) : (io a < io b) ↔ a < b := by
  rw [Int32.lt_iff_toInt_lt, io_toInt ha, io_toInt hb]; omega
theorem io_add (a b : Nat) : io a + io b = io (a + b) := (Int32.ofNat_add a b).symm
theorem io_mul (a b : Nat) : io a * io b = io (a * b) := (Int32.ofNat_mul a b).symm
theorem io_sub {a b : Nat} (h : b ≤ a) : io a - io b = io (a - b) := (Int32.ofNat_sub a b h).symm
theorem io_div {a b : Nat} (ha : a < 2147483648) (hb : b < 2147483648) : io a / io b = io (a / b) := (Int32.ofNat_div ha hb).symm
theorem io_m1 {a : Nat} (h : a < 2147483648) : (io a = m1) ↔ False := by
  rw [← Int32.toInt_inj, io_toInt h, m1_toInt]; exact iff_of_false (by omega) not_false
theorem m1_io {a : Nat} (h : a < 2147483648) : (m1 = io a) ↔ False := by
  rw [← Int32.toInt_inj, io_toInt h, m1_toInt]; exact iff_of_false (by omega) not_false
theorem m1_lt {a : Nat} (h : a < 2147483648) : (m1 < io a) ↔ True := by
  rw [Int32.lt_iff_toInt_lt, io_toInt h, m1_toInt]; exact iff_of_true (by omega) trivial
theorem m1_le {a : Nat} (h : a < 2147483648) : (m1 ≤ io a) ↔ True := by
  rw [Int32.le_iff_toInt_le, io_toInt h, m1_toInt]; exact iff_of_true (by omega) trivial
theorem lt_m1 {a : Nat} (h : a < 2147483648) : (io a < m1) ↔ False := by
  rw [Int32.lt_iff_toInt_lt, io_toInt h, m1_toInt]; exact iff_of_false (by omega) not_false
theorem le_m1 {a : Nat} (h : a < 2147483648) : (io a ≤ m1) ↔ False := by
  rw [Int32.le_iff_toInt_le, io_toInt h, m1_toInt]; exact iff_of_false (by omega) not_false
theorem ix_io {a : Nat} (h : a < 2147483648) : ix (io a) = a := Int32.toNatClampNeg_ofNat_of_lt h
theorem oob_io {a n : Nat} (h : a < 2147483648) : oob (io a) n = decide (n ≤ a) := by
  have e : (io a < 0) ↔ False := by
    rw [show (0 : Int32) = io 0 from rfl, io_lt h (by decide)]; exact iff_of_false (by omega) not_false
  show decide (io a < 0 ∨ n ≤ ix (io a)) = decide (n ≤ a)
  rw [ix_io h]; simp [e]
theorem oob2_io {a b n : Nat} (h : a < 2147483648) (h2 : b < 2147483648) : oob2 (io a) (io b) n = decide (n < a + b) := by
  have e : ∀ {a : Nat}, a < 2147483648 → ((io a < 0) ↔ False) := fun {a} h => by
    rw [show (0 : Int32) = io 0 from rfl, io_lt h (by decide)]; exact iff_of_false (by omega) not_false
  show decide (io a < 0 ∨ io b < 0 ∨ n < ix (io a) + ix (io b)) = decide (n < a + b)
  rw [ix_io h, ix_io h2]; simp [e h, e h2]
theorem io_ex {x : Int32} (h : 0 ≤ x) : ∃ n, n < 2147483648 ∧ x = io n := ⟨x.toNatClampNeg, Int32.toNatClampNeg_lt x, (Int32.ofNat_toNatClampNeg x h).symm⟩
theorem io_cases (x : Int32) : x < io 0 ∨ ∃ n, n < 2147483648 ∧ x = io n := by
  by_cases h : x < 0
  · exact Or.inl h
  · exact Or.inr (io_ex (Int32.not_lt.mp h))
theorem letv_eq {α β : Type} (x : α) (k : α → β) : letv x k = k x := (Eq.refl (k x)).trans (Eq.refl _)
theorem letv_ex {α ρ : Type} {x : α} {k : α → Option ρ} {Q : ρ → Prop} (h : ∀ y, y = x → ∃ r, k y = some r ∧ Q r) : ∃ r, letv x k = some r ∧ Q r := h x rfl
theorem bnd_s {α β : Type} (x : α) (k : α → Option β) : bnd (some x) k = k x := (Eq.refl (k x)).trans (Eq.refl _)
theorem bnd2_s {α β : Type} (x : α) (M : Mem) (k : α → Mem → Option β) : bnd2 (some (x, M)) k = k x M := (Eq.refl (k x M)).trans (Eq.refl _)
/-- an option as the machine has it -/
def oi : Option Nat → Int32
  | none => m1
  | some n => io n
theorem oi_none : oi none = m1 := rfl
theorem oi_some (n : Nat) : oi (some n) = io n := rfl
/-! bits -/
def bt (x : Int32) (i : Nat) : Bool := x.toBitVec.getLsbD i
theorem bt_ext {x y : Int32} (h : ∀ i, i < 32 → bt x i = bt y i) : x = y := by
  apply Int32.toBitVec_inj.mp
  apply BitVec.eq_of_getLsbD_eq
  intro i hi
  exact h i hi
theorem bt_io (a i : Nat) : bt (io a) i = (decide (i < 32) && a.testBit i) := by
  show (BitVec.ofNat 32 a).getLsbD i = _
  rw [BitVec.getLsbD_ofNat]
theorem bt_and (x y : Int32) (i : Nat) : bt (x &&& y) i = (bt x i && bt y i) := by
  simp [bt]
theorem bt_or (x y : Int32) (i : Nat) : bt (x ||| y) i = (bt x i || bt y i) := by
  simp [bt]
theorem bt_not {x : Int32} {i : Nat} (h : i < 32) : bt (x ^^^ m1) i = !bt x i := by
  have e : bt m1 i = true := by
    have : ∀ i, i < 32 → bt m1 i = true := by decide +kernel
    exact this i h
  simp only [bt, Int32.toBitVec_xor, BitVec.getLsbD_xor] at *
  rw [e]; simp
theorem io_or (a b : Nat) : io a ||| io b = io (a ||| b) := bt_ext (fun i hi => by simp [bt_or, bt_io, hi])
theorem io_and (a b : Nat) : io a &&& io b = io (a &&& b) := bt_ext (fun i hi => by simp [bt_and, bt_io, hi])
theorem io_shl {n : Nat} (h : n < 31) : io 1 <<< (io n &&& io 31) = io (2 ^ n) := by
  have : ∀ n, n < 31 → io 1 <<< (io n &&& io 31) = io (2 ^ n) := by decide +kernel
  exact this n h
theorem io_shr {x n : Nat} (hx : x < 2147483648) (h : n < 31) : (io x >>> (io n &&& io 31)) &&& io 1 = io (if x.testBit n then 1 else 0) := by
  have e : (io n &&& io 31) = io n := by
    have : ∀ n, n < 31 → (io n &&& io 31) = io n := by decide +kernel
    exact this n h
  have e2 : ∀ n, n < 31 → ((io n).toBitVec.smod 32).toNat = n := by decide +kernel
  have msb : (BitVec.ofNat 32 x).msb = false := by
    rw [BitVec.msb_eq_decide]
    simp only [BitVec.toNat_ofNat, decide_eq_false_iff_not]
    omega
  apply bt_ext
  intro i hi
  rw [bt_and, e]
  have e3 : bt (io x >>> io n) i = (decide (n + i < 32) && x.testBit (n + i)) := by
    show ((io x >>> io n).toBitVec).getLsbD i = _
    rw [Int32.toBitVec_shiftRight]
    show (BitVec.sshiftRight' (BitVec.ofNat 32 x) _).getLsbD i = _
    rw [BitVec.sshiftRight', e2 n h, BitVec.sshiftRight_eq_of_msb_false msb, BitVec.getLsbD_ushiftRight, BitVec.getLsbD_ofNat]
  rw [e3, bt_io]
  by_cases h0 : i = 0
  · subst h0
    have : n < 32 := by omega
    by_cases hb : x.testBit n <;> simp [bt_io, hb, this]
  · have : (1 : Nat).testBit i = false := by
      cases i with
      | zero => exact absurd rfl h0
      | succ j => simp [Nat.testBit_succ]
    rw [this]
    by_cases hb : x.testBit n <;> simp [bt_io, hb, this]
def bN (f : Nat → Bool) : Nat → Nat
  | 0 => 0
  | n + 1 => bN f n + if f n then 2 ^ n else 0
def cN (f : Nat → Bool) : Nat → Nat
  | 0 => 0
  | n + 1 => cN f n + if f n then 1 else 0
def sN (f : Nat → Nat) : Nat → Nat
  | 0 => 0
  | n + 1 => sN f n + f n
theorem bN_lt (f : Nat → Bool) : ∀ n, bN f n < 2 ^ n
  | 0 => by simp [bN]
  | n + 1 => by
    have h := bN_lt f n
    have e : 2 ^ (n + 1) = 2 ^ n * 2 := Nat.pow_succ ..
    simp only [bN]
    split <;> omega
theorem bN_or (f : Nat → Bool) (n : Nat) : bN f n ||| 2 ^ n = bN f n + 2 ^ n := by
  have h := Nat.two_pow_add_eq_or_of_lt (bN_lt f n) 1
  rw [Nat.mul_one] at h
  rw [Nat.or_comm, ← h, Nat.add_comm]
theorem bN_tb (f : Nat → Bool) : ∀ n i, (bN f n).testBit i = (decide (i < n) && f i)
  | 0, i => by simp [bN]
  | n + 1, i => by
    have h := bN_tb f n i
    simp only [bN]
    by_cases hf : f n
    · rw [if_pos hf, ← bN_or, Nat.testBit_or, h, Nat.testBit_two_pow]
      by_cases hi : n = i
      · subst hi; simp [hf]
      · have : (i < n + 1) ↔ (i < n) := by omega
        simp [hi, this]
    · rw [if_neg hf, Nat.add_zero, h]
      by_cases hi : i = n
      · subst hi; simp [hf]
      · have : (i < n + 1) ↔ (i < n) := by omega
        simp [this]
theorem bN_congr {f g : Nat → Bool} : ∀ {n : Nat}, (∀ i, i < n → f i = g i) → bN f n = bN g n
  | 0, _ => rfl
  | n + 1, h => by
    simp only [bN]
    rw [bN_congr (fun i hi => h i (by omega)), h n (by omega)]
theorem cN_congr {f g : Nat → Bool} : ∀ {n : Nat}, (∀ i, i < n → f i = g i) → cN f n = cN g n
  | 0, _ => rfl
  | n + 1, h => by
    simp only [cN]
    rw [cN_congr (fun i hi => h i (by omega)), h n (by omega)]
theorem sN_congr {f g : Nat → Nat} : ∀ {n : Nat}, (∀ i, i < n → f i = g i) → sN f n = sN g n
  | 0, _ => rfl
  | n + 1, h => by
    simp only [sN]
    rw [sN_congr (fun i hi => h i (by omega)), h n (by omega)]
theorem cN_le (f : Nat → Bool) : ∀ n, cN f n ≤ n
  | 0 => Nat.le_refl _
  | n + 1 => by
    have := cN_le f n
    simp only [cN]
    split <;> omega
theorem sN_le {f : Nat → Nat} {k : Nat} : ∀ {n : Nat}, (∀ i, i < n → f i ≤ k) → sN f n ≤ n * k
  | 0, _ => by simp [sN]
  | n + 1, h => by
    have h1 := sN_le (n := n) (fun i hi => h i (by omega))
    have h2 := h n (by omega)
    simp only [sN, Nat.succ_mul]
    omega
theorem cN_zero {f : Nat → Bool} : ∀ {n : Nat}, (∀ i, i < n → f i = false) → cN f n = 0
  | 0, _ => rfl
  | n + 1, h => by
    simp only [cN]
    rw [cN_zero (fun i hi => h i (by omega)), h n (by omega)]; rfl
theorem bN_zero {f : Nat → Bool} {n : Nat} : bN f n = 0 ↔ ∀ i, i < n → f i = false := by
  constructor
  · intro h i hi
    have := bN_tb f n i
    rw [h] at this
    simpa [hi] using this.symm
  · intro h
    induction n with
    | zero => rfl
    | succ n ih =>
      simp only [bN]
      rw [ih (fun i hi => h i (by omega)), h n (by omega)]; rfl
theorem bN_and (f g : Nat → Bool) (n : Nat) : bN f n &&& bN g n = bN (fun i => f i && g i) n := by
  apply Nat.eq_of_testBit_eq
  intro i
  rw [Nat.testBit_and, bN_tb, bN_tb, bN_tb]
  by_cases h : i < n <;> simp [h]
theorem bN_less {f g : Nat → Bool} {n : Nat} (hn : n < 31) : io (bN f n) &&& (io (bN g n) ^^^ m1) = io (bN (fun i => f i && !g i) n) := by
  apply bt_ext
  intro i hi
  rw [bt_and, bt_not hi, bt_io, bt_io, bt_io, bN_tb, bN_tb, bN_tb]
  by_cases h : i < n <;> simp [h, hi]
theorem bN_small (f : Nat → Bool) {n : Nat} (hn : n < 31) : bN f n < 2147483648 := by
  have h := bN_lt f n
  have : 2 ^ n ≤ 2 ^ 30 := Nat.pow_le_pow_right (by decide) (by omega)
  omega
theorem io_bor {f : Nat → Bool} {n : Nat} (hn : n < 31) : io (bN f n) ||| (io 1 <<< (io n &&& io 31)) = io (bN f n + 2 ^ n) := by
  rw [io_shl hn, io_or, bN_or]
/-! how many bits -/
def pop (x : Nat) : Nat := cN x.testBit 8
theorem bitc {x : Nat} (h : x < 256) : f_J6_bitCount_0f7a4 (io x) = io (pop x) := by
  have : ∀ x, x < 256 → f_J6_bitCount_0f7a4 (io x) = io (pop x) := by decide +kernel
  exact this x h
theorem sizc {x : Nat} (h : x < 256) (M : Mem) : f_X11_sizeOf (io x) M = some (io (pop x)) := by
  have : ∀ x, x < 256 → f_X11_sizeOf (io x) (fun _ _ => 0, fun _ _ => 0) = some (io (pop x)) := by decide +kernel
  exact this x h
theorem pop_bN (f : Nat → Bool) {n : Nat} (hn : n ≤ 8) : pop (bN f n) = cN f n := by
  have key : ∀ k m, n + k = m → cN (bN f n).testBit m = cN f n := by
    intro k
    induction k with
    | zero =>
      intro m hm
      have : m = n := by omega
      subst this
      exact cN_congr (fun i hi => by rw [bN_tb]; simp [hi])
    | succ k ih =>
      intro m hm
      have : m = (n + k) + 1 := by omega
      subst this
      show cN (bN f n).testBit (n + k) + _ = _
      rw [ih _ rfl, bN_tb]
      simp
      intro h
      omega
  exact key (8 - n) 8 (by omega)
theorem pop_le (x : Nat) : pop x ≤ 8 := cN_le _ 8
/-! loops -/
theorem up1 {α ρ : Type} {b : (α → Option ρ) → α → Option ρ} (X : Nat → α) (n : Nat) {x : α} {r : Option ρ} (hx : x = X 0) (hn : n < 4096) (hs : ∀ i, i < n → ∀ K, b K (X i) = K (X (i + 1))) (he : ∀ K, b K (X n) = r) : lq1 b FU x = r := by
  have key : ∀ k i, i + k = n → ∀ f, k < f → lq1 b f (X i) = r := by
    intro k
    induction k with
    | zero =>
      intro i hi f hf
      obtain ⟨f, rfl⟩ : ∃ g, f = g + 1 := ⟨f - 1, by omega⟩
      have : i = n := by omega
      subst this
      exact he _
    | succ k ih =>
      intro i hi f hf
      obtain ⟨f, rfl⟩ : ∃ g, f = g + 1 := ⟨f - 1, by omega⟩
      exact (hs i (by omega) _).trans (ih (i + 1) (by omega) f (by omega))
  subst hx
  exact key n 0 (by omega) FU hn
theorem lq2_1 {α β ρ : Type} (b : (α → β → Option ρ) → α → β → Option ρ) : ∀ f x y, lq2 b f x y = lq1 (fun K (q : α × β) => b (fun x y => K (x, y)) q.1 q.2) f (x, y)
  | 0, _, _ => rfl
  | f + 1, x, y => by
    show b (lq2 b f) x y = b (fun x y => lq1 _ f (x, y)) x y
    congr 1
    funext x y
    exact lq2_1 b f x y
theorem lq3_1 {α β γ ρ : Type} (b : (α → β → γ → Option ρ) → α → β → γ → Option ρ) : ∀ f x y z, lq3 b f x y z = lq1 (fun K (q : α × β × γ) => b (fun x y z => K (x, y, z)) q.1 q.2.1 q.2.2) f (x, y, z)
  | 0, _, _, _ => rfl
  | f + 1, x, y, z => by
    show b (lq3 b f) x y z = b (fun x y z => lq1 _ f (x, y, z)) x y z
    congr 1
    funext x y z
    exact lq3_1 b f x y z
theorem lq4_1 {α β γ δ ρ : Type} (b : (α → β → γ → δ → Option ρ) → α → β → γ → δ → Option ρ) : ∀ f x y z w, lq4 b f x y z w = lq1 (fun K (q : α × β × γ × δ) => b (fun x y z w => K (x, y, z, w)) q.1 q.2.1 q.2.2.1 q.2.2.2) f (x, y, z, w)
  | 0, _, _, _, _ => rfl
  | f + 1, x, y, z, w => by
    show b (lq4 b f) x y z w = b (fun x y z w => lq1 _ f (x, y, z, w)) x y z w
    congr 1
    funext x y z w
    exact lq4_1 b f x y z w
theorem up2 {α β ρ : Type} {b : (α → β → Option ρ) → α → β → Option ρ} (X : Nat → α) (Y : Nat → β) (n : Nat) {x : α} {y : β} {r : Option ρ} (hx : x = X 0) (hy : y = Y 0) (hn : n < 4096) (hs : ∀ i, i < n → ∀ K, b K (X i) (Y i) = K (X (i + 1)) (Y (i + 1))) (he : ∀ K, b K (X n) (Y n) = r) : lq2 b FU x y = r := by
  subst hx; subst hy
  rw [lq2_1]
  exact up1 (fun i => (X i, Y i)) n rfl hn (fun i hi K => hs i hi (fun x y => K (x, y))) (fun K => he (fun x y => K (x, y)))
theorem up3 {α β γ ρ : Type} {b : (α → β → γ → Option ρ) → α → β → γ → Option ρ} (X : Nat → α) (Y : Nat → β) (Z : Nat → γ) (n : Nat) {x : α} {y : β} {z : γ} {r : Option ρ} (hx : x = X 0) (hy : y = Y 0) (hz : z = Z 0) (hn : n < 4096) (hs : ∀ i, i < n → ∀ K, b K (X i) (Y i) (Z i) = K (X (i + 1)) (Y (i + 1)) (Z (i + 1))) (he : ∀ K, b K (X n) (Y n) (Z n) = r) : lq3 b FU x y z = r := by
  subst hx; subst hy; subst hz
  rw [lq3_1]
  exact up1 (fun i => (X i, Y i, Z i)) n rfl hn (fun i hi K => hs i hi (fun x y z => K (x, y, z))) (fun K => he (fun x y z => K (x, y, z)))
/-- a loop by an invariant: it leaves by E from a state at which the invariant of n stands -/
theorem in1 {α ρ : Type} {b : (α → Option ρ) → α → Option ρ} (I : Nat → α → Prop) (E : α → Option ρ) (n : Nat) {x : α} (h0 : I 0 x) (hn : n < 4096) (hs : ∀ i x, i < n → I i x → ∃ x', I (i + 1) x' ∧ ∀ K, b K x = K x') (he : ∀ x, I n x → ∀ K, b K x = E x) : ∃ x', I n x' ∧ lq1 b FU x = E x' := by
  have key : ∀ k i x, i + k = n → I i x → ∀ f, k < f → ∃ x', I n x' ∧ lq1 b f x = E x' := by
    intro k
    induction k with
    | zero =>
      intro i x hi h f hf
      obtain ⟨f, rfl⟩ : ∃ g, f = g + 1 := ⟨f - 1, by omega⟩
      have : i = n := by omega
      subst this
      exact ⟨x, h, he x h _⟩
    | succ k ih =>
      intro i x hi h f hf
      obtain ⟨f, rfl⟩ : ∃ g, f = g + 1 := ⟨f - 1, by omega⟩
      obtain ⟨x', h', e⟩ := hs i x (by omega) h
      obtain ⟨x2, h2, e2⟩ := ih (i + 1) x' (by omega) h' f (by omega)
      exact ⟨x2, h2, (e _).trans e2⟩
  exact key n 0 x (by omega) h0 FU hn
theorem in2 {α β ρ : Type} {b : (α → β → Option ρ) → α → β → Option ρ} (I : Nat → α → β → Prop) (E : α → β → Option ρ) (n : Nat) {x : α} {y : β} (h0 : I 0 x y) (hn : n < 4096) (hs : ∀ i x y, i < n → I i x y → ∃ x' y', I (i + 1) x' y' ∧ ∀ K, b K x y = K x' y') (he : ∀ x y, I n x y → ∀ K, b K x y = E x y) : ∃ x' y', I n x' y' ∧ lq2 b FU x y = E x' y' := by
  obtain ⟨q, h, e⟩ := in1 (b := fun K (q : α × β) => b (fun x y => K (x, y)) q.1 q.2) (fun i q => I i q.1 q.2) (fun q => E q.1 q.2) n (x := (x, y)) h0 hn (fun i q hi h => by
    obtain ⟨x', y', h', e⟩ := hs i q.1 q.2 hi h
    exact ⟨(x', y'), h', fun K => e (fun x y => K (x, y))⟩) (fun q h K => he q.1 q.2 h _)
  exact ⟨q.1, q.2, h, by rw [lq2_1]; exact e⟩
theorem in3 {α β γ ρ : Type} {b : (α → β → γ → Option ρ) → α → β → γ → Option ρ} (I : Nat → α → β → γ → Prop) (E : α → β → γ → Option ρ) (n : Nat) {x : α} {y : β} {z : γ} (h0 : I 0 x y z) (hn : n < 4096) (hs : ∀ i x y z, i < n → I i x y z → ∃ x' y' z', I (i + 1) x' y' z' ∧ ∀ K, b K x y z = K x' y' z') (he : ∀ x y z, I n x y z → ∀ K, b K x y z = E x y z) : ∃ x' y' z', I n x' y' z' ∧ lq3 b FU x y z = E x' y' z' := by
  obtain ⟨q, h, e⟩ := in1 (b := fun K (q : α × β × γ) => b (fun x y z => K (x, y, z)) q.1 q.2.1 q.2.2) (fun i q => I i q.1 q.2.1 q.2.2) (fun q => E q.1 q.2.1 q.2.2) n (x := (x, y, z)) h0 hn (fun i q hi h => by
    obtain ⟨x', y', z', h', e⟩ := hs i q.1 q.2.1 q.2.2 hi h
    exact ⟨(x', y', z'), h', fun K => e (fun x y z => K (x, y, z))⟩) (fun q h K => he q.1 q.2.1 q.2.2 h _)
  exact ⟨q.1, q.2.1, q.2.2, h, by rw [lq3_1]; exact e⟩
theorem in4 {α β γ δ ρ : Type} {b : (α → β → γ → δ → Option ρ) → α → β → γ → δ → Option ρ} (I : Nat → α → β → γ → δ → Prop) (E : α → β → γ → δ → Option ρ) (n : Nat) {x : α} {y : β} {z : γ} {w : δ} (h0 : I 0 x y z w) (hn : n < 4096) (hs : ∀ i x y z w, i < n → I i x y z w → ∃ x' y' z' w', I (i + 1) x' y' z' w' ∧ ∀ K, b K x y z w = K x' y' z' w') (he : ∀ x y z w, I n x y z w → ∀ K, b K x y z w = E x y z w) : ∃ x' y' z' w', I n x' y' z' w' ∧ lq4 b FU x y z w = E x' y' z' w' := by
  obtain ⟨q, h, e⟩ := in1 (b := fun K (q : α × β × γ × δ) => b (fun x y z w => K (x, y, z, w)) q.1 q.2.1 q.2.2.1 q.2.2.2) (fun i q => I i q.1 q.2.1 q.2.2.1 q.2.2.2) (fun q => E q.1 q.2.1 q.2.2.1 q.2.2.2) n (x := (x, y, z, w)) h0 hn (fun i q hi h => by
    obtain ⟨x', y', z', w', h', e⟩ := hs i q.1 q.2.1 q.2.2.1 q.2.2.2 hi h
    exact ⟨(x', y', z', w'), h', fun K => e (fun x y z w => K (x, y, z, w))⟩) (fun q h K => he q.1 q.2.1 q.2.2.1 q.2.2.2 h _)
  exact ⟨q.1, q.2.1, q.2.2.1, q.2.2.2, h, by rw [lq4_1]; exact e⟩
/-- the same of many loops side by side: they leave from one state -/
theorem in1k {κ α ρ : Type} {b : κ → (α → Option ρ) → α → Option ρ} (I : Nat → α → Prop) (E : κ → α → Option ρ) (n : Nat) {x : α} (h0 : I 0 x) (hn : n < 4096) (hs : ∀ i x, i < n → I i x → ∃ x', I (i + 1) x' ∧ ∀ k K, b k K x = K x') (he : ∀ x, I n x → ∀ k K, b k K x = E k x) : ∃ x', I n x' ∧ ∀ k, lq1 (b k) FU x = E k x' := by
  have key : ∀ k i x, i + k = n → I i x → ∀ f, k < f → ∃ x', I n x' ∧ ∀ q, lq1 (b q) f x = E q x' := by
    intro k
    induction k with
    | zero =>
      intro i x hi h f hf
      obtain ⟨f, rfl⟩ : ∃ g, f = g + 1 := ⟨f - 1, by omega⟩
      have : i = n := by omega
      subst this
      exact ⟨x, h, fun q => he x h q _⟩
    | succ k ih =>
      intro i x hi h f hf
      obtain ⟨f, rfl⟩ : ∃ g, f = g + 1 := ⟨f - 1, by omega⟩
      obtain ⟨x', h', e⟩ := hs i x (by omega) h
      obtain ⟨x2, h2, e2⟩ := ih (i + 1) x' (by omega) h' f (by omega)
      exact ⟨x2, h2, fun q => (e q _).trans (e2 q)⟩
  exact key n 0 x (by omega) h0 FU hn
theorem in2k {κ α β ρ : Type} {b : κ → (α → β → Option ρ) → α → β → Option ρ} (I : Nat → α → β → Prop) (E : κ → α → β → Option ρ) (n : Nat) {x : α} {y : β} (h0 : I 0 x y) (hn : n < 4096) (hs : ∀ i x y, i < n → I i x y → ∃ x' y', I (i + 1) x' y' ∧ ∀ k K, b k K x y = K x' y') (he : ∀ x y, I n x y → ∀ k K, b k K x y = E k x y) : ∃ x' y', I n x' y' ∧ ∀ k, lq2 (b k) FU x y = E k x' y' := by
  obtain ⟨q, h, e⟩ := in1k (b := fun k K (q : α × β) => b k (fun x y => K (x, y)) q.1 q.2) (fun i q => I i q.1 q.2) (fun k q => E k q.1 q.2) n (x := (x, y)) h0 hn (fun i q hi h => by
    obtain ⟨x', y', h', e⟩ := hs i q.1 q.2 hi h
    exact ⟨(x', y'), h', fun k K => e k (fun x y => K (x, y))⟩) (fun q h k K => he q.1 q.2 h k _)
  exact ⟨q.1, q.2, h, fun k => by rw [lq2_1]; exact e k⟩
theorem in3k {κ α β γ ρ : Type} {b : κ → (α → β → γ → Option ρ) → α → β → γ → Option ρ} (I : Nat → α → β → γ → Prop) (E : κ → α → β → γ → Option ρ) (n : Nat) {x : α} {y : β} {z : γ} (h0 : I 0 x y z) (hn : n < 4096) (hs : ∀ i x y z, i < n → I i x y z → ∃ x' y' z', I (i + 1) x' y' z' ∧ ∀ k K, b k K x y z = K x' y' z') (he : ∀ x y z, I n x y z → ∀ k K, b k K x y z = E k x y z) : ∃ x' y' z', I n x' y' z' ∧ ∀ k, lq3 (b k) FU x y z = E k x' y' z' := by
  obtain ⟨q, h, e⟩ := in1k (b := fun k K (q : α × β × γ) => b k (fun x y z => K (x, y, z)) q.1 q.2.1 q.2.2) (fun i q => I i q.1 q.2.1 q.2.2) (fun k q => E k q.1 q.2.1 q.2.2) n (x := (x, y, z)) h0 hn (fun i q hi h => by
    obtain ⟨x', y', z', h', e⟩ := hs i q.1 q.2.1 q.2.2 hi h
    exact ⟨(x', y', z'), h', fun k K => e k (fun x y z => K (x, y, z))⟩) (fun q h k K => he q.1 q.2.1 q.2.2 h k _)
  exact ⟨q.1, q.2.1, q.2.2, h, fun k => by rw [lq3_1]; exact e k⟩
theorem in4k {κ α β γ δ ρ : Type} {b : κ → (α → β → γ → δ → Option ρ) → α → β → γ → δ → Option ρ} (I : Nat → α → β → γ → δ → Prop) (E : κ → α → β → γ → δ → Option ρ) (n : Nat) {x : α} {y : β} {z : γ} {w : δ} (h0 : I 0 x y z w) (hn : n < 4096) (hs : ∀ i x y z w, i < n → I i x y z w → ∃ x' y' z' w', I (i + 1) x' y' z' w' ∧ ∀ k K, b k K x y z w = K x' y' z' w') (he : ∀ x y z w, I n x y z w → ∀ k K, b k K x y z w = E k x y z w) : ∃ x' y' z' w', I n x' y' z' w' ∧ ∀ k, lq4 (b k) FU x y z w = E k x' y' z' w' := by
  obtain ⟨q, h, e⟩ := in1k (b := fun k K (q : α × β × γ × δ) => b k (fun x y z w => K (x, y, z, w)) q.1 q.2.1 q.2.2.1 q.2.2.2) (fun i q => I i q.1 q.2.1 q.2.2.1 q.2.2.2) (fun k q => E k q.1 q.2.1 q.2.2.1 q.2.2.2) n (x := (x, y, z, w)) h0 hn (fun i q hi h => by
    obtain ⟨x', y', z', w', h', e⟩ := hs i q.1 q.2.1 q.2.2.1 q.2.2.2 hi h
    exact ⟨(x', y', z', w'), h', fun k K => e k (fun x y z w => K (x, y, z, w))⟩) (fun q h k K => he q.1 q.2.1 q.2.2.1 q.2.2.2 h k _)
  exact ⟨q.1, q.2.1, q.2.2.1, q.2.2.2, h, fun k => by rw [lq4_1]; exact e k⟩
/-- the first place below n, if there is one -/
theorem first_or (P : Nat → Prop) (n : Nat) : (∀ i, i < n → ¬ P i) ∨ ∃ m, m < n ∧ P m ∧ ∀ i, i < m → ¬ P i := by
  induction n with
  | zero => exact Or.inl (fun i hi => absurd hi (Nat.not_lt_zero _))
  | succ n ih =>
    rcases ih with h | ⟨m, h1, h2, h3⟩
    · by_cases hp : P n
      · exact Or.inr ⟨n, by omega, hp, h⟩
      · refine Or.inl (fun i hi => ?_)
        by_cases hi2 : i = n
        · subst hi2; exact hp
        · exact h i (by omega)
    · exact Or.inr ⟨m, by omega, h2, h3⟩
