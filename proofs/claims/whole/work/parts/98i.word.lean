/-! WHAT A WORD SPELLS, on both sides -/
def nv (d : Nat → Nat) : Nat → Nat
  | 0 => 0
  | j + 1 => 27 * nv d j + d j
theorem nv_inj {d e : Nat → Nat} : ∀ l m, (∀ i, i < l → 1 ≤ d i ∧ d i ≤ 26) → (∀ i, i < m → 1 ≤ e i ∧ e i ≤ 26) → nv d l = nv e m → l = m ∧ ∀ i, i < l → d i = e i
  | 0, 0, _, _, _ => ⟨rfl, fun i hi => absurd hi (Nat.not_lt_zero _)⟩
  | 0, m + 1, _, he, h => by
    have h1 := he m (by omega)
    simp only [nv] at h
    omega
  | l + 1, 0, hd, _, h => by
    have h1 := hd l (by omega)
    simp only [nv] at h
    omega
  | l + 1, m + 1, hd, he, h => by
    have h1 := hd l (by omega)
    have h2 := he m (by omega)
    simp only [nv] at h
    obtain ⟨r1, r2⟩ := nv_inj l m (fun i hi => hd i (by omega)) (fun i hi => he i (by omega)) (by omega)
    subst r1
    refine ⟨rfl, fun i hi => ?_⟩
    by_cases c : i = l
    · subst c; omega
    · exact r2 i (by omega)
theorem nv_lt {d : Nat → Nat} : ∀ l, (∀ i, i < l → d i ≤ 26) → nv d l < 27 ^ l
  | 0, _ => by simp [nv]
  | l + 1, h => by
    have h1 := h l (by omega)
    have h2 := nv_lt (d := d) l (fun i hi => h i (by omega))
    simp only [nv, Nat.pow_succ]
    omega
theorem nv_congr {d e : Nat → Nat} : ∀ l, (∀ i, i < l → d i = e i) → nv d l = nv e l
  | 0, _ => rfl
  | l + 1, h => by
    simp only [nv]
    rw [nv_congr l (fun i hi => h i (by omega)), h l (by omega)]
def lt26 (x : Int32) : Nat := x.toInt.toNat - 96
theorem lt_of {x : Int32} (h : isW x) : (1 ≤ lt26 x ∧ lt26 x ≤ 26) ∧ x = io (96 + lt26 x) := by
  have h1 := Int32.le_iff_toInt_le.mp h.1
  have h2 := Int32.le_iff_toInt_le.mp h.2
  have e1 : (97 : Int32).toInt = 97 := rfl
  have e2 : (122 : Int32).toInt = 122 := rfl
  unfold lt26
  refine ⟨by omega, ?_⟩
  rw [← Int32.toInt_inj, io_toInt (by omega)]
  omega
theorem io_lo {k : Nat} (h : k < 2147483648) : (io k).toInt64 = lo k := by
  rw [← Int64.toInt_inj, Int32.toInt_toInt64, io_toInt h, loT (by omega) (by omega)]
theorem cd_nv {t : Nat → Int32} {a : Nat} : ∀ l, (∀ i, i < l → isW (t (a + i))) → cd t a l = lo (nv (fun i => lt26 (t (a + i))) l)
  | 0, _ => rfl
  | l + 1, h => by
    have h1 := lt_of (h l (by omega))
    have ih := cd_nv (t := t) (a := a) l (fun i hi => h i (by omega))
    have e1 : (t (a + l)).toInt64 = lo (96 + lt26 (t (a + l)) : Nat) := by
      have := io_lo (k := 96 + lt26 (t (a + l))) (by omega)
      rw [← h1.2] at this
      exact this
    simp only [cd, nv]
    rw [ih, e1, show (27 : Int64) = lo 27 from rfl, show (96 : Int64) = lo 96 from rfl]
    show Int64.ofInt _ * Int64.ofInt _ + Int64.ofInt _ - Int64.ofInt _ = Int64.ofInt _
    rw [← Int64.ofInt_mul, ← Int64.ofInt_add, ← Int64.ofInt_sub]
    congr 1
    omega
def wby (w i : Nat) : Int32 := (bytW.getD w []).getD i 0
def wl (w : Nat) : Nat := lenW.getD w 0
def wn (w : Nat) : Nat := [240075, 10495135, 8798, 298288, 315743, 14006, 523076, 8683934, 161156, 10792937, 1162531, 47].getD w 0
theorem words : ∀ w, w < 12 → (1 ≤ wl w ∧ wl w ≤ 5) ∧ (∀ i, i < wl w → isW (wby w i)) ∧ nv (fun i => lt26 (wby w i)) (wl w) = wn w ∧ wn w < 20000000 := by decide +kernel
def isw (t : Nat → Int32) (a l w : Nat) : Prop := l = wl w ∧ ∀ i, i < l → t (a + i) = wby w i
theorem wc_iff {t : Nat → Int32} {a l w : Nat} (hw : w < 12) (h : ∀ i, i < l → isW (t (a + i))) : wc t a l = lo (wn w) ↔ isw t a l w := by
  obtain ⟨w1, w2, w3, w4⟩ := words w hw
  unfold wc isw
  by_cases c : l ≤ 12
  · rw [if_pos c, cd_nv l h]
    have hlt := nv_lt (d := fun i => lt26 (t (a + i))) l (fun i hi => (lt_of (h i hi)).1.2)
    have hp : 27 ^ l ≤ 27 ^ 12 := Nat.pow_le_pow_right (by decide) c
    have h12 : 27 ^ 12 = 150094635296999121 := by decide
    constructor
    · intro q
      have q2 := congrArg Int64.toInt q
      rw [loT (by omega) (by omega), loT (by omega) (by omega)] at q2
      obtain ⟨r1, r2⟩ := nv_inj (d := fun i => lt26 (t (a + i))) (e := fun i => lt26 (wby w i)) l (wl w) (fun i hi => (lt_of (h i hi)).1) (fun i hi => (lt_of (w2 i hi)).1) (by omega)
      refine ⟨r1, fun i hi => ?_⟩
      have e1 := (lt_of (h i hi)).2
      have e2 := (lt_of (w2 i (by omega))).2
      rw [e1, e2]
      exact congrArg (fun k => io (96 + k)) (r2 i hi)
    · rintro ⟨r1, r2⟩
      rw [← w3, ← r1, nv_congr (d := fun i => lt26 (t (a + i))) (e := fun i => lt26 (wby w i)) l (fun i hi => congrArg lt26 (r2 i hi))]
  · rw [if_neg c]
    refine iff_of_false (fun q => ?_) (fun q => by omega)
    have q2 := congrArg Int64.toInt q
    rw [loT (by omega) (by omega)] at q2
    have : ((-1 : Int64)).toInt = -1 := rfl
    omega
/-- the class's question -/
theorem isWordC {n a l w : Nat} {t : Nat → Int32} {M : Mem} (hn : n ≤ 600) (hT : TxC n t M) (hw : w < 12) (h1 : M.1 6 1 = io 1) (h2 : M.1 6 2 = io a) (h3 : M.1 6 3 = io (a + l)) (hl : a + l ≤ n) : (isw t a l w ∧ f_X6_isWord w M = some 1) ∨ (¬ isw t a l w ∧ f_X6_isWord w M = some 0) := by
  obtain ⟨w1, w2, w3, w4⟩ := words w hw
  unfold f_X6_isWord f_J0_length_8abf5
  rw [h1, h2, h3, io_sub (by omega), show a + l - a = l by omega, if_pos (show io 1 = (1 : Int32) from rfl), show Int32.ofNat (lenW.getD w 0) = io (wl w) from rfl]
  by_cases c : l = wl w
  · rw [if_pos (by rw [c])]
    have step : ∀ i (K : Int32 → Option Int32), i < l → t (a + i) = wby w i → L_X6_isWord_28 w M K (io i) = K (io (i + 1)) := fun i K hi e => by
      unfold L_X6_isWord_28 f_J0_length_8abf5 f_J0_charAt_5068e
      rw [show Int32.ofNat (lenW.getD w 0) = io (wl w) from rfl, show lenW.getD w 0 = wl w from rfl, if_neg (by rw [io_le (by omega) (by omega)]; omega), h2, io_add, byteC hn hT (by omega), bnd_s, oob_f (by omega) (by omega), ix_io (by omega)]
      simp only [Bool.false_eq_true, if_false]
      rw [bnd_s, if_pos (show t (a + i) = (bytW.getD w []).getD i 0 from e)]
      exact congrArg K (io_add i 1)
    rcases first_or (fun i => t (a + i) ≠ wby w i) l with q | ⟨m, hm, q1, q2⟩
    · have hall : ∀ i, i < l → t (a + i) = wby w i := fun i hi => Classical.byContradiction (fun u => q i hi u)
      refine Or.inl ⟨⟨c, hall⟩, ?_⟩
      refine up1 (b := L_X6_isWord_28 w M) (fun i => io i) l rfl (by omega) (fun i hi K => step i K hi (hall i hi)) (fun K => ?_)
      unfold L_X6_isWord_28 f_J0_length_8abf5
      rw [show Int32.ofNat (lenW.getD w 0) = io (wl w) from rfl, if_pos (by rw [io_le (by omega) (by omega)]; omega)]
    · refine Or.inr ⟨fun u => q1 (u.2 m hm), ?_⟩
      refine up1 (b := L_X6_isWord_28 w M) (fun i => io i) m rfl (by omega) (fun i hi K => step i K (by omega) (Classical.byContradiction (fun u => q2 i hi u))) (fun K => ?_)
      unfold L_X6_isWord_28 f_J0_length_8abf5 f_J0_charAt_5068e
      rw [show Int32.ofNat (lenW.getD w 0) = io (wl w) from rfl, show lenW.getD w 0 = wl w from rfl, if_neg (by rw [io_le (by omega) (by omega)]; omega), h2, io_add, byteC hn hT (by omega), bnd_s, oob_f (by omega) (by omega), ix_io (by omega)]
      simp only [Bool.false_eq_true, if_false]
      rw [bnd_s, if_neg (show ¬ t (a + m) = (bytW.getD w []).getD m 0 from q1)]
  · rw [if_neg (fun q => c ((io_inj (by omega) (by omega)).mp q))]
    exact Or.inr ⟨fun u => c u.1, rfl⟩
theorem isWordC0 {w : Nat} {M : Mem} (h1 : M.1 6 1 ≠ io 1) : f_X6_isWord w M = some 0 := by
  unfold f_X6_isWord
  rw [if_neg (show ¬ M.1 6 1 = 1 from h1)]
/-- the reference's -/
theorem isR {a l w : Nat} {t : Nat → Int32} {M : Mem} (hw : w < 12) (h0 : M.1 0 12 = io 0) (h1 : M.1 0 8 = io 1) (h : ∀ i, i < l → isW (t (a + i))) (h2 : M.2 0 11 = wc t a l) : (isw t a l w ∧ f_X11_is (lo (wn w)) M = 1) ∨ (¬ isw t a l w ∧ f_X11_is (lo (wn w)) M = 0) := by
  unfold f_X11_is
  rw [h0, h1, h2, if_pos (show io 0 = (0 : Int32) from rfl), if_pos (show io 1 = (1 : Int32) from rfl)]
  by_cases c : wc t a l = lo (wn w)
  · rw [if_pos ((lg_cmp_eq _ _).mpr c)]
    exact Or.inl ⟨(wc_iff hw h).mp c, rfl⟩
  · rw [if_neg (fun q => c ((lg_cmp_eq _ _).mp q))]
    exact Or.inr ⟨fun q => c ((wc_iff hw h).mpr q), rfl⟩
theorem isR0 {v : Int64} {M : Mem} (h : M.1 0 12 ≠ io 0 ∨ M.1 0 8 ≠ io 1) : f_X11_is v M = 0 := by
  unfold f_X11_is
  by_cases c : M.1 0 12 = 0
  · rw [if_pos c, if_neg (show ¬ M.1 0 8 = 1 from fun q => h.elim (fun u => u c) (fun u => u q))]
  · rw [if_neg c]
/-- a number's value as the class reads it -/
theorem tokNum {n a l : Nat} {t : Nat → Int32} {M : Mem} (hn : n ≤ 600) (hT : TxC n t M) (h2 : M.1 6 2 = io a) (h3 : M.1 6 3 = io (a + l)) (hl : a + l ≤ n) (hd : ∀ i, i < l → isD (t (a + i))) : f_X6_tokenNumber M = some (io (min (nm t a l) 601)) := by
  unfold f_X6_tokenNumber
  rw [letv_eq, h2]
  refine up2 (b := L_X6_tokenNumber_7 M) (fun i => io (min (nm t a i) 601)) (fun i => io (a + i)) l rfl rfl (by omega) (fun i hi K => ?_) (fun K => ?_)
  · obtain ⟨d1, d2⟩ := dg_le (hd i hi)
    have hnm := nm_le i (fun j hj => hd j (by omega))
    unfold L_X6_tokenNumber_7
    rw [h3, if_neg (by rw [io_le (by omega) (by omega)]; omega), byteC hn hT (by omega), bnd_s, letv_eq, show io (a + i) + (1 : Int32) = io (a + (i + 1)) from io_add _ 1]
    have ev : io (min (nm t a i) 601) * (10 : Int32) + t (a + i) - 48 = io (min (nm t a i) 601 * 10 + dg (t (a + i))) := by
      rw [d2, show (10 : Int32) = io 10 from rfl, show (48 : Int32) = io 48 from rfl, io_mul, io_add, io_sub (by omega), ← d2]
      congr 1
      omega
    rw [ev]
    have em : f_min (io (min (nm t a i) 601 * 10 + dg (t (a + i)))) 601 = io (min (nm t a (i + 1)) 601) := by
      unfold f_min
      have e2 : min (nm t a (i + 1)) 601 = min (min (nm t a i) 601 * 10 + dg (t (a + i))) 601 := by
        simp only [nm]
        split <;> omega
      rw [e2]
      by_cases c : 601 < min (nm t a i) 601 * 10 + dg (t (a + i))
      · rw [if_pos (show (601 : Int32) < _ from (io_lt (a := 601) (by omega) (by omega)).mpr c), Nat.min_eq_right (by omega)]
        rfl
      · rw [if_neg (show ¬ (601 : Int32) < _ from fun q => c ((io_lt (a := 601) (by omega) (by omega)).mp q)), Nat.min_eq_left (show min (nm t a i) 601 * 10 + dg (t (a + i)) ≤ 601 by omega)]
    rw [em]
  · unfold L_X6_tokenNumber_7
    rw [h3, if_pos (by rw [io_le (by omega) (by omega)]; omega)]
