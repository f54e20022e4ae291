/-! CHANCE and MEAN -/
def upP (c : Cf) (s p : Nat) : Bool := decide ((run c s p).2.2.2.2.1 = none)
theorem crack_late {c : Cf} {s p : Nat} (h : (run c s p).2.2.2.2.1 = none) : ∀ k n, (run c (s + k) p).2.2.2.2.1 = some n → s < n
  | 0, n, e => by rw [Nat.add_zero, h] at e; exact absurd e (by simp)
  | k + 1, n, e => by
    have ih := crack_late h k
    have e' : (adv c (s + k) (run c (s + k)) p).2.2.2.2.1 = some n := e
    unfold adv at e'
    split at e'
    · exact ih n e'
    · rename_i hn
      have hq : (run c (s + k) p).2.2.2.2.1 = none := Classical.byContradiction (fun q => hn (Or.inr (Or.inr q)))
      have hf : ∀ (k2 r : Nat) (fz sx : Option Nat), (fin c (s + k) p k2 r (run c (s + k) p) fz sx).2.2.2.2.1 = some n → s < n := by
        intro k2 r fz sx w
        unfold fin at w
        split at w
        · have := Option.some.inj w; omega
        · split at w
          · have := Option.some.inj w; omega
          · rw [show (k2, r, fz, sx, (run c (s + k) p).2.2.2.2.1, (run c (s + k) p).2.2.2.2.2).2.2.2.2.1 = (run c (s + k) p).2.2.2.2.1 from rfl, hq] at w
            exact absurd w (by simp)
      unfold mid at e'
      split at e'
      · exact hf _ _ _ _ e'
      · exact hf _ _ _ _ e'
/-- by the step s, seen from the end -/
theorem upT' {c : Cf} (hok : OkC c) {s p : Nat} (hp : p < c.1 7) (hs : s ≤ c.1 1) {y : Int32} (hy : y = oi (run c (c.1 1) p).2.2.2.2.1) : (y = -1 ∨ ¬ y ≤ io s) ↔ upP c s p = true := by
  have h14 := hok.1
  have hk := (run_ok hok (c.1 1) p hp).2.2.1
  have hks := (run_ok hok s p hp).2.2.1
  unfold upP
  rw [decide_eq_true_iff]
  obtain ⟨k, hkk⟩ : ∃ k, c.1 1 = s + k := ⟨c.1 1 - s, by omega⟩
  cases e : (run c s p).2.2.2.2.1 with
  | some n =>
    have hst := run_stay (c := c) (s := s) (p := p) (by rw [e]; simp) k
    rw [← hkk] at hst
    rw [hst, e] at hy
    have hn := hks n e
    have h1 : ¬ y = -1 := by rw [hy]; exact fun q => (io_m1 (a := n) (by omega)).mp q
    have h2 : y ≤ io s := by rw [hy]; exact (io_le (a := n) (by omega) (by omega)).mpr hn
    exact iff_of_false (fun q => q.elim h1 (fun w => w h2)) (by simp)
  | none =>
    refine iff_of_true ?_ rfl
    cases e2 : (run c (c.1 1) p).2.2.2.2.1 with
    | none => rw [e2] at hy; exact Or.inl hy
    | some n =>
      have hl := crack_late e k n (by rw [← hkk]; exact e2)
      have hn := hk n e2
      rw [e2] at hy
      exact Or.inr (fun q => by rw [hy] at q; have := (io_le (a := n) (by omega) (by omega)).mp q; omega)
def chP (o d : Nat) : Nat → Nat
  | 0 => 1
  | i + 1 => chP o d i * (if d.testBit i = true then o else 10 - o)
theorem chP_le {o d : Nat} (ho : o ≤ 10) : ∀ i, chP o d i ≤ 10 ^ i
  | 0 => Nat.le_refl _
  | i + 1 => by
    have ih := chP_le (d := d) ho i
    simp only [chP]
    rw [Nat.pow_succ]
    exact Nat.mul_le_mul ih (by split <;> omega)
theorem chP_pow {o d : Nat} : ∀ i, chP o d i = o ^ cN d.testBit i * (10 - o) ^ (i - cN d.testBit i)
  | 0 => by simp [chP, cN]
  | i + 1 => by
    have ih := chP_pow (o := o) (d := d) i
    have hl := cN_le d.testBit i
    simp only [chP, cN]
    rw [ih]
    by_cases c : d.testBit i = true
    · rw [if_pos c, if_pos c, Nat.pow_succ, show i + 1 - (cN d.testBit i + 1) = i - cN d.testBit i by omega, Nat.mul_right_comm]
    · rw [if_neg c, if_neg c, Nat.add_zero, show i + 1 - cN d.testBit i = (i - cN d.testBit i) + 1 by omega, Nat.pow_succ, Nat.mul_assoc]
theorem p10 : ∀ s, s ≤ 8 → 1 ≤ 10 ^ s ∧ 10 ^ s ≤ 100000000 := by decide
theorem pop_s {d s : Nat} (hs : s ≤ 8) (hd : d < 2 ^ s) : pop d = cN d.testBit s := by
  have e : d = bN d.testBit s := by
    apply Nat.eq_of_testBit_eq
    intro i
    rw [bN_tb]
    by_cases h : i < s
    · rw [decide_eq_true h]; rfl
    · rw [decide_eq_false h, Nat.testBit_lt_two_pow (Nat.lt_of_lt_of_le hd (Nat.pow_le_pow_right (by decide) (by omega)))]; rfl
  conv => lhs; rw [e]
  exact pop_bN _ hs
theorem powerR {a : Nat} (ha : a ≤ 10) : ∀ n k, k < n → k ≤ 8 → fr_X11_power n (lo (a : Int)) (io k) = some (lo ((a ^ k : Nat) : Int))
  | 0, k, h, _ => absurd h (Nat.not_lt_zero _)
  | n + 1, k, h, h8 => by
    simp only [fr_X11_power]
    by_cases c : k = 0
    · subst c
      rw [if_pos (show io 0 = (0 : Int32) from rfl)]; rfl
    · obtain ⟨j, rfl⟩ : ∃ j, k = j + 1 := ⟨k - 1, by omega⟩
      rw [if_neg (show ¬ io (j + 1) = (0 : Int32) from fun q => by have := (io_inj (b := 0) (by omega) (by omega)).mp q; omega), show (1 : Int32) = io 1 from rfl, io_sub (by omega), show j + 1 - 1 = j by omega, powerR ha n j (by omega) (by omega), bnd_s, ← Int64.ofInt_mul, ← Int.natCast_mul, Nat.pow_succ, Nat.mul_comm (a ^ j) a]
theorem weightC {L : Lh} {M : Mem} (hL : OkL L) (hC : RpC 14 L M) {d s : Nat} (hd : d < 2147483648) (hs : s ≤ 8) : f_X4_weightOf (io d) (io s) M = some (lo (chP (L.1 3) d s : Int)) := by
  have g := hL.2.2.1
  have h3 : M.1 14 3 = io (L.1 3) := hC.1 3 (by omega)
  unfold f_X4_weightOf
  obtain ⟨r, rfl, hq⟩ := in2x (b := L_X4_weightOf_5 (io d) (io s) M) (fun i x y => x = lo (chP (L.1 3) d i : Int) ∧ y = io i) (fun r => r = lo (chP (L.1 3) d s : Int)) s (x := 1) (y := 0) ⟨rfl, rfl⟩ (by omega) (fun i x y hi h => by
    obtain ⟨rfl, rfl⟩ := h
    refine ⟨lo (chP (L.1 3) d (i + 1) : Int), io (i + 1), ⟨rfl, rfl⟩, fun K => ?_⟩
    unfold L_X4_weightOf_5 J_X4_weightOf_32
    rw [if_neg (by rw [io_le (by omega) (by omega)]; omega), if_neg (show ¬ (14 : Int32) ≤ io i from fun q => by have := (io_le (a := 14) (by omega) (by omega)).mp q; omega), show (io d >>> (io i &&& 31)) &&& (1 : Int32) = io (if d.testBit i then 1 else 0) from io_shr hd (by omega), h3, show io i + (1 : Int32) = io (i + 1) from io_add i 1]
    simp only [chP, letv_eq]
    by_cases c : d.testBit i = true
    · rw [if_pos c, if_pos c, if_neg (show ¬ io 1 = (0 : Int32) by decide), if_neg (show ¬ (1 : Int32) = 0 by decide), io64 (by omega), ← Int64.ofInt_mul, Int.natCast_mul]
    · rw [if_neg c, if_neg c, if_pos (show io 0 = (0 : Int32) from rfl), if_pos trivial, show (10 : Int32) = io 10 from rfl, io_sub (by omega), io64 (by omega), ← Int64.ofInt_mul, Int.natCast_mul]) (fun x y h => by
    obtain ⟨rfl, rfl⟩ := h
    refine ⟨_, rfl, fun K => ?_⟩
    unfold L_X4_weightOf_5
    rw [if_pos (by rw [io_le (by omega) (by omega)]; omega)])
  exact hq
def chC (L : Lh) (s mask d : Nat) : Nat := cN (fun p => upP (drF L d) s p && mask.testBit p) (L.1 7)
def chS (L : Lh) (s mask : Nat) : Nat → Nat
  | 0 => 0
  | d + 1 => chS L s mask d + chP (L.1 3) d s * chC L s mask d
theorem chS_le {L : Lh} (hL : OkL L) {s mask : Nat} (hs : s ≤ 8) : ∀ n, chS L s mask n ≤ n * 600000000
  | 0 => by simp [chS]
  | n + 1 => by
    have ih := chS_le (mask := mask) hL hs n
    have g := hL.2.2.1
    have h1 := chP_le (o := L.1 3) (d := n) (by omega) s
    have h2 := (p10 s hs).2
    have h3 : chC L s mask n ≤ 6 := Nat.le_trans (cN_le _ _) (by omega)
    have h4 : chP (L.1 3) n s * chC L s mask n ≤ 100000000 * 6 := Nat.mul_le_mul (by omega) h3
    simp only [chS, Nat.succ_mul]
    omega
theorem bN_mask (f : Nat → Bool) (n mask : Nat) : bN f n &&& mask = bN (fun p => f p && mask.testBit p) n := by
  apply Nat.eq_of_testBit_eq
  intro i
  rw [Nat.testBit_and, bN_tb, bN_tb, Bool.and_assoc]
theorem meanC {L : Lh} {M : Mem} {s mask : Nat} (hL : OkL L) (h0 : 0 < L.1 0) (hC : RpC 14 L M) (hs0 : 1 ≤ s) (hs : s ≤ 8) (hsT : s ≤ L.1 1) (hm : mask < 64) {w : Int32 → Int64} (hw : ∀ o M, ∃ M', f_X3_put o (lo (chS L s mask (2 ^ s) : Int)) (lo ((10 ^ s : Nat) : Int)) M = some M' ∧ M'.1 = M.1 ∧ (∀ a, a ≠ o → M'.2 a = M.2 a) ∧ ∀ p, f_X3_part o p M' = w p) : ∃ M', f_X4_meanUncracked (io mask) (io s) M = some M' ∧ (∀ p, f_X3_part 58 p M' = w p) ∧ KC M M' := by
  have g := hL.2.2.1
  have hp : 2 ^ s ≤ 256 := Nat.le_trans (Nat.pow_le_pow_right (by decide) hs) (by decide)
  unfold f_X4_meanUncracked
  obtain ⟨r, r1, hq⟩ := in3x (b := L_X4_meanUncracked_8 (io mask) (io s) 0) (fun i x y M2 => x = lo ((10 ^ i : Nat) : Int) ∧ y = io i ∧ M2 = M) (fun M' => (∀ p, f_X3_part 58 p M' = w p) ∧ KC M M') s (x := 1) (y := 0) (z := M) ⟨rfl, rfl, rfl⟩ (by omega) (fun i x y M2 hi h => by
    obtain ⟨rfl, rfl, rfl⟩ := h
    refine ⟨lo ((10 ^ (i + 1) : Nat) : Int), io (i + 1), M2, ⟨rfl, rfl, rfl⟩, fun K => ?_⟩
    unfold L_X4_meanUncracked_8
    rw [if_neg (by rw [io_le (by omega) (by omega)]; omega), if_neg (show ¬ (14 : Int32) ≤ io i from fun q => by have := (io_le (a := 14) (by omega) (by omega)).mp q; omega), letv_eq, show (10 : Int64) = lo ((10 : Nat) : Int) from rfl, ← Int64.ofInt_mul, ← Int.natCast_mul, show io i + (1 : Int32) = io (i + 1) from io_add i 1, Nat.pow_succ]) (fun x y M2 h => by
    obtain ⟨rfl, rfl, rfl⟩ := h
    obtain ⟨r, r1, hq⟩ := in3x (b := L_X4_meanUncracked_38 (io mask) (io s) (lo ((10 ^ s : Nat) : Int))) (fun d x y M3 => x = lo (chS L s mask d : Int) ∧ y = io d ∧ KC M2 M3) (fun M' => (∀ p, f_X3_part 58 p M' = w p) ∧ KC M2 M') (2 ^ s) (x := 0) (y := 0) (z := M2) ⟨rfl, rfl, KC.refl⟩ (by omega) (fun d x y M3 hd h => by
      obtain ⟨rfl, rfl, k3⟩ := h
      have hC3 := hC.kc k3 (by omega)
      have e1 : io d + (1 : Int32) = io (d + 1) := io_add d 1
      have hcp := chP_le (o := L.1 3) (d := d) (by omega) s
      have h10 := (p10 s hs).2
      have hmin : f_min (io s) 14 = io s := by
        unfold f_min
        exact if_neg (fun q => by have := (io_lt (a := 14) (by omega) (by omega)).mp q; omega)
      by_cases c : chP (L.1 3) d s = 0
      · refine ⟨lo (chS L s mask (d + 1) : Int), io (d + 1), M3, ⟨rfl, rfl, k3⟩, fun K => ?_⟩
        unfold L_X4_meanUncracked_38
        rw [hmin, show (1 : Int32) <<< (io s &&& 31) = io (2 ^ s) from io_shl (by omega), if_neg (by rw [io_le (by omega) (by omega)]; omega), weightC hL hC3 (by omega) hs, bnd_s, c, if_pos (show lg_cmp (lo ((0 : Nat) : Int)) 0 ≤ 0 by decide), e1]
        simp only [chS]
        rw [c, Nat.zero_mul]; rfl
      · obtain ⟨M4, e4, hT, k4⟩ := draw59 (d := d) (u := s) (pw := mask) hL h0 hC3 (by omega) (by omega) hm
        rw [show min s 14 = s by omega] at hT
        refine ⟨lo (chS L s mask (d + 1) : Int), io (d + 1), M4, ⟨rfl, rfl, k3.trans k4⟩, fun K => ?_⟩
        unfold L_X4_meanUncracked_38
        rw [hmin, show (1 : Int32) <<< (io s &&& 31) = io (2 ^ s) from io_shl (by omega), if_neg (by rw [io_le (by omega) (by omega)]; omega), weightC hL hC3 (by omega) hs, bnd_s, if_neg (fun q => by
          have := Int64.le_iff_toInt_le.mp ((lg_cmp_le _ _).mp q)
          rw [loT (by omega) (by omega), show (0 : Int64).toInt = 0 from rfl] at this
          omega), e4, bnd_s, uncrC (P := 14) (o := 59) (K6 := 63) rc_59.2.1 rc_59.2.2.2.2.2.1 (n := L.1 7) (by omega) ((hC3.kc k4 (by omega)).1 7 (by omega)), bnd_s, io_and, bN_mask]
        have hcnt : bN (fun p => (decide (M4.1 63 p = m1) || !decide (M4.1 63 p ≤ io s)) && mask.testBit p) (L.1 7) = bN (fun p => upP (drF L d) s p && mask.testBit p) (L.1 7) := by
          refine bN_congr (fun p hp => ?_)
          by_cases hb : mask.testBit p = true
          · have hx := (hT p hp (Or.inr hb)).2.2.1
            have hks := (run_ok ((Lk.dr hL h0 (show d < 16384 by omega)).ok hL) s p hp).2.2.1
            have : (decide (M4.1 63 p = m1) || !decide (M4.1 63 p ≤ io s)) = upP (drF L d) s p := by
              rw [hx]
              show _ = decide ((run (drF L d) s p).2.2.2.2.1 = none)
              cases e : (run (drF L d) s p).2.2.2.2.1 with
              | none => simp [oi_none]
              | some n =>
                have := hks n e
                have q1 : (oi (some n) = m1) = False := eq_false (fun q => (io_m1 (a := n) (by omega)).mp q)
                have q2 : (oi (some n) ≤ io s) = True := eq_true ((io_le (a := n) (by omega) (by omega)).mpr (by omega))
                simp [q1, q2]
            rw [this]
          · rw [show mask.testBit p = false by simpa using hb, Bool.and_false, Bool.and_false]
        have hbl := bN_lt (fun p => upP (drF L d) s p && mask.testBit p) (L.1 7)
        have h7 : 2 ^ L.1 7 ≤ 64 := Nat.le_trans (Nat.pow_le_pow_right (by decide) (show L.1 7 ≤ 6 by omega)) (by decide)
        have hcn : chC L s mask d ≤ 6 := Nat.le_trans (cN_le _ _) (by omega)
        rw [hcnt, bitc (by omega), pop_bN _ (by omega), letv_eq, show cN (fun p => upP (drF L d) s p && mask.testBit p) (L.1 7) = chC L s mask d from rfl, io64 (by omega), ← Int64.ofInt_mul, ← Int64.ofInt_add, ← Int.natCast_mul, ← Int.natCast_add, e1]
        rfl) (fun x y M3 h => by
      obtain ⟨rfl, rfl, k3⟩ := h
      have hmin : f_min (io s) 14 = io s := by
        unfold f_min
        exact if_neg (fun q => by have := (io_lt (a := 14) (by omega) (by omega)).mp q; omega)
      obtain ⟨M5, e5, m1', m2, m3⟩ := hw 58 M3
      refine ⟨M5, ⟨m3, k3.trans ⟨fun a _ => by rw [m1'], fun a ha => m2 a (by omega)⟩⟩, fun K => ?_⟩
      unfold L_X4_meanUncracked_38
      rw [hmin, show (1 : Int32) <<< (io s &&& 31) = io (2 ^ s) from io_shl (by omega), if_pos (by rw [io_le (by omega) (by omega)]; omega), e5, bnd_s])
    refine ⟨r, r1, fun K => ?_⟩
    unfold L_X4_meanUncracked_8
    rw [if_pos (by rw [io_le (by omega) (by omega)]; omega), show (0 : Int64) = lo (chS L s mask 0 : Int) from rfl]
    exact hq)
  exact ⟨r, hq, r1⟩
/-- whom the mask asks of -/
def mkQ (p1 : Int32) (mask : Nat) : Prop := (p1 = -1 ∧ ∀ p, p < 6 → mask.testBit p = true) ∨ ∃ q, q < 6 ∧ p1 = io q ∧ ∀ p, p < 6 → mask.testBit p = decide (p = q)
theorem meanR {L : Lh} {M : Mem} {s mask : Nat} {p1 : Int32} (hL : OkL L) (h0 : 0 < L.1 0) (hR : RpR 0 L M) (hs0 : 1 ≤ s) (hs : s ≤ 8) (hsT : s ≤ L.1 1) (hq : mkQ p1 mask) : ∃ M', f_X11_weightOf p1 (io s) M = some (lo (chS L s mask (2 ^ s) : Int), M') ∧ KR M M' := by
  have g := hL.2.2.1
  have hp : 2 ^ s ≤ 256 := Nat.le_trans (Nat.pow_le_pow_right (by decide) hs) (by decide)
  obtain ⟨M1, e1, hs1, k1⟩ := rLays hL hR
  unfold f_X11_weightOf
  rw [e1, bnd_s]
  obtain ⟨r, ⟨r1, r2⟩, hr⟩ := in3x (b := L_X11_weightOf_9 p1 (io s)) (fun d x y M2 => x = lo (chS L s mask d : Int) ∧ y = io d ∧ (∃ n, Ls L L.1 L.2.2.1 L.2.1 n (L.1 6) M2) ∧ KR M M2) (fun r => r.1 = lo (chS L s mask (2 ^ s) : Int) ∧ KR M r.2) (2 ^ s) (x := 0) (y := 0) (z := M1) ⟨rfl, rfl, ⟨0, hs1⟩, k1⟩ (by omega) (fun d x y M2 hd h => by
    obtain ⟨rfl, rfl, ⟨n, ⟨s1, s2, s3, s4, s5⟩, s6, s7⟩, k2⟩ := h
    have hlk := Lk.dr hL h0 (show d < 16384 by omega)
    have hs2 : Ls L L.1 L.2.2.1 L.2.1 d (L.1 6) (st M2 0 24 (io d)) := by
      refine ⟨?_, fun z hz => by rw [stne (by decide)]; exact s6 z hz, fun p hp => by rw [stne (by decide), stne (by decide)]; exact s7 p hp⟩
      simp [st, s1, s2, s4, s5]
    have k3 : KR M (st M2 0 24 (io d)) := k2.st0 (by decide)
    obtain ⟨M3, e3, hT, hs3, k4⟩ := rRuns hL (hR.kr k3) hlk hs2
    have hR3 := (hR.kr k3).kr k4
    have hok := hlk.ok hL
    have inner : ∀ K9 : Int64 → Int32 → Mem → Option (Int64 × Mem), lq3 (L_X11_weightOf_33 p1 (io s) K9 (lo (chS L s mask d : Int)) (io d)) FU 0 0 M3 = K9 (lo (chS L s mask (d + 1) : Int)) (io (d + 1)) M3 := by
      obtain ⟨x', y', z', hI, he⟩ := in3k (b := fun k => L_X11_weightOf_33 p1 (io s) k (lo (chS L s mask d : Int)) (io d)) (fun i x y M4 => x = io (cN (fun p => upP (drF L d) s p && mask.testBit p) i) ∧ y = io i ∧ M4 = M3) (fun k _ _ M4 => k (lo (chS L s mask (d + 1) : Int)) (io (d + 1)) M4) (L.1 7) (x := 0) (y := 0) (z := M3) ⟨rfl, rfl, rfl⟩ (by omega) (fun i x y M4 hi h => by
        obtain ⟨rfl, rfl, rfl⟩ := h
        refine ⟨io (cN (fun p => upP (drF L d) s p && mask.testBit p) (i + 1)), io (i + 1), M4, ⟨rfl, rfl, rfl⟩, fun k K => ?_⟩
        have hw : f_X11_isWhole (io i) (io s) M4 = some (if upP (drF L d) s i = true then 1 else 0) := by
          have hc := (hT i (show i < (rcf L L.1 L.2.2.1 L.2.1 d (L.1 6)).1 7 from hi)).2.1
          have hu := upT' (c := drF L d) hok (s := s) (p := i) hi hsT (y := M4.1 19 i) hc
          unfold f_X11_isWhole
          rw [oob_f (show i < 6 by omega) (by omega), ix_io (by omega)]
          simp only [Bool.false_eq_true, if_false]
          by_cases q1 : M4.1 19 i = -1
          · rw [if_pos q1, if_pos (hu.mp (Or.inl q1))]
          · rw [if_neg q1]
            by_cases q2 : M4.1 19 i ≤ io s
            · rw [if_pos q2, if_neg (fun w => (hu.mpr w).elim q1 (fun v => v q2))]
            · rw [if_neg q2, if_pos (hu.mp (Or.inr q2))]
        have hJ : J_X11_weightOf_55 p1 (io s) (lo (chS L s mask d : Int)) (io d) k K (io i) (io (cN (fun p => upP (drF L d) s p && mask.testBit p) i)) M4 = K (io (cN (fun p => upP (drF L d) s p && mask.testBit p) i + if upP (drF L d) s i = true then 1 else 0)) (io (i + 1)) M4 := by
          unfold J_X11_weightOf_55
          rw [hw, bnd_s, letv_eq, letv_eq, show io i + (1 : Int32) = io (i + 1) from io_add i 1, show (1 : Int32) = io 1 from rfl, show (0 : Int32) = io 0 from rfl, io_add, io_add]
          by_cases c : upP (drF L d) s i = true
          · rw [if_pos c, if_pos c, if_neg (show ¬ io 1 = io 0 by decide)]
          · rw [if_neg c, if_neg c, if_pos rfl]
        show L_X11_weightOf_33 p1 (io s) k (lo (chS L s mask d : Int)) (io d) K _ _ _ = _
        unfold L_X11_weightOf_33
        rw [pieces0 hR3, bnd_s, if_neg (by rw [io_le (by omega) (by omega)]; omega), hJ]
        simp only [cN]
        rcases hq with ⟨hq1, hq2⟩ | ⟨q, hq0, hq1, hq2⟩
        · rw [if_pos hq1]
          simp only [hq2 i (show i < 6 by omega), Bool.and_true]
        · rw [if_neg (by rw [hq1]; exact fun w => (io_m1 (a := q) (by omega)).mp w), hq1]
          by_cases c : i = q
          · have hbq : mask.testBit i = true := by rw [hq2 i (by omega), decide_eq_true c]
            rw [if_pos (by rw [c])]
            simp only [hbq, Bool.and_true]
          · have hbq : mask.testBit i = false := by rw [hq2 i (by omega), decide_eq_false c]
            simp only [hbq, Bool.and_false, Bool.false_eq_true, if_false]
            rw [if_neg (fun w => c ((io_inj (by omega) (by omega)).mp w)), letv_eq, show io i + (1 : Int32) = io (i + 1) from io_add i 1, show (0 : Int32) = io 0 from rfl, io_add]) (fun x y M4 h k K => by
        obtain ⟨rfl, rfl, rfl⟩ := h
        have n3 : M4.1 7 2 = io (L.1 3) := numR hR3 (i := 2) (by omega)
        have hpd := pop_s hs hd
        have hpl : pop d ≤ s := by rw [hpd]; exact cN_le _ _
        have hcn : chC L s mask d ≤ 6 := Nat.le_trans (cN_le _ _) (by omega)
        show L_X11_weightOf_33 p1 (io s) k (lo (chS L s mask d : Int)) (io d) K _ _ _ = _
        unfold L_X11_weightOf_33 f_X11_power
        rw [pieces0 hR3, bnd_s, if_pos (by rw [io_le (by omega) (by omega)]; omega), sizc (by omega), bnd_s, show ix 2 = 2 from rfl, n3, io64 (by omega), powerR (show L.1 3 ≤ 10 by omega) 20 (pop d) (by omega) (by omega), bnd_s, bnd_s]
        simp only [show oob 2 40 = false from by decide, Bool.false_eq_true, if_false]
        rw [show (10 : Int64) = lo (10 : Int) from rfl, ← Int64.ofInt_sub, show (10 : Int) - ((L.1 3 : Nat) : Int) = ((10 - L.1 3 : Nat) : Int) by omega, io_sub hpl, powerR (show 10 - L.1 3 ≤ 10 by omega) 20 (s - pop d) (by omega) (by omega), bnd_s, letv_eq, show cN (fun p => upP (drF L d) s p && mask.testBit p) (L.1 7) = chC L s mask d from rfl, io64 (by omega), ← Int64.ofInt_mul, ← Int64.ofInt_mul, ← Int64.ofInt_add, ← Int.natCast_mul, ← Int.natCast_mul, ← Int.natCast_add, show io d + (1 : Int32) = io (d + 1) from io_add d 1]
        simp only [chS]
        rw [chP_pow, hpd])
      intro K9
      obtain ⟨-, -, rfl⟩ := hI
      exact he K9
    refine ⟨lo (chS L s mask (d + 1) : Int), io (d + 1), M3, ⟨rfl, rfl, ⟨d, hs3⟩, k3.trans k4⟩, fun K => ?_⟩
    unfold L_X11_weightOf_9
    rw [show (1 : Int32) <<< (io s &&& 31) = io (2 ^ s) from io_shl (by omega), if_neg (by rw [io_le (by omega) (by omega)]; omega), letv_eq, e3, bnd_s, inner]) (fun x y M2 h => by
    obtain ⟨rfl, rfl, -, k2⟩ := h
    refine ⟨(_, M2), ⟨rfl, k2⟩, fun K => ?_⟩
    unfold L_X11_weightOf_9
    rw [show (1 : Int32) <<< (io s &&& 31) = io (2 ^ s) from io_shl (by omega), if_pos (by rw [io_le (by omega) (by omega)]; omega)]; rfl)
  exact ⟨r.2, by rw [hr, ← r1], r2⟩
theorem soon {L : Lh} {Mc Mr : Mem} (hN : RelN L Mc Mr) (b : Int32) : (f_X10_isChanceStep b Mc = 0 ∧ f_X11_isSoon b Mr = some 0) ∨ (f_X10_isChanceStep b Mc = 1 ∧ f_X11_isSoon b Mr = some 1 ∧ 0 < L.1 0 ∧ ∃ s, 1 ≤ s ∧ s ≤ 8 ∧ s ≤ L.1 1 ∧ b = io s) := by
  have g := hN.1.2.2.1
  unfold f_X10_isChanceStep f_X11_isSoon
  rw [lehrR hN.1 hN.2.2.1, bnd_s, ite01, stepC (hN.2.1.1 0 (by omega)) (by omega) (hN.2.1.1 1 (by omega)) (by omega), ite01]
  by_cases h0 : 0 < L.1 0
  · have hle : f_X11_lessOf 8 (io (L.1 1)) Mr = io (min 8 (L.1 1)) := by
      unfold f_X11_lessOf
      by_cases c : L.1 1 ≤ 8
      · rw [if_pos (show io (L.1 1) ≤ (8 : Int32) from (io_le (b := 8) (by omega) (by omega)).mpr c), show min 8 (L.1 1) = L.1 1 by omega]
      · rw [if_neg (show ¬ io (L.1 1) ≤ (8 : Int32) from fun q => c ((io_le (b := 8) (by omega) (by omega)).mp q)), show min 8 (L.1 1) = 8 by omega]; rfl
    rw [if_pos h0, steps0 hN.2.2.1, bnd_s, hle, in_eq, ite01, Int32.toInt_toInt64, Int32.toInt_toInt64, io_toInt (by omega), show (1 : Int64).toInt = 1 from rfl]
    rcases below b 9 with hb | ⟨s, hs, rfl, hs2⟩
    · rw [if_neg (show ¬ (1 ≤ b.toInt ∧ b.toInt ≤ ((min 8 (L.1 1) : Nat) : Int)) from fun q => hb ⟨by omega, by omega⟩)]
      refine Or.inl ⟨?_, rfl⟩
      by_cases c1 : b < 1
      · rw [if_pos c1]
      · have e1 := Int32.le_iff_toInt_le.mp (Int32.not_lt.mp c1)
        have e2 : (1 : Int32).toInt = 1 := rfl
        rw [if_neg c1, if_pos (Int32.lt_iff_toInt_lt.mpr (by rw [show (8 : Int32).toInt = 8 from rfl]; omega))]
    · rw [io_toInt hs2]
      by_cases c0 : s = 0
      · subst c0
        rw [if_pos (show io 0 < (1 : Int32) by decide), if_neg (fun q : (1 : Int) ≤ ((0 : Nat) : Int) ∧ ((0 : Nat) : Int) ≤ ((min 8 (L.1 1) : Nat) : Int) => by omega)]
        exact Or.inl ⟨rfl, rfl⟩
      rw [if_neg (show ¬ io s < (1 : Int32) from fun q => by have := (io_lt (b := 1) hs2 (by omega)).mp q; omega), if_neg (show ¬ (8 : Int32) < io s from fun q => by have := (io_lt (a := 8) (by omega) hs2).mp q; omega)]
      by_cases c : s ≤ L.1 1
      · rw [if_pos ⟨h0, by omega, by omega⟩, if_pos ⟨by omega, by omega⟩]
        exact Or.inr ⟨rfl, rfl, h0, s, by omega, by omega, c, rfl⟩
      · rw [if_neg (fun q => c (by omega)), if_neg (fun q => c (by omega))]
        exact Or.inl ⟨rfl, rfl⟩
  · rw [if_neg h0]
    refine Or.inl ⟨?_, rfl⟩
    by_cases c1 : b < 1
    · rw [if_pos c1]
    · by_cases c2 : (8 : Int32) < b
      · rw [if_neg c1, if_pos c2]
      · rw [if_neg c1, if_neg c2, if_neg (fun q => h0 q.1)]
theorem chFr {L : Lh} (hL : OkL L) {s mask : Nat} (hs : s ≤ 8) : ∃ w : Int32 → Int64, (∀ o M, ∃ M', f_X3_put o (lo (chS L s mask (2 ^ s) : Int)) (lo ((10 ^ s : Nat) : Int)) M = some M' ∧ M'.1 = M.1 ∧ (∀ a, a ≠ o → M'.2 a = M.2 a) ∧ ∀ p, f_X3_part o p M' = w p) ∧ ∀ p M, f_X11_partOf (lo (chS L s mask (2 ^ s) : Int)) (lo ((10 ^ s : Nat) : Int)) p M = some (w p) := by
  have h1 := chS_le (mask := mask) hL hs (2 ^ s)
  have h2 : 2 ^ s ≤ 256 := Nat.le_trans (Nat.pow_le_pow_right (by decide) hs) (by decide)
  have h3 : 2 ^ s * 600000000 ≤ 256 * 600000000 := Nat.mul_le_mul_right _ h2
  have h4 := p10 s hs
  exact fracs (by omega) (by omega) (by omega) (by omega)
theorem op_70 : ∀ (Mc Mr : Mem) (a1 a2 a3 : Int32), Rel Mc Mr → ∃ (r : Int32) (Mc' Mr' : Mem), f_X10_chance a1 a2 a3 Mc = some (r, Mc') ∧ f_X11_chance a1 a2 a3 Mr = some (r, Mr') ∧ Rel Mc' Mr' := by
  intro Mc Mr a b d h
  obtain ⟨hX, L, hN⟩ := h.split
  have hk := kr0 Mr
  have hN1 := hN.kr hk
  have g := hN.1.2.2.1
  have bad : ∃ r Mc' Mr', some ((-2 : Int32), Mc) = some (r, Mc') ∧ some ((-2 : Int32), st Mr 0 0 0) = some (r, Mr') ∧ Rel Mc' Mr' := ⟨_, _, _, rfl, rfl, h.kr hk⟩
  unfold f_X10_chance f_X11_chance
  rw [letv_eq, pieceC (hN.2.1.1 7 (by omega)) (by omega), pieceR hN.1 hN1.2.2.1, bnd_s, ite01, ite01, show f_X11_isHalf d (st Mr 0 0 0) = if 0 ≤ d.toInt ∧ d.toInt ≤ (1 : Nat) then 1 else 0 from in_le d (n := 1) (by decide) _, ite01]
  rcases below a (L.1 7) with hb | ⟨p, hp, rfl, hp2⟩
  · rw [if_neg hb, if_neg hb]; exact bad
  rw [if_pos (pos_io hp hp2), if_pos (pos_io hp hp2)]
  rcases soon hN1 b with ⟨q1, q2⟩ | ⟨q1, q2, h0, s, s1, s2, s3, rfl⟩
  · rw [q1, q2, if_pos rfl, bnd_s, if_pos rfl]; exact bad
  rw [q1, q2, if_neg (show ¬ (1 : Int32) = 0 by decide), bnd_s, if_neg (show ¬ (1 : Int32) = 0 by decide)]
  rcases half2 d Mc with ⟨r1, r2⟩ | ⟨r1, r2, r3⟩
  · rw [r2, if_neg (show ¬ (1 : Int32) = 0 by decide), if_neg r1]; exact bad
  rw [r2, if_pos rfl, if_pos r1, show (1 : Int32) <<< (io p &&& 31) = io (2 ^ p) from io_shl (by omega)]
  have hpw : 2 ^ p < 64 := Nat.lt_of_lt_of_le (Nat.pow_lt_pow_right (by decide) (show p < 6 by omega)) (by decide)
  obtain ⟨w, w1, w2⟩ := chFr (mask := 2 ^ p) hN.1 s2
  obtain ⟨M5, e5, v5, k5⟩ := meanC hN.1 h0 hN.2.1 s1 s2 s3 hpw w1
  have hmk : mkQ (io p) (2 ^ p) := by
    refine Or.inr ⟨p, by omega, rfl, fun q hq => ?_⟩
    rw [Nat.testBit_two_pow]
    by_cases c : p = q
    · subst c; simp
    · rw [decide_eq_false c, decide_eq_false (fun w => c w.symm)]
  obtain ⟨M6, e6, k6⟩ := meanR hN.1 h0 hN1.2.2.1 s1 s2 s3 hmk
  refine twoWays (h.kr hk) (v := (w d).toInt32) ⟨M5, by rw [e5, bnd_s, v5], k5⟩ ⟨M6, ?_, k6⟩
  rw [e6, bnd2_s, show f_X11_power (10 : Int64) (io s) = some (lo ((10 ^ s : Nat) : Int)) from powerR (a := 10) (by omega) 20 s (by omega) s2, bnd_s, w2, bnd_s]
theorem op_71 : ∀ (Mc Mr : Mem) (a1 a2 : Int32), Rel Mc Mr → ∃ (r : Int64) (Mc' Mr' : Mem), f_X10_mean a1 a2 Mc = some (r, Mc') ∧ f_X11_mean a1 a2 Mr = some (r, Mr') ∧ Rel Mc' Mr' := by
  intro Mc Mr b d h
  obtain ⟨hX, L, hN⟩ := h.split
  have hk := kr0 Mr
  have hN1 := hN.kr hk
  have g := hN.1.2.2.1
  have bad : ∃ r Mc' Mr', some ((-2 : Int64), Mc) = some (r, Mc') ∧ some ((-2 : Int64), st Mr 0 0 0) = some (r, Mr') ∧ Rel Mc' Mr' := ⟨_, _, _, rfl, rfl, h.kr hk⟩
  unfold f_X10_mean f_X11_mean
  rw [letv_eq, show f_X11_isHalf d (st Mr 0 0 0) = if 0 ≤ d.toInt ∧ d.toInt ≤ (1 : Nat) then 1 else 0 from in_le d (n := 1) (by decide) _, ite01]
  rcases soon hN1 b with ⟨q1, q2⟩ | ⟨q1, q2, h0, s, s1, s2, s3, rfl⟩
  · rw [q1, q2, if_pos rfl, bnd_s, if_pos rfl]; exact bad
  rw [q1, q2, if_neg (show ¬ (1 : Int32) = 0 by decide), bnd_s, if_neg (show ¬ (1 : Int32) = 0 by decide)]
  rcases half2 d Mc with ⟨r1, r2⟩ | ⟨r1, r2, r3⟩
  · rw [r2, if_neg (show ¬ (1 : Int32) = 0 by decide), if_neg r1]; exact bad
  rw [r2, if_pos rfl, if_pos r1]
  obtain ⟨w, w1, w2⟩ := chFr (mask := 63) hN.1 s2
  obtain ⟨M5, e5, v5, k5⟩ := meanC hN.1 h0 hN.2.1 s1 s2 s3 (by omega) w1
  obtain ⟨M6, e6, k6⟩ := meanR (p1 := -1) (mask := 63) hN.1 h0 hN1.2.2.1 s1 s2 s3 (Or.inl ⟨rfl, w63⟩)
  refine ⟨w d, M5, M6, ?_, ?_, (h.kc k5).kr (hk.trans k6)⟩
  · rw [show (63 : Int32) = io 63 from rfl, e5, bnd_s, v5]
  · rw [e6, bnd2_s, show f_X11_power (10 : Int64) (io s) = some (lo ((10 ^ s : Nat) : Int)) from powerR (a := 10) (by omega) 20 s (by omega) s2, bnd_s, w2, bnd_s]
