/-! WHAT A ROW TELLS OF SKINS -/
/-- triples of a row -/
abbrev Tr : Type := (Nat → Nat) × (Nat → Nat) × (Nat → Nat)
def okT (L : Lh) (v : Nat → Int64) (t : Nat) : Prop := (0 ≤ (v (3 * t)).toInt ∧ (v (3 * t)).toInt < L.1 7) ∧ (0 ≤ (v (3 * t + 1)).toInt ∧ (v (3 * t + 1)).toInt ≤ L.1 1) ∧ (0 ≤ (v (3 * t + 2)).toInt ∧ (v (3 * t + 2)).toInt ≤ 100000)
def trO (v : Nat → Int64) : Tr := (fun t => (v (3 * t)).toInt.toNat, fun t => (v (3 * t + 1)).toInt.toNat, fun t => (v (3 * t + 2)).toInt.toNat)
def SeV (v : Nat → Int64) (n : Nat) (T : Tr) : Prop := ∀ t, t < n → (v (3 * t)).toInt = T.1 t ∧ (v (3 * t + 1)).toInt = T.2.1 t ∧ (v (3 * t + 2)).toInt = T.2.2 t
def SeK (L : Lh) (n : Nat) (T : Tr) : Prop := ∀ t, t < n → T.1 t < L.1 7 ∧ T.2.1 t ≤ L.1 1 ∧ T.2.2 t ≤ 100000
def agB (c : Cf) (T : Tr) : Nat → Bool
  | 0 => true
  | t + 1 => agB c T t && decide ((run c (T.2.1 t) (T.1 t)).1 = T.2.2 t)
theorem agB_t {c : Cf} {T : Tr} : ∀ {n : Nat}, (∀ t, t < n → (run c (T.2.1 t) (T.1 t)).1 = T.2.2 t) → agB c T n = true
  | 0, _ => rfl
  | n + 1, h => by
    simp only [agB]
    rw [agB_t (fun t ht => h t (by omega)), decide_eq_true (h n (by omega))]; rfl
theorem agB_f {c : Cf} {T : Tr} {m : Nat} (h : ¬ (run c (T.2.1 m) (T.1 m)).1 = T.2.2 m) : ∀ {n : Nat}, m < n → agB c T n = false
  | 0, hn => absurd hn (Nat.not_lt_zero _)
  | n + 1, hn => by
    simp only [agB]
    by_cases e : m = n
    · subst e; rw [decide_eq_false h]; simp
    · rw [agB_f h (show m < n by omega)]; rfl
theorem toI32 {x : Int64} {a : Nat} (h : x.toInt = a) (ha : a < 2147483648) : x.toInt32 = io a := by
  apply Int32.toInt_inj.mp
  rw [Int64.toInt_toInt32, h, io_toInt ha]
  exact Int.bmod_eq_of_le (by omega) (by omega)
theorem cmpE {x : Int64} {a b : Nat} (h : x.toInt = b) (ha : a < 2147483648) : (lg_cmp (io a).toInt64 x = 0) = (a = b) := by
  apply propext
  rw [lg_cmp_eq, ← Int64.toInt_inj, Int32.toInt_toInt64, io_toInt ha, h]
  omega
def psB (T : Tr) : Nat → Nat
  | 0 => 0
  | t + 1 => psB T t ||| 2 ^ T.1 t
def lsS (T : Tr) : Nat → Nat
  | 0 => 0
  | t + 1 => max (lsS T t) (T.2.1 t)
theorem psB_lt {T : Tr} : ∀ {n : Nat}, (∀ t, t < n → T.1 t < 6) → psB T n < 64
  | 0, _ => by simp [psB]
  | n + 1, h => by
    have ih := psB_lt (T := T) (n := n) (fun t ht => h t (by omega))
    have h2 : 2 ^ T.1 n < 2 ^ 6 := Nat.pow_lt_pow_right (by decide) (h n (by omega))
    exact Nat.or_lt_two_pow (n := 6) ih h2
theorem psB_tb {T : Tr} {t : Nat} : ∀ {n : Nat}, t < n → (psB T n).testBit (T.1 t) = true
  | 0, h => absurd h (Nat.not_lt_zero _)
  | n + 1, h => by
    simp only [psB]
    rw [Nat.testBit_or]
    by_cases e : t = n
    · subst e; rw [Nat.testBit_two_pow]; simp
    · rw [psB_tb (n := n) (by omega)]; rfl
theorem lsS_le {T : Tr} {t : Nat} : ∀ {n : Nat}, t < n → T.2.1 t ≤ lsS T n
  | 0, h => absurd h (Nat.not_lt_zero _)
  | n + 1, h => by
    simp only [lsS]
    by_cases e : t = n
    · subst e; omega
    · have := lsS_le (T := T) (t := t) (n := n) (by omega); omega
theorem lsS_lt {T : Tr} {m : Nat} : ∀ {n : Nat}, (∀ t, t < n → T.2.1 t ≤ m) → lsS T n ≤ m
  | 0, _ => Nat.zero_le _
  | n + 1, h => by
    have ih := lsS_lt (T := T) (n := n) (fun t ht => h t (by omega))
    have := h n (by omega)
    simp only [lsS]; omega
/-- the class's row -/
def RoC (k n : Nat) (v : Nat → Int64) (M : Mem) : Prop := M.1 (103 + 2 * k) 2 = io (3 * n) ∧ ∀ i, i < 3 * n → M.2 (104 + 2 * k) i = v i
theorem agreesC {L : Lh} {c : Cf} {M : Mem} {k n : Nat} {v : Nat → Int64} {T : Tr} (hok : OkC c) (h7 : c.1 7 = L.1 7) (hT : Tc c M) (hk : k < 4) (hn : n ≤ 20) (hr : RoC k n v M) (hv : SeV v n T) (hs : SeK L n T) (h1 : L.1 1 ≤ 14) : ∃ M', f_X9_agrees (103 + 2 * k) M = some (if agB c T n = true then 1 else 0, M') ∧ Fr (49 :: Cs_49) M M' := by
  have h6 : c.1 7 ≤ 6 := hok.2.2.2.2.2.1
  have e1 : f_X7_lastStepTold (103 + 2 * k) M = some (io (lsS T n)) := by
    unfold f_X7_lastStepTold
    obtain ⟨r, rfl, hq⟩ := in2x (b := L_X7_lastStepTold_4 (103 + 2 * k) M) (fun t x y => x = io (lsS T t) ∧ y = io (3 * t)) (fun r => r = io (lsS T n)) n (x := 0) (y := 0) ⟨rfl, rfl⟩ (by omega) (fun t x y ht h => by
      obtain ⟨rfl, rfl⟩ := h
      have e := hv t ht
      have b := hs t ht
      have l := lsS_lt (T := T) (m := 14) (n := t) (fun j hj => by have := (hs j (by omega)).2.1; omega)
      refine ⟨io (lsS T (t + 1)), io (3 * (t + 1)), ⟨rfl, rfl⟩, fun K => ?_⟩
      unfold L_X7_lastStepTold_4
      rw [hr.1, show (2 : Int32) = io 2 from rfl, show (1 : Int32) = io 1 from rfl, show (3 : Int32) = io 3 from rfl, io_add, io_add, io_add, if_neg (by rw [io_le (by omega) (by omega)]; omega), oob_f (show 3 * t + 1 < 60 by omega) (by omega), ix_io (by omega), (slots_rc hk).2, hr.2 _ (by omega), toI32 e.2.1 (by omega), max_io (by omega) (by omega)]
      rfl) (fun x y h => by
      obtain ⟨rfl, rfl⟩ := h
      refine ⟨_, rfl, fun K => ?_⟩
      unfold L_X7_lastStepTold_4
      rw [hr.1, show (2 : Int32) = io 2 from rfl, io_add, if_pos (by rw [io_le (by omega) (by omega)]; omega)])
    exact hq
  have e2 : f_X7_piecesTold (103 + 2 * k) M = some (io (psB T n)) := by
    unfold f_X7_piecesTold
    obtain ⟨r, rfl, hq⟩ := in2x (b := L_X7_piecesTold_4 (103 + 2 * k) M) (fun t x y => x = io (psB T t) ∧ y = io (3 * t)) (fun r => r = io (psB T n)) n (x := 0) (y := 0) ⟨rfl, rfl⟩ (by omega) (fun t x y ht h => by
      obtain ⟨rfl, rfl⟩ := h
      have e := hv t ht
      have b := hs t ht
      refine ⟨io (psB T (t + 1)), io (3 * (t + 1)), ⟨rfl, rfl⟩, fun K => ?_⟩
      unfold L_X7_piecesTold_4
      rw [hr.1, show (2 : Int32) = io 2 from rfl, show (3 : Int32) = io 3 from rfl, io_add, io_add, if_neg (by rw [io_le (by omega) (by omega)]; omega), oob_f (show 3 * t < 60 by omega) (by omega), ix_io (by omega), (slots_rc hk).2, hr.2 _ (by omega), toI32 e.1 (by omega), show (1 : Int32) <<< (io (T.1 t) &&& 31) = io (2 ^ T.1 t) from io_shl (by omega), io_or]
      rfl) (fun x y h => by
      obtain ⟨rfl, rfl⟩ := h
      refine ⟨_, rfl, fun K => ?_⟩
      unfold L_X7_piecesTold_4
      rw [hr.1, show (2 : Int32) = io 2 from rfl, io_add, if_pos (by rw [io_le (by omega) (by omega)]; omega)])
    exact hq
  have hl := lsS_lt (T := T) (m := 14) (n := n) (fun j hj => by have := (hs j (by omega)).2.1; omega)
  obtain ⟨M', e3, hC, hF⟩ := trial (u := lsS T n) (pw := psB T n) hok hT (by omega) (psB_lt (fun t ht => by have := (hs t ht).1; omega))
  rw [show min (lsS T n) 14 = lsS T n by omega] at hC
  refine ⟨M', ?_, hF⟩
  have hr' : RoC k n v M' := ⟨by rw [hF.1 _ (by simp [Cs_49]; omega)]; exact hr.1, fun i hi => by rw [hF.2]; exact hr.2 i hi⟩
  have h35 : M'.1 35 7 = io (c.1 7) := by rw [hF.1 35 (by decide)]; exact hT.1.2.2.2.2.2
  unfold f_X9_agrees
  rw [e1, bnd_s, e2, bnd_s, show (0 : Int32) = 0 from rfl, e3, bnd_s]
  have step : ∀ t, t < n → ∀ K, L_X7_agreesWith_2 (103 + 2 * k) 49 M' K (io (3 * t)) = if (run c (T.2.1 t) (T.1 t)).1 = T.2.2 t then K (io (3 * (t + 1))) else some 0 := by
    intro t ht K
    have e := hv t ht
    have b := hs t ht
    have hsk := (hC (T.1 t) (by omega) (Or.inr (psB_tb ht))).2.1 (T.2.1 t) (lsS_le ht)
    have hle := run_le hok (T.2.1 t) (T.1 t) (by omega)
    have hskin : f_X2_skinAt 49 (io (T.1 t)) (io (T.2.1 t)) M' = some (io (run c (T.2.1 t) (T.1 t)).1) := by
      unfold f_X2_skinAt f_X2_valueAt
      rw [show rC 49 1 = 35 by decide, show rC 49 4 = 51 by decide, pieceC h35 (by omega), ite01, if_pos (pos_io (show T.1 t < c.1 7 by omega) (by omega)), if_neg (show ¬ io (T.2.1 t) < (0 : Int32) from fun q => by have := (io_lt (b := 0) (by omega) (by omega)).mp q; omega), if_pos (show io (T.2.1 t) < (15 : Int32) from (io_lt (b := 15) (by omega) (by omega)).mpr (by omega)), letv_eq, if_pos rfl, show (15 : Int32) = io 15 from rfl, io_mul, io_add, oob_f (by omega) (by omega), ix_io (by omega), hsk.1]
      rfl
    unfold L_X7_agreesWith_2
    rw [hr'.1, show (2 : Int32) = io 2 from rfl, show (1 : Int32) = io 1 from rfl, show (3 : Int32) = io 3 from rfl, io_add, io_add, io_add, if_neg (by rw [io_le (by omega) (by omega)]; omega), oob_f (show 3 * t < 60 by omega) (by omega), oob_f (show 3 * t + 1 < 60 by omega) (by omega), oob_f (show 3 * t + 2 < 60 by omega) (by omega), ix_io (by omega), ix_io (by omega), ix_io (by omega), (slots_rc hk).2, hr'.2 _ (by omega), hr'.2 _ (by omega), hr'.2 _ (by omega), toI32 e.1 (by omega), toI32 e.2.1 (by omega), hskin]
    simp only [Bool.false_eq_true, if_false]
    rw [bnd_s]
    by_cases q : (run c (T.2.1 t) (T.1 t)).1 = T.2.2 t
    · rw [if_pos ((lg_cmp_eq _ _).mpr (Int64.toInt_inj.mp (by rw [Int32.toInt_toInt64, io_toInt (by omega), e.2.2, q]))), if_pos q]; rfl
    · rw [if_neg (fun w => q (by have := congrArg Int64.toInt ((lg_cmp_eq _ _).mp w); rw [Int32.toInt_toInt64, io_toInt (by omega), e.2.2] at this; omega)), if_neg q]
  have fin : f_X7_agreesWith (103 + 2 * k) 49 M' = some (if agB c T n = true then 1 else 0) := by
    unfold f_X7_agreesWith
    rcases first_or (fun t => ¬ (run c (T.2.1 t) (T.1 t)).1 = T.2.2 t) n with h | ⟨m, hm, h, h2⟩
    · rw [agB_t (fun t ht => Classical.not_not.mp (h t ht)), if_pos rfl]
      obtain ⟨r, rfl, hq⟩ := in1x (b := L_X7_agreesWith_2 (103 + 2 * k) 49 M') (fun t x => x = io (3 * t)) (fun r => r = 1) n (x := 0) rfl (by omega) (fun t x ht hx => by
        subst hx
        exact ⟨io (3 * (t + 1)), rfl, fun K => by rw [step t ht, if_pos (Classical.not_not.mp (h t ht))]⟩) (fun x hx => by
        subst hx
        refine ⟨1, rfl, fun K => ?_⟩
        unfold L_X7_agreesWith_2
        rw [hr'.1, show (2 : Int32) = io 2 from rfl, io_add, if_pos (by rw [io_le (by omega) (by omega)]; omega)])
      exact hq
    · rw [agB_f h hm, if_neg (by decide)]
      obtain ⟨r, rfl, hq⟩ := in1x (b := L_X7_agreesWith_2 (103 + 2 * k) 49 M') (fun t x => x = io (3 * t)) (fun r => r = 0) m (x := 0) rfl (by omega) (fun t x ht hx => by
        subst hx
        exact ⟨io (3 * (t + 1)), rfl, fun K => by rw [step t (by omega), if_pos (Classical.not_not.mp (h2 t ht))]⟩) (fun x hx => by
        subst hx
        exact ⟨0, rfl, fun K => by rw [step m hm, if_neg h]⟩)
      exact hq
  rw [fin, bnd_s]
/-- the reference's row -/
def RoR (k n : Nat) (v : Nat → Int64) (M : Mem) : Prop := M.1 2 k = io (3 * n) ∧ ∀ i, i < 3 * n → M.2 3 (60 * k + i) = v i
theorem RoR.kr {k n : Nat} {v : Nat → Int64} {M M' : Mem} (h : RoR k n v M) (g : KR M M') : RoR k n v M' := ⟨by rw [g.1 2 (by decide)]; exact h.1, by rw [g.2.2]; exact h.2⟩
theorem isSoR {L : Lh} {c : Cf} {M : Mem} {k n : Nat} {v : Nat → Int64} {T : Tr} (hok : OkC c) (h7 : c.1 7 = L.1 7) (hT : Rt c (fun _ => L.1 1) M) (hk : k < 4) (hn : n ≤ 20) (hr : RoR k n v M) (hv : SeV v n T) (hs : SeK L n T) (h1 : L.1 1 ≤ 14) : f_X11_isSo (io k) M = some (if agB c T n = true then 1 else 0) := by
  have h6 : c.1 7 ≤ 6 := hok.2.2.2.2.2.1
  have step : ∀ t, t < n → ∀ K, L_X11_isSo_2 (io k) M K (io (3 * t)) = if (run c (T.2.1 t) (T.1 t)).1 = T.2.2 t then K (io (3 * (t + 1))) else some 0 := by
    intro t ht K
    have e := hv t ht
    have b := hs t ht
    have hle := run_le hok (T.2.1 t) (T.1 t) (by omega)
    have hskin := skinR (p := T.1 t) (s := T.2.1 t) hok hT (by omega) b.2.1 (by omega)
    unfold L_X11_isSo_2
    rw [oob_f hk (by omega), ix_io (by omega), hr.1]
    simp only [Bool.false_eq_true, if_false, letv_eq]
    rw [if_neg (by rw [io_le (by omega) (by omega)]; omega), show (60 : Int32) = io 60 from rfl, show (2 : Int32) = io 2 from rfl, show (1 : Int32) = io 1 from rfl, show (3 : Int32) = io 3 from rfl, io_mul, io_add, io_add, io_add, io_add, oob_f (show 60 * k + 3 * t < 240 by omega) (by omega), oob_f (show 60 * k + 3 * t + 1 < 240 by omega) (by omega), oob_f (show 60 * k + 3 * t + 2 < 240 by omega) (by omega), ix_io (by omega), ix_io (by omega), ix_io (by omega), show 60 * k + 3 * t + 1 = 60 * k + (3 * t + 1) by omega, show 60 * k + 3 * t + 2 = 60 * k + (3 * t + 2) by omega, hr.2 _ (by omega), hr.2 _ (by omega), hr.2 _ (by omega), toI32 e.1 (by omega), toI32 e.2.1 (by omega), hskin]
    simp only [Bool.false_eq_true, if_false]
    rw [bnd_s]
    by_cases q : (run c (T.2.1 t) (T.1 t)).1 = T.2.2 t
    · rw [if_pos ((lg_cmp_eq _ _).mpr (Int64.toInt_inj.mp (by rw [Int32.toInt_toInt64, io_toInt (by omega), e.2.2, q]))), if_pos q]; rfl
    · rw [if_neg (fun w => q (by have := congrArg Int64.toInt ((lg_cmp_eq _ _).mp w); rw [Int32.toInt_toInt64, io_toInt (by omega), e.2.2] at this; omega)), if_neg q]
  unfold f_X11_isSo
  rcases first_or (fun t => ¬ (run c (T.2.1 t) (T.1 t)).1 = T.2.2 t) n with h | ⟨m, hm, h, h2⟩
  · rw [agB_t (fun t ht => Classical.not_not.mp (h t ht)), if_pos rfl]
    obtain ⟨r, rfl, hq⟩ := in1x (b := L_X11_isSo_2 (io k) M) (fun t x => x = io (3 * t)) (fun r => r = 1) n (x := 0) rfl (by omega) (fun t x ht hx => by
      subst hx
      exact ⟨io (3 * (t + 1)), rfl, fun K => by rw [step t ht, if_pos (Classical.not_not.mp (h t ht))]⟩) (fun x hx => by
      subst hx
      refine ⟨1, rfl, fun K => ?_⟩
      unfold L_X11_isSo_2
      rw [oob_f hk (by omega), ix_io (by omega), hr.1]
      simp only [Bool.false_eq_true, if_false]
      rw [if_pos (by rw [io_le (by omega) (by omega)]; omega)])
    exact hq
  · rw [agB_f h hm, if_neg (by decide)]
    obtain ⟨r, rfl, hq⟩ := in1x (b := L_X11_isSo_2 (io k) M) (fun t x => x = io (3 * t)) (fun r => r = 0) m (x := 0) rfl (by omega) (fun t x ht hx => by
      subst hx
      exact ⟨io (3 * (t + 1)), rfl, fun K => by rw [step t (by omega), if_pos (Classical.not_not.mp (h2 t ht))]⟩) (fun x hx => by
      subst hx
      exact ⟨0, rfl, fun K => by rw [step m hm, if_neg h]⟩)
    exact hq
