/-! THE COURSE OF A LEHR in plain numbers -/
/-- numbers (1 steps, 2 law, 4 pace, 5 set, 6 zones, 7 pieces); a piece's (0 heat, 1 thick, 2 bears, 3 comes); air of a zone in a step -/
abbrev Cf : Type := (Nat → Nat) × (Nat → Nat → Nat) × (Nat → Nat → Nat)
/-- skin, core, frozen, set in, cracked in, why -/
abbrev Ps : Type := Nat × Nat × Option Nat × Option Nat × Option Nat × Nat
def tw (a b d : Nat) : Nat := if a ≤ b then a + (b - a) / d else a - (a - b) / d
def apt (a b : Nat) : Nat := if a ≤ b then b - a else a - b
def plc (c : Cf) (p s : Nat) : Nat := if s < c.2.1 p 3 then 11 else if (s - c.2.1 p 3) / c.1 4 < c.1 6 then (s - c.2.1 p 3) / c.1 4 else 10
def pli (n : Nat) : Int32 := if n = 11 then m1 else io n
def mSum (c : Cf) (sk : Nat → Nat) (p s z n : Nat) : Nat := sN (fun q => if q ≠ p ∧ plc c q s = z then sk q else 0) n
def mCnt (c : Cf) (p s z n : Nat) : Nat := cN (fun q => decide (q ≠ p ∧ plc c q s = z)) n
def gl (c : Cf) (s : Nat) (sk : Nat → Nat) (p : Nat) : Nat := if c.1 2 = 2 then (c.2.2 (plc c p s) s + mSum c sk p s (plc c p s) (c.1 7)) / (1 + mCnt c p s (plc c p s) (c.1 7)) else c.2.2 (plc c p s) s
def pull (law a g : Nat) : Nat := if law = 1 then (if a ≤ g then a + min ((g - a) / 2) 60 else a - min ((a - g) / 2) 60) else if law = 3 then tw a g 3 else tw a g 2
def gts : Option Nat → Nat → Bool
  | none, _ => false
  | some n, k => decide (k < n)
def fin (c : Cf) (s p k r : Nat) (q : Ps) (fz sx : Option Nat) : Ps :=
  if c.2.1 p 2 < apt k r then (k, r, fz, sx, some (s + 1), 1)
  else if plc c p (s + 1) = 10 ∧ gts fz (c.2.1 p 2 / 2) = true then (k, r, fz, sx, some (s + 1), 2)
  else (k, r, fz, sx, q.2.2.2.2.1, q.2.2.2.2.2)
def mid (c : Cf) (s p k r : Nat) (q : Ps) : Ps :=
  if c.1 5 ≤ q.2.1 ∧ r < c.1 5 then fin c s p k r q (some (apt k r)) (some (s + 1)) else fin c s p k r q q.2.2.1 q.2.2.2.1
def adv (c : Cf) (s : Nat) (st : Nat → Ps) (p : Nat) : Ps :=
  if plc c p s = 11 ∨ plc c p s = 10 ∨ (st p).2.2.2.2.1 ≠ none then st p
  else mid c s p (pull (c.1 2) (st p).1 (gl c s (fun q => (st q).1) p)) (tw (st p).2.1 (pull (c.1 2) (st p).1 (gl c s (fun q => (st q).1) p)) (c.2.1 p 1)) (st p)
def run (c : Cf) : Nat → Nat → Ps
  | 0, p => (c.2.1 p 0, c.2.1 p 0, none, none, none, 0)
  | s + 1, p => adv c s (run c s) p
/-- what of a lehr's numbers is sure -/
def OkC (c : Cf) : Prop := c.1 1 ≤ 14 ∧ c.1 2 ≤ 3 ∧ (1 ≤ c.1 4 ∧ c.1 4 ≤ 6) ∧ c.1 5 ≤ 600 ∧ c.1 6 ≤ 7 ∧ c.1 7 ≤ 6 ∧ (∀ p, p < c.1 7 → c.2.1 p 0 ≤ 20000 ∧ (1 ≤ c.2.1 p 1 ∧ c.2.1 p 1 ≤ 9) ∧ c.2.1 p 2 ≤ 1000000 ∧ c.2.1 p 3 ≤ 14) ∧ ∀ z s, z < c.1 6 → c.2.2 z s ≤ 20000
theorem tw_le {a b d K : Nat} (ha : a ≤ K) (hb : b ≤ K) : tw a b d ≤ K := by
  unfold tw
  have h1 := Nat.div_le_self (b - a) d
  split
  · omega
  · exact Nat.le_trans (Nat.sub_le ..) ha
theorem apt_le {a b K : Nat} (ha : a ≤ K) (hb : b ≤ K) : apt a b ≤ K := by
  unfold apt
  split <;> omega
theorem pull_le {l a b K : Nat} (ha : a ≤ K) (hb : b ≤ K) : pull l a b ≤ K := by
  unfold pull
  split
  · split <;> omega
  · split
    · exact tw_le ha hb
    · exact tw_le ha hb
theorem mSum_le {c : Cf} {sk : Nat → Nat} {p s z K : Nat} : ∀ {n : Nat}, (∀ q, q < n → sk q ≤ K) → mSum c sk p s z n ≤ mCnt c p s z n * K
  | 0, _ => by simp [mSum, sN]
  | n + 1, h => by
    have ih := mSum_le (c := c) (p := p) (s := s) (z := z) (n := n) (fun q hq => h q (by omega))
    have hn := h n (by omega)
    unfold mSum mCnt at *
    simp only [sN, cN]
    by_cases hc : n ≠ p ∧ plc c n s = z
    · rw [if_pos hc, if_pos (decide_eq_true hc), Nat.succ_mul]
      omega
    · rw [if_neg hc, if_neg (by simpa using hc)]
      omega
theorem plc_cases (c : Cf) (p s : Nat) : plc c p s = 11 ∨ plc c p s = 10 ∨ plc c p s < c.1 6 := by
  unfold plc
  split
  · exact Or.inl rfl
  · split
    · rename_i h; exact Or.inr (Or.inr h)
    · exact Or.inr (Or.inl rfl)
theorem gl_le {c : Cf} {s p : Nat} {sk : Nat → Nat} {K : Nat} (h : ∀ q, q < c.1 7 → sk q ≤ K) (hz : plc c p s < c.1 6) (ha : ∀ z s, z < c.1 6 → c.2.2 z s ≤ K) : gl c s sk p ≤ K := by
  unfold gl
  split
  · apply Nat.div_le_of_le_mul
    have h1 := mSum_le (c := c) (p := p) (s := s) (z := plc c p s) h
    have h2 := ha _ s hz
    rw [Nat.add_mul]
    omega
  · exact ha _ s hz
theorem fin_1 (c : Cf) (s p k r : Nat) (q : Ps) (fz sx : Option Nat) : (fin c s p k r q fz sx).1 = k ∧ (fin c s p k r q fz sx).2.1 = r := by
  unfold fin
  split
  · exact ⟨rfl, rfl⟩
  · split <;> exact ⟨rfl, rfl⟩
theorem mid_1 (c : Cf) (s p k r : Nat) (q : Ps) : (mid c s p k r q).1 = k ∧ (mid c s p k r q).2.1 = r := by
  unfold mid
  split <;> exact fin_1 ..
theorem run_le {c : Cf} (h : OkC c) : ∀ s p, p < c.1 7 → (run c s p).1 ≤ 20000 ∧ (run c s p).2.1 ≤ 20000
  | 0, p, hp => ⟨(h.2.2.2.2.2.2.1 p hp).1, (h.2.2.2.2.2.2.1 p hp).1⟩
  | s + 1, p, hp => by
    have ih := fun q hq => run_le h s q hq
    show (adv c s (run c s) p).1 ≤ _ ∧ (adv c s (run c s) p).2.1 ≤ _
    unfold adv
    split
    · exact ih p hp
    · rename_i hn
      have hz : plc c p s < c.1 6 := by
        rcases plc_cases c p s with e | e | e
        · exact absurd (Or.inl e) hn
        · exact absurd (Or.inr (Or.inl e)) hn
        · exact e
      have h1 := gl_le (c := c) (s := s) (p := p) (sk := fun q => (run c s q).1) (fun q hq => (ih q hq).1) hz h.2.2.2.2.2.2.2
      rw [(mid_1 ..).1, (mid_1 ..).2]
      exact ⟨pull_le (ih p hp).1 h1, tw_le (ih p hp).2 (pull_le (ih p hp).1 h1)⟩
/-- what is sure of the rest -/
def OkQ (s : Nat) (q : Ps) : Prop := (∀ n, q.2.2.1 = some n → n ≤ 20000) ∧ (∀ n, q.2.2.2.1 = some n → n ≤ s) ∧ (∀ n, q.2.2.2.2.1 = some n → n ≤ s) ∧ q.2.2.2.2.2 ≤ 2
theorem OkQ.up {s : Nat} {q : Ps} (h : OkQ s q) : OkQ (s + 1) q := ⟨h.1, fun n e => Nat.le_succ_of_le (h.2.1 n e), fun n e => Nat.le_succ_of_le (h.2.2.1 n e), h.2.2.2⟩
theorem fin_ok {c : Cf} {s p k r : Nat} {q : Ps} {fz sx : Option Nat} (h : OkQ s q) (h1 : ∀ n, fz = some n → n ≤ 20000) (h2 : ∀ n, sx = some n → n ≤ s + 1) : OkQ (s + 1) (fin c s p k r q fz sx) := by
  unfold fin
  split
  · exact ⟨h1, h2, fun n e => (by cases e; exact Nat.le_refl _), (by show 1 ≤ 2; decide)⟩
  · split
    · exact ⟨h1, h2, fun n e => (by cases e; exact Nat.le_refl _), Nat.le_refl 2⟩
    · exact ⟨h1, h2, h.up.2.2.1, h.2.2.2⟩
theorem run_ok {c : Cf} (h : OkC c) : ∀ s p, p < c.1 7 → OkQ s (run c s p)
  | 0, p, hp => ⟨fun n e => (by cases e), fun n e => (by cases e), fun n e => (by cases e), Nat.zero_le _⟩
  | s + 1, p, hp => by
    have ih := run_ok h s p hp
    have hl := run_le h s
    show OkQ (s + 1) (adv c s (run c s) p)
    unfold adv
    split
    · exact ih.up
    · rename_i hn
      have hz : plc c p s < c.1 6 := by
        rcases plc_cases c p s with e | e | e
        · exact absurd (Or.inl e) hn
        · exact absurd (Or.inr (Or.inl e)) hn
        · exact e
      have h1 := gl_le (c := c) (s := s) (p := p) (sk := fun q => (run c s q).1) (fun q hq => (hl q hq).1) hz h.2.2.2.2.2.2.2
      unfold mid
      split
      · exact fin_ok ih (fun n e => by cases e; exact apt_le (pull_le (hl p hp).1 h1) (tw_le (hl p hp).2 (pull_le (hl p hp).1 h1))) (fun n e => by cases e; exact Nat.le_refl _)
      · exact fin_ok ih ih.1 ih.up.2.1
/-- once cracked, or out, a piece stays -/
theorem run_stay {c : Cf} {s p : Nat} (h : (run c s p).2.2.2.2.1 ≠ none) : ∀ k, run c (s + k) p = run c s p
  | 0 => rfl
  | k + 1 => by
    have ih := run_stay h k
    show adv c (s + k) (run c (s + k)) p = _
    unfold adv
    rw [if_pos (Or.inr (Or.inr (by rw [ih]; exact h))), ih]
/-! the machine's arithmetic on these numbers -/
theorem pli_m1 {n : Nat} (h : n < 2147483648) : (pli n = m1) ↔ n = 11 := by
  unfold pli
  split
  · rename_i e; exact iff_of_true rfl e
  · rename_i e; rw [io_m1 h]; exact iff_of_false not_false e
theorem pli_10 {n : Nat} (h : n < 2147483648) : (pli n = io 10) ↔ n = 10 := by
  unfold pli
  split
  · rename_i e; subst e; exact iff_of_false (by decide) (by decide)
  · rw [io_inj h (by decide)]
theorem pli_io {n : Nat} (h : n ≠ 11) : pli n = io n := if_neg h
theorem pli_inj {a b : Nat} (ha : a < 2147483648) (hb : b < 2147483648) : (pli a = pli b) ↔ a = b := by
  unfold pli
  split
  · split
    · rename_i e e2; rw [e, e2]; simp
    · rename_i e e2; rw [m1_io hb]; exact iff_of_false not_false (fun q => e2 (by omega))
  · split
    · rename_i e e2; rw [io_m1 ha]; exact iff_of_false not_false (fun q => e (by omega))
    · rw [io_inj ha hb]
theorem oi_m1 {o : Option Nat} (h : ∀ n, o = some n → n < 2147483648) : (oi o = m1) ↔ o = none := by
  cases o with
  | none => exact iff_of_true rfl rfl
  | some n => rw [oi_some, io_m1 (h n rfl)]; exact iff_of_false not_false (by simp)
/-- what lies between two numbers, part of it added -/
theorem tw_io {a b d : Nat} (ha : a ≤ 20000) (hb : b ≤ 20000) (hd : 1 ≤ d ∧ d ≤ 20000) : io a + (io b - io a) / io d = io (tw a b d) := by
  apply Int32.toInt_inj.mp
  have e : ∀ {x : Int}, -1000000 ≤ x → x ≤ 1000000 → x.bmod (2 ^ 32) = x := fun {x} h1 h2 => Int.bmod_eq_of_le (by omega) (by omega)
  have e1 : (io b - io a).toInt = (b : Int) - a := by
    rw [Int32.toInt_sub, io_toInt (by omega), io_toInt (by omega), e (by omega) (by omega)]
  have e2 : ((io b - io a) / io d).toInt = ((b : Int) - a).tdiv d := by
    rw [Int32.toInt_div_of_ne_right _ _ (fun q => by have := (io_m1 (a := d) (by omega)).mp q; exact this), e1, io_toInt (by omega)]
  rw [Int32.toInt_add, e2, io_toInt (by omega), io_toInt (by have := tw_le (d := d) ha hb; omega)]
  unfold tw
  split
  · rename_i h
    have h1 : ((b : Int) - a).tdiv d = (((b - a) / d : Nat) : Int) := by
      rw [← Int.ofNat_sub h, Int.tdiv_eq_ediv_of_nonneg (by omega)]; rfl
    have h2 := Nat.div_le_self (b - a) d
    generalize (b - a) / d = x at h1 h2 ⊢
    rw [h1, e (by omega) (by omega)]; omega
  · rename_i h
    have h1 : ((b : Int) - a).tdiv d = -(((a - b) / d : Nat) : Int) := by
      have : (b : Int) - a = -(((a - b : Nat) : Int)) := by omega
      rw [this, Int.neg_tdiv, Int.tdiv_eq_ediv_of_nonneg (by omega)]; rfl
    have h2 := Nat.div_le_self (a - b) d
    generalize (a - b) / d = x at h1 h2 ⊢
    rw [h1, e (by omega) (by omega)]; omega
