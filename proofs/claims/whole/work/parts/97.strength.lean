/-! STRENGTH: what a piece must bear -/
def wb (c : Cf) (p b : Nat) : Cf := (c.1, fu2 c.2.1 p 2 b, c.2.2)
theorem plc_wb {c : Cf} {p b q s : Nat} : plc (wb c p b) q s = plc c q s := by
  unfold plc
  rw [show (wb c p b).2.1 q 3 = c.2.1 q 3 from fu2_ne (by omega), show (wb c p b).1 = c.1 from rfl]
theorem gl_wb {c : Cf} {p b q s : Nat} {sk : Nat → Nat} : gl (wb c p b) s sk q = gl c s sk q := by
  unfold gl mSum mCnt
  simp only [plc_wb]
  rfl
def kk (c : Cf) (s : Nat) (st : Nat → Ps) (p : Nat) : Nat := pull (c.1 2) (st p).1 (gl c s (fun q => (st q).1) p)
def rr (c : Cf) (s : Nat) (st : Nat → Ps) (p : Nat) : Nat := tw (st p).2.1 (kk c s st p) (c.2.1 p 1)
def zz (c : Cf) (s : Nat) (st : Nat → Ps) (p : Nat) : Option Nat := if c.1 5 ≤ (st p).2.1 ∧ rr c s st p < c.1 5 then some (apt (kk c s st p) (rr c s st p)) else (st p).2.2.1
def xx (c : Cf) (s : Nat) (st : Nat → Ps) (p : Nat) : Option Nat := if c.1 5 ≤ (st p).2.1 ∧ rr c s st p < c.1 5 then some (s + 1) else (st p).2.2.2.1
theorem fin_wb {c : Cf} {p b s k r : Nat} {q : Ps} {fz sx : Option Nat} : fin (wb c p b) s p k r q fz sx = if b < apt k r then (k, r, fz, sx, some (s + 1), 1) else if plc c p (s + 1) = 10 ∧ gts fz (b / 2) = true then (k, r, fz, sx, some (s + 1), 2) else (k, r, fz, sx, q.2.2.2.2.1, q.2.2.2.2.2) := by
  unfold fin
  rw [show (wb c p b).2.1 p 2 = b from fu2_eq, plc_wb]
theorem adv_p {c : Cf} {p b s : Nat} {st : Nat → Ps} (h1 : plc c p s ≠ 11) (h2 : plc c p s ≠ 10) (h3 : (st p).2.2.2.2.1 = none) : adv (wb c p b) s st p = fin (wb c p b) s p (kk c s st p) (rr c s st p) (st p) (zz c s st p) (xx c s st p) := by
  unfold adv
  rw [plc_wb, if_neg (by rintro (q | q | q); exact h1 q; exact h2 q; exact q h3)]
  unfold mid
  rw [gl_wb, show (wb c p b).2.1 p 1 = c.2.1 p 1 from fu2_ne (by omega), show (wb c p b).1 = c.1 from rfl]
  unfold zz xx rr kk
  split <;> rfl
theorem adv_n {c : Cf} {p b s q : Nat} {st : Nat → Ps} (h : plc c q s = 11 ∨ plc c q s = 10) : adv (wb c p b) s st q = st q := by
  unfold adv
  rw [plc_wb]
  exact if_pos (h.elim Or.inl (fun q => Or.inr (Or.inl q)))
theorem adv_q {c : Cf} {p b s q : Nat} {st : Nat → Ps} (h : q ≠ p) : adv (wb c p b) s st q = adv c s st q := by
  have e : ∀ v, (wb c p b).2.1 q v = c.2.1 q v := fun v => fu2_ne (by omega)
  unfold adv mid fin
  simp only [plc_wb, gl_wb, e, show (wb c p b).1 = c.1 from rfl]
/-- the course of a piece that bears all -/
def UU (c : Cf) (p : Nat) : Nat → Nat → Ps := run (wb c p 1000000)
theorem U_no {c : Cf} {p : Nat} (hok : OkC (wb c p 1000000)) (hp : p < c.1 7) : ∀ s, (UU c p s p).2.2.2.2.1 = none
  | 0 => rfl
  | s + 1 => by
    have ih := U_no hok hp s
    show (adv (wb c p 1000000) s (UU c p s) p).2.2.2.2.1 = none
    by_cases hm : plc c p s = 11 ∨ plc c p s = 10
    · rw [adv_n hm]; exact ih
    · have e := adv_p (b := 1000000) (st := UU c p s) (fun q => hm (Or.inl q)) (fun q => hm (Or.inr q)) ih
      have hl : (adv (wb c p 1000000) s (UU c p s) p).1 ≤ 20000 ∧ (adv (wb c p 1000000) s (UU c p s) p).2.1 ≤ 20000 := run_le hok (s + 1) p hp
      have hq : OkQ (s + 1) (adv (wb c p 1000000) s (UU c p s) p) := run_ok hok (s + 1) p hp
      rw [e] at hl hq ⊢
      rw [(fin_1 ..).1, (fin_1 ..).2] at hl
      have ha : apt (kk c s (UU c p s) p) (rr c s (UU c p s) p) ≤ 20000 := apt_le hl.1 hl.2
      rw [fin_wb, if_neg (by omega)] at hq ⊢
      have hz : gts (zz c s (UU c p s) p) (1000000 / 2) = false := by
        have hf : ∀ n, zz c s (UU c p s) p = some n → n ≤ 20000 := by
          intro n hn
          by_cases cc : plc c p (s + 1) = 10 ∧ gts (zz c s (UU c p s) p) (1000000 / 2) = true
          · rw [if_pos cc] at hq; exact hq.1 n hn
          · rw [if_neg cc] at hq; exact hq.1 n hn
        cases hzz : zz c s (UU c p s) p with
        | none => rfl
        | some n =>
          have := hf n hzz
          exact decide_eq_false (by omega)
      rw [if_neg (fun q => by rw [hz] at q; exact absurd q.2 (by decide))]
      exact ih
/-- the piece with bears b is sound up to s -/
def gd (c : Cf) (p b s : Nat) : Prop := ∀ j, j < s → ¬ (plc c p j = 11 ∨ plc c p j = 10) → apt (UU c p (j + 1) p).1 (UU c p (j + 1) p).2.1 ≤ b ∧ (plc c p (j + 1) = 10 → gts (UU c p (j + 1) p).2.2.1 (b / 2) = false)
theorem U_mv {c : Cf} {p : Nat} (hok : OkC (wb c p 1000000)) (hp : p < c.1 7) {s : Nat} (hm : ¬ (plc c p s = 11 ∨ plc c p s = 10)) : UU c p (s + 1) p = (kk c s (UU c p s) p, rr c s (UU c p s) p, zz c s (UU c p s) p, xx c s (UU c p s) p, none, (UU c p s p).2.2.2.2.2) := by
  have ih := U_no hok hp s
  have hn := U_no hok hp (s + 1)
  have e := adv_p (b := 1000000) (st := UU c p s) (fun q => hm (Or.inl q)) (fun q => hm (Or.inr q)) ih
  rw [fin_wb] at e
  have e2 : UU c p (s + 1) p = adv (wb c p 1000000) s (UU c p s) p := rfl
  rw [e2, e] at hn
  rw [e2, e]
  by_cases c1 : 1000000 < apt (kk c s (UU c p s) p) (rr c s (UU c p s) p)
  · rw [if_pos c1] at hn; exact absurd hn (by simp)
  rw [if_neg c1] at hn ⊢
  by_cases c2 : plc c p (s + 1) = 10 ∧ gts (zz c s (UU c p s) p) (1000000 / 2) = true
  · rw [if_pos c2] at hn; exact absurd hn (by simp)
  rw [if_neg c2, ih]
theorem sameU {c : Cf} {p : Nat} (hok : OkC (wb c p 1000000)) (hp : p < c.1 7) (b : Nat) : ∀ s, (gd c p b s → ∀ q, run (wb c p b) s q = UU c p s q) ∧ (¬ gd c p b s → (run (wb c p b) s p).2.2.2.2.1 ≠ none)
  | 0 => ⟨fun _ q => by
      show ((wb c p b).2.1 q 0, (wb c p b).2.1 q 0, none, none, none, 0) = ((wb c p 1000000).2.1 q 0, (wb c p 1000000).2.1 q 0, none, none, none, 0)
      rw [show (wb c p b).2.1 q 0 = c.2.1 q 0 from fu2_ne (by omega), show (wb c p 1000000).2.1 q 0 = c.2.1 q 0 from fu2_ne (by omega)], fun h => absurd (fun j hj => absurd hj (Nat.not_lt_zero _)) h⟩
  | s + 1 => by
    obtain ⟨ih1, ih2⟩ := sameU hok hp b s
    have estep : run (wb c p b) (s + 1) p = adv (wb c p b) s (run (wb c p b) s) p := rfl
    by_cases hg : gd c p b s
    · have same := ih1 hg
      have hst : run (wb c p b) s = UU c p s := funext same
      have key : (¬ (plc c p s = 11 ∨ plc c p s = 10) → apt (UU c p (s + 1) p).1 (UU c p (s + 1) p).2.1 ≤ b ∧ (plc c p (s + 1) = 10 → gts (UU c p (s + 1) p).2.2.1 (b / 2) = false)) ↔ gd c p b (s + 1) := by
        constructor
        · intro h j hj hm
          by_cases e : j = s
          · subst e; exact h hm
          · exact hg j (by omega) hm
        · intro h hm; exact h s (by omega) hm
      rw [← key]
      constructor
      · intro h q
        show adv (wb c p b) s (run (wb c p b) s) q = adv (wb c p 1000000) s (UU c p s) q
        rw [hst]
        by_cases e : q = p
        · subst e
          by_cases hm : plc c q s = 11 ∨ plc c q s = 10
          · rw [adv_n hm, adv_n hm]
          · have u := U_mv hok hp hm
            have h2 : apt (kk c s (UU c q s) q) (rr c s (UU c q s) q) ≤ b ∧ (plc c q (s + 1) = 10 → gts (zz c s (UU c q s) q) (b / 2) = false) := by
              have := h hm
              rw [u] at this
              exact this
            rw [adv_p (b := b) (fun q => hm (Or.inl q)) (fun q => hm (Or.inr q)) (U_no hok hp s), fin_wb, if_neg (by omega), if_neg (fun w => by have := h2.2 w.1; rw [this] at w; exact absurd w.2 (by decide)), U_no hok hp s]
            exact u.symm
        · rw [adv_q e, adv_q e]
      · intro h
        have hm : ¬ (plc c p s = 11 ∨ plc c p s = 10) := fun hm => h (fun h2 => absurd hm h2)
        have h2 := fun q => h (fun _ => q)
        rw [U_mv hok hp hm] at h2
        rw [estep, hst, adv_p (b := b) (fun q => hm (Or.inl q)) (fun q => hm (Or.inr q)) (U_no hok hp s), fin_wb]
        by_cases c1 : b < apt (kk c s (UU c p s) p) (rr c s (UU c p s) p)
        · rw [if_pos c1]; simp
        · rw [if_neg c1]
          by_cases c2 : plc c p (s + 1) = 10 ∧ gts (zz c s (UU c p s) p) (b / 2) = true
          · rw [if_pos c2]; simp
          · exact absurd ⟨by show apt (kk c s (UU c p s) p) (rr c s (UU c p s) p) ≤ b; omega, fun w => by
              cases hz : gts (zz c s (UU c p s) p) (b / 2) with
              | false => rfl
              | true => exact absurd ⟨w, hz⟩ c2⟩ h2
    · have hng : ¬ gd c p b (s + 1) := fun h => hg (fun j hj hm => h j (by omega) hm)
      have hc := ih2 hg
      refine ⟨fun h => absurd h hng, fun _ => ?_⟩
      have := run_stay (c := wb c p b) (s := s) (p := p) hc 1
      rw [this]; exact hc
theorem bestN_ge (f : Nat → Nat) : ∀ n s, s ≤ n → f s ≤ f (bestN f n)
  | 0, s, h => by rw [show s = 0 by omega]; exact Nat.le_refl _
  | n + 1, s, h => by
    simp only [bestN]
    by_cases e : s = n + 1
    · subst e
      split
      · assumption
      · exact Nat.le_refl _
    · have ih := bestN_ge f n s (by omega)
      split
      · exact ih
      · omega
def stU (c : Cf) (p s : Nat) : Nat := apt (UU c p s p).1 (UU c p s p).2.1
def dbl : Option Nat → Nat
  | none => 0
  | some m => 2 * m
def strN (c : Cf) (p lv : Nat) : Nat := max (stU c p (bestN (stU c p) (c.1 1))) (if lv ≤ c.1 1 then dbl (UU c p (c.1 1) p).2.2.1 else 0)
theorem U_stay {c : Cf} {p lv : Nat} (hpl : ∀ s, plc c p s = 10 ↔ lv ≤ s) {s : Nat} (hs : lv ≤ s) : ∀ k, UU c p (s + k) p = UU c p s p
  | 0 => rfl
  | k + 1 => by
    show adv (wb c p 1000000) (s + k) (UU c p (s + k)) p = _
    rw [adv_n (Or.inr ((hpl _).mpr (by omega)))]
    exact U_stay hpl hs k
theorem plc11 {c : Cf} {p s : Nat} (h6 : c.1 6 ≤ 7) : plc c p s = 11 ↔ s < c.2.1 p 3 := by
  unfold plc
  by_cases h : s < c.2.1 p 3
  · rw [if_pos h]; exact iff_of_true rfl h
  · rw [if_neg h]
    refine iff_of_false ?_ h
    split <;> omega
theorem U_none {c : Cf} {p : Nat} (h6 : c.1 6 ≤ 7) : ∀ s, plc c p s = 11 → (UU c p s p).2.2.1 = none
  | 0, _ => rfl
  | s + 1, h => by
    have h2 := (plc11 h6).mp h
    have h3 : plc c p s = 11 := (plc11 h6).mpr (by omega)
    show (adv (wb c p 1000000) s (UU c p s) p).2.2.1 = none
    rw [adv_n (Or.inl h3)]
    exact U_none h6 s h3
theorem gd_iff {c : Cf} {p lv b : Nat} (h6 : c.1 6 ≤ 7) (hpl : ∀ s, plc c p s = 10 ↔ lv ≤ s) : gd c p b (c.1 1) ↔ strN c p lv ≤ b := by
  constructor
  · intro h
    have h1 : ∀ s, s ≤ c.1 1 → stU c p s ≤ b := by
      intro s
      induction s with
      | zero => intro _; unfold stU apt; rw [show (UU c p 0 p).2.1 = (UU c p 0 p).1 from rfl]; simp
      | succ s ih =>
        intro hs
        by_cases hm : plc c p s = 11 ∨ plc c p s = 10
        · have : UU c p (s + 1) p = UU c p s p := adv_n hm
          unfold stU at ih ⊢
          rw [this]; exact ih (by omega)
        · exact (h s (by omega) hm).1
    have h2 : ∀ s, s ≤ c.1 1 → lv ≤ s → gts (UU c p s p).2.2.1 (b / 2) = false := by
      intro s
      induction s with
      | zero => intro _ _; rfl
      | succ s ih =>
        intro hs hl
        by_cases hm : plc c p s = 11 ∨ plc c p s = 10
        · have e : UU c p (s + 1) p = UU c p s p := adv_n hm
          rw [e]
          rcases hm with hm | hm
          · rw [U_none h6 s hm]; rfl
          · exact ih (by omega) ((hpl s).mp hm)
        · exact (h s (by omega) hm).2 ((hpl _).mpr hl)
    unfold strN
    have e1 := h1 (bestN (stU c p) (c.1 1)) (bestN_le _ _)
    by_cases hl : lv ≤ c.1 1
    · rw [if_pos hl]
      have e2 := h2 (c.1 1) (Nat.le_refl _) hl
      cases hz : (UU c p (c.1 1) p).2.2.1 with
      | none => simp only [dbl]; omega
      | some m =>
        rw [hz] at e2
        have e3 : ¬ b / 2 < m := of_decide_eq_false e2
        simp only [dbl]; omega
    · rw [if_neg hl]; omega
  · intro h j hj hm
    unfold strN at h
    have e1 := bestN_ge (stU c p) (c.1 1) (j + 1) (by omega)
    refine ⟨by show stU c p (j + 1) ≤ b; omega, fun hx => ?_⟩
    have hl := (hpl _).mp hx
    rw [if_pos (by omega)] at h
    have e2 := U_stay hpl hl (c.1 1 - (j + 1))
    rw [show j + 1 + (c.1 1 - (j + 1)) = c.1 1 by omega] at e2
    rw [e2] at h
    cases hz : (UU c p (j + 1) p).2.2.1 with
    | none => rfl
    | some m =>
      rw [hz] at h
      simp only [dbl] at h
      exact decide_eq_false (by omega)
theorem snd_iff {c : Cf} {p lv b : Nat} (hok : OkC (wb c p 1000000)) (hp : p < c.1 7) (hpl : ∀ s, plc c p s = 10 ↔ lv ≤ s) : snd (wb c p b) p = true ↔ strN c p lv ≤ b := by
  have h6 : c.1 6 ≤ 7 := hok.2.2.2.2.1
  rw [← gd_iff h6 hpl]
  obtain ⟨s1, s2⟩ := sameU hok hp b (c.1 1)
  unfold snd
  show decide ((run (wb c p b) (c.1 1) p).2.2.2.2.1 = none) = true ↔ _
  rw [decide_eq_true_iff]
  constructor
  · intro h
    exact Classical.byContradiction (fun hn => s2 hn h)
  · intro h
    rw [s1 h p]
    exact U_no hok hp (c.1 1)
