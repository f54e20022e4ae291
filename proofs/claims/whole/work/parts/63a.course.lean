/-! THE CLASS'S COURSE (course.py) -/
/-! course 25: belt 13, plan 14 -/
theorem rc_25 : rC 25 0 = 13 ∧ rC 25 1 = 14 ∧ rC 25 3 = 26 ∧ rC 25 4 = 27 ∧ rC 25 5 = 28 ∧ rC 25 6 = 29 ∧ rC 25 7 = 30 ∧ rC 25 8 = 31 ∧ rC 25 9 = 32 ∧ rC 13 0 = 14 ∧ rC 13 1 = 20 ∧ rC 14 8 = 15 ∧ rC 14 9 = 16 ∧ rC 14 10 = 17 ∧ rC 14 11 = 18 ∧ rC 14 12 = 19 ∧ rC 20 5 = 24 := by decide +kernel
theorem airC_25 {M M' : Mem} (h1 : M'.1 15 = M.1 15) (h2 : M'.1 24 = M.1 24) (z s g : Int32) : f_X1_airAt 13 z s g M' = f_X1_airAt 13 z s g M := by
  unfold f_X1_airAt
  simp only [(rc_25).2.2.2.2.2.2.2.2.2.1, (rc_25).2.2.2.2.2.2.2.2.2.2.1, (rc_25).2.2.2.2.2.2.2.2.2.2.2.1, (rc_25).2.2.2.2.2.2.2.2.2.2.2.2.2.2.2.2, h1, h2]
  rfl
def Cn_25 (c : Cf) (M : Mem) : Prop := (M.1 14 1 = io (c.1 1) ∧ M.1 14 2 = io (c.1 2) ∧ M.1 14 4 = io (c.1 4) ∧ M.1 14 5 = io (c.1 5) ∧ M.1 14 6 = io (c.1 6) ∧ M.1 14 7 = io (c.1 7)) ∧ (∀ p, p < c.1 7 → M.1 16 p = io (c.2.1 p 0) ∧ M.1 17 p = io (c.2.1 p 1) ∧ M.1 18 p = io (c.2.1 p 2) ∧ M.1 19 p = io (c.2.1 p 3)) ∧ (∀ z s, z < c.1 6 → s < 14 → f_X1_airAt 13 (io z) (io s) (M.1 25 2) M = some (io (c.2.2 z s)))
def Cs_25 : List Nat := [26, 27, 28, 29, 30, 31, 32]
theorem Cn_25_fr {c : Cf} {M M' : Mem} (h : Cn_25 c M) (hf : Fr Cs_25 M M') : Cn_25 c M' := by
  have g : ∀ a, a ∉ Cs_25 → M'.1 a = M.1 a := hf.1
  obtain ⟨h1, h2, h3⟩ := h
  refine ⟨?_, ?_, ?_⟩
  · rw [g 14 (by decide)]; exact h1
  · rw [g 16 (by decide), g 17 (by decide), g 18 (by decide), g 19 (by decide)]; exact h2
  · intro z s hz hs
    rw [airC_25 (g 15 (by decide)) (g 24 (by decide)), g 25 (by decide)]; exact h3 z s hz hs
/-- each piece that is followed stands at its own step -/
def Ct_25 (c : Cf) (W : Nat → Prop) (l : Nat) (t : Nat → Nat) (M : Mem) : Prop := ∀ p, p < c.1 7 → W p → (∀ s, s ≤ l → M.1 26 (p * 15 + s) = pli (plc c p s)) ∧ (∀ s, s ≤ t p → M.1 27 (p * 15 + s) = io (run c s p).1 ∧ M.1 28 (p * 15 + s) = io (run c s p).2.1) ∧ M.1 29 p = oi (run c (t p) p).2.2.2.2.1 ∧ M.1 30 p = io (run c (t p) p).2.2.2.2.2 ∧ M.1 31 p = oi (run c (t p) p).2.2.1 ∧ M.1 32 p = oi (run c (t p) p).2.2.2.1
theorem placeC_25 {c : Cf} {M : Mem} {p s : Nat} (hok : OkC c) (hc : Cn_25 c M) (hp : p < c.1 7) (hs : s ≤ 20) : f_X5_placeAt 14 (io p) (io s) M = some (pli (plc c p s)) := by
  obtain ⟨⟨h1, h2, h4, h5, h6, h7⟩, hpc, -⟩ := hc
  obtain ⟨hs1, hl, hpa, hset, hz, hnp, hpp, -⟩ := hok
  obtain ⟨-, -, -, e3⟩ := hpc p hp
  have hcm := (hpp p hp).2.2.2
  unfold f_X5_placeAt plc
  simp only [lit, letv_eq, nio1, (rc_25).2.2.2.2.2.2.2.2.2.2.2.2.2.2.2.1]
  rw [h7, h4, h6]
  simp (disch := omega) only [io_lt_f, io_le_f, if_false, oob_f, Bool.false_eq_true, ix_io, e3]
  by_cases hh : s < c.2.1 p 3
  · simp (disch := omega) only [io_le_f, if_false, if_pos hh, pli, if_true]
  · have hq : (s - c.2.1 p 3) / c.1 4 ≤ s := Nat.le_trans (Nat.div_le_self ..) (Nat.sub_le ..)
    simp (disch := omega) only [io_le_t, if_true, if_neg hh, io_ne, if_false, io_sub, io_div]
    by_cases hz2 : (s - c.2.1 p 3) / c.1 4 < c.1 6
    · rw [if_neg (by rw [io_le (by omega) (by omega)]; omega), if_pos hz2, pli_io (by omega)]
    · rw [if_pos (by rw [io_le (by omega) (by omega)]; omega), if_neg hz2]; rfl
theorem warmC_25 {c : Cf} {M : Mem} {a g : Nat} (hc : Cn_25 c M) (hl : c.1 2 ≤ 3) (ha : a ≤ 20000) (hg : g ≤ 20000) : io a + f_X2_warmingBy 25 (io g - io a) M = io (pull (c.1 2) a g) := by
  unfold f_X2_warmingBy
  rw [(rc_25).2.1, hc.1.2.1]
  simp only [lit]
  by_cases h1 : c.1 2 = 1
  · rw [if_pos (by rw [h1]), h1]; exact pull1_C ha hg
  · rw [if_neg (by rw [io_inj (by omega) (by omega)]; exact h1), pull_d h1]
    by_cases h3 : c.1 2 = 3
    · rw [if_pos (by rw [h3]), if_pos h3]; exact tw_io ha hg (by decide)
    · rw [if_neg (by rw [io_inj (by omega) (by omega)]; exact h3), if_neg h3]; exact tw_io ha hg (by decide)
theorem meanC_25 {c : Cf} {M : Mem} {p s a : Nat} {W : Nat → Prop} {l : Nat} {t : Nat → Nat} (hok : OkC c) (hc : Cn_25 c M) (hp : p < c.1 7) (hs : s ≤ l) (hl : l ≤ 14) (hT : Ct_25 c W l t M) (hw : ∀ q, q < c.1 7 → W q ∧ s ≤ t q) (hz : plc c p s < c.1 6) (ha : a ≤ 20000) : f_X2_meanAround 25 (io p) (io (plc c p s)) (io s) (io a) M = some (io ((a + mSum c (fun q => (run c s q).1) p s (plc c p s) (c.1 7)) / (1 + mCnt c p s (plc c p s) (c.1 7)))) := by
  have hle := run_le hok s
  have hS := fun n (hn : n ≤ c.1 7) => mSum_le (c := c) (sk := fun q => (run c s q).1) (p := p) (s := s) (z := plc c p s) (K := 20000) (n := n) (fun q hq => (hle q (by omega)).1)
  have hC := fun n => cN_le (fun q => decide (q ≠ p ∧ plc c q s = plc c p s)) n
  have h7 := hok.2.2.2.2.2.1
  unfold f_X2_meanAround
  refine up3 (fun i => io (a + mSum c (fun q => (run c s q).1) p s (plc c p s) i)) (fun i => io (1 + mCnt c p s (plc c p s) i)) (fun i => io i) (c.1 7) rfl rfl rfl (by omega) (fun i hi K => ?_) (fun K => ?_)
  · unfold L_X2_meanAround_10
    obtain ⟨hT1, hT2, -⟩ := hT i hi (hw i hi).1
    have e1 := hT1 s hs
    have e2 := (hT2 s (hw i hi).2).1
    have b1 := hS (i + 1) (by omega)
    have b2 := hC (i + 1)
    have b3 := hS i (by omega)
    have b4 := hC i
    simp only [(rc_25).2.1, (rc_25).2.2.1, (rc_25).2.2.2.1, hc.1.2.2.2.2.2, lit, letv_eq]
    simp (disch := omega) only [io_le_f, if_false, io_mul, io_add, oob_f, Bool.false_eq_true, ix_io, e1, e2]
    have hm1 : mSum c (fun q => (run c s q).1) p s (plc c p s) (i + 1) = mSum c (fun q => (run c s q).1) p s (plc c p s) i + (if i ≠ p ∧ plc c i s = plc c p s then (run c s i).1 else 0) := rfl
    have hm2 : mCnt c p s (plc c p s) (i + 1) = mCnt c p s (plc c p s) i + (if decide (i ≠ p ∧ plc c i s = plc c p s) = true then 1 else 0) := rfl
    have hpl : plc c i s < 2147483648 := by rcases plc_cases c i s with e | e | e <;> have := hok.2.2.2.2.1 <;> omega
    have hpl2 : plc c p s ≠ 11 := by have := hok.2.2.2.2.1; omega
    by_cases hip : i = p
    · rw [if_pos (by rw [hip]), hm1, hm2, if_neg (fun q => q.1 hip), if_neg (by simp [hip])]; rfl
    · rw [if_neg (by rw [io_inj (by omega) (by omega)]; exact hip), ← pli_io hpl2]
      by_cases hpz : plc c i s = plc c p s
      · rw [if_pos (by rw [hpz]), hm1, hm2, if_pos ⟨hip, hpz⟩, if_pos (by simp [hip, hpz])]
        simp only [Nat.add_assoc]
      · rw [if_neg (by rw [pli_inj hpl (by have := hok.2.2.2.2.1; omega)]; exact hpz), hm1, hm2, if_neg (fun q => hpz q.2), if_neg (by simp [hpz])]; rfl
  · unfold L_X2_meanAround_10
    have b1 := hS (c.1 7) (Nat.le_refl _)
    have b2 := hC (c.1 7)
    have hb : mCnt c p s (plc c p s) (c.1 7) ≤ 6 := by unfold mCnt; omega
    have hb2 : mCnt c p s (plc c p s) (c.1 7) * 20000 ≤ 6 * 20000 := Nat.mul_le_mul_right _ hb
    simp only [(rc_25).2.1, hc.1.2.2.2.2.2, lit]
    simp (disch := omega) only [io_le_t, if_true, io_ne, if_false, io_div]
theorem jsetC_25 {c : Cf} {M : Mem} {p s x d : Nat} {f : Option Nat} (hok : OkC c) (hc : Cn_25 c M) (hp : p < c.1 7) (hx : x < 90) (hd : d ≤ 20000) (hpl : M.1 26 x = pli (plc c p s)) (hf : M.1 31 p = oi f) (hfb : ∀ n, f = some n → n ≤ 20000) :
    J_X2_setAndCrack_74 25 (io p) (io s) (io x) (io d) M = some (if c.2.1 p 2 < d then st (st M 29 p (io s)) 30 p (io 1) else if plc c p s = 10 ∧ gts f (c.2.1 p 2 / 2) = true then st (st M 29 p (io s)) 30 p (io 2) else M) := by
  have h7 := hok.2.2.2.2.2.1
  have hb := (hc.2.1 p hp).2.2.1
  have hbb := (hok.2.2.2.2.2.2.1 p hp).2.2.1
  have hpl3 : plc c p s < 2147483648 := by rcases plc_cases c p s with e | e | e <;> have := hok.2.2.2.2.1 <;> omega
  unfold J_X2_setAndCrack_74
  simp only [(rc_25).2.1, (rc_25).2.2.1, (rc_25).2.2.2.2.2.1, (rc_25).2.2.2.2.2.2.1, (rc_25).2.2.2.2.2.2.2.1, (rc_25).2.2.2.2.2.2.2.2.2.2.2.2.2.2.1, lit, letv_eq]
  simp (disch := omega) only [oob_f, Bool.false_eq_true, if_false, ix_io, hb, hpl, hf, io_div]
  by_cases h1 : c.2.1 p 2 < d
  · rw [if_neg (by rw [io_le (by omega) (by omega)]; omega), if_pos h1]
  · rw [if_pos (by rw [io_le (by omega) (by omega)]; omega), if_neg h1]
    by_cases h2 : plc c p s = 10
    · rw [if_pos (by rw [h2]; rfl)]
      cases f with
      | none =>
        rw [if_pos (by rw [oi_none, m1_le (by omega)]; trivial), if_neg (by simp [gts])]
      | some n =>
        have := hfb n rfl
        by_cases h3 : c.2.1 p 2 / 2 < n
        · rw [if_neg (by rw [oi_some, io_le (by omega) (by omega)]; omega), if_pos ⟨h2, by simpa [gts] using h3⟩]
        · rw [if_pos (by rw [oi_some, io_le (by omega) (by omega)]; omega), if_neg (fun q => h3 (by simpa [gts] using q.2))]
    · rw [if_neg (by rw [pli_10 hpl3]; exact h2), if_neg (fun q => h2 q.1)]
/-- a piece's four numbers are put -/
def Pt_25 (p : Nat) (q : Ps) (M M' : Mem) : Prop := Fr [29, 30, 31, 32] M M' ∧ (∀ j, j ≠ p → M'.1 29 j = M.1 29 j ∧ M'.1 30 j = M.1 30 j ∧ M'.1 31 j = M.1 31 j ∧ M'.1 32 j = M.1 32 j) ∧ M'.1 29 p = oi q.2.2.2.2.1 ∧ M'.1 30 p = io q.2.2.2.2.2 ∧ M'.1 31 p = oi q.2.2.1 ∧ M'.1 32 p = oi q.2.2.2.1
theorem setC_25 {c : Cf} {M : Mem} {p s k r : Nat} {q : Ps} (hok : OkC c) (hc : Cn_25 c M) (hp : p < c.1 7) (hs : s < 14) (hk : k ≤ 20000) (hr : r ≤ 20000) (hq : q.2.1 ≤ 20000) (hsk : M.1 27 (p * 15 + (s + 1)) = io k) (hco : M.1 28 (p * 15 + (s + 1)) = io r) (hcq : M.1 28 (p * 15 + s) = io q.2.1) (hck : M.1 29 p = oi q.2.2.2.2.1) (hwy : M.1 30 p = io q.2.2.2.2.2) (hfz : M.1 31 p = oi q.2.2.1) (hsx : M.1 32 p = oi q.2.2.2.1) (hfb : ∀ n, q.2.2.1 = some n → n ≤ 20000) (hpl : M.1 26 (p * 15 + (s + 1)) = pli (plc c p (s + 1))) :
    ∃ M', f_X2_setAndCrack 25 (io p) (io (s + 1)) M = some M' ∧ Pt_25 p (mid c s p k r q) M M' := by
  have h7 := hok.2.2.2.2.2.1
  have h5 := hok.2.2.2.1
  have hd : apt k r ≤ 20000 := apt_le hk hr
  unfold f_X2_setAndCrack
  simp only [(rc_25).2.1, (rc_25).2.2.2.1, (rc_25).2.2.2.2.1, (rc_25).2.2.2.2.2.2.2.1, (rc_25).2.2.2.2.2.2.2.2.1, lit, letv_eq, hc.1.2.2.2.1]
  simp (disch := omega) only [io_mul, io_add, oob_f, Bool.false_eq_true, if_false, ix_io, hsk, hco, abs_io, io_sub]
  have ex : p * 15 + (s + 1) - 1 = p * 15 + s := by omega
  rw [ex, hcq]
  have eJ : ∀ M1 : Mem, Fr [31, 32] M M1 → ∀ f, M1.1 31 p = oi f → (∀ n, f = some n → n ≤ 20000) → J_X2_setAndCrack_74 25 (io p) (io (s + 1)) (io (p * 15 + (s + 1))) (io (apt k r)) M1 = some (if c.2.1 p 2 < apt k r then st (st M1 29 p (io (s + 1))) 30 p (io 1) else if plc c p (s + 1) = 10 ∧ gts f (c.2.1 p 2 / 2) = true then st (st M1 29 p (io (s + 1))) 30 p (io 2) else M1) := fun M1 hf f hf1 hf2 =>
    jsetC_25 hok (Cn_25_fr hc (hf.mono (by decide))) hp (by omega) hd (by rw [hf.1 26 (by decide)]; exact hpl) hf1 hf2
  have fin1 : ∀ M1 : Mem, ∀ f x, Fr [31, 32] M M1 → (∀ j, j ≠ p → M1.1 31 j = M.1 31 j ∧ M1.1 32 j = M.1 32 j) → M1.1 31 p = oi f → M1.1 32 p = oi x → Pt_25 p (fin c s p k r q f x) M (if c.2.1 p 2 < apt k r then st (st M1 29 p (io (s + 1))) 30 p (io 1) else if plc c p (s + 1) = 10 ∧ gts f (c.2.1 p 2 / 2) = true then st (st M1 29 p (io (s + 1))) 30 p (io 2) else M1) := by
    intro M1 f x hf ho hf1 hx1
    have e29 := hf.1 29 (by decide)
    have e30 := hf.1 30 (by decide)
    have hF : Fr [29, 30, 31, 32] M M1 := hf.mono (by decide)
    unfold fin
    split
    · exact ⟨(hF.sto (by decide)).sto (by decide), fun j hj => by simp [st, hj, ho j hj, e29, e30], by simp [st, oi_some], by simp [st], by simp [st, hf1], by simp [st, hx1]⟩
    · split
      · exact ⟨(hF.sto (by decide)).sto (by decide), fun j hj => by simp [st, hj, ho j hj, e29, e30], by simp [st, oi_some], by simp [st], by simp [st, hf1], by simp [st, hx1]⟩
      · exact ⟨hF, fun j hj => by simp [ho j hj, e29, e30], by rw [e29]; exact hck, by rw [e30]; exact hwy, hf1, hx1⟩
  unfold mid
  by_cases hA : c.1 5 ≤ q.2.1 ∧ r < c.1 5
  · rw [if_neg (by rw [io_lt (by omega) (by omega)]; omega), if_neg (by rw [io_le (by omega) (by omega)]; omega), if_pos hA]
    refine ⟨_, eJ _ (Fr.sto (Fr.sto Fr.rfl (by decide)) (by decide)) (some (apt k r)) (by simp [st, oi_some]) (fun n e => by cases e; exact hd), ?_⟩
    exact fin1 _ _ _ (Fr.sto (Fr.sto Fr.rfl (by decide)) (by decide)) (fun j hj => by simp [st, hj]) (by simp [st, oi_some]) (by simp [st, oi_some])
  · rw [if_neg hA]
    have eR := fin1 M q.2.2.1 q.2.2.2.1 Fr.rfl (fun j hj => ⟨rfl, rfl⟩) hfz hsx
    by_cases hB : q.2.1 < c.1 5
    · rw [if_pos (by rw [io_lt (by omega) (by omega)]; exact hB)]
      exact ⟨_, eJ M Fr.rfl q.2.2.1 hfz hfb, eR⟩
    · rw [if_neg (by rw [io_lt (by omega) (by omega)]; exact hB), if_pos (by rw [io_le (by omega) (by omega)]; omega)]
      exact ⟨_, eJ M Fr.rfl q.2.2.1 hfz hfb, eR⟩
theorem ctput_25 {c : Cf} {W : Nat → Prop} {l : Nat} {t : Nat → Nat} {M M' : Mem} {p s : Nat} (hT : Ct_25 c W l t M) (ht : t p = s) (htl : ∀ q, t q ≤ 14) (hs : s < 14) (hpl : M'.1 26 = M.1 26) (hsk : ∀ j, j ≠ p * 15 + (s + 1) → M'.1 27 j = M.1 27 j ∧ M'.1 28 j = M.1 28 j) (hn : M'.1 27 (p * 15 + (s + 1)) = io (run c (s + 1) p).1 ∧ M'.1 28 (p * 15 + (s + 1)) = io (run c (s + 1) p).2.1) (ho : ∀ j, j ≠ p → M'.1 29 j = M.1 29 j ∧ M'.1 30 j = M.1 30 j ∧ M'.1 31 j = M.1 31 j ∧ M'.1 32 j = M.1 32 j) (h1 : M'.1 29 p = oi (run c (s + 1) p).2.2.2.2.1) (h2 : M'.1 30 p = io (run c (s + 1) p).2.2.2.2.2) (h3 : M'.1 31 p = oi (run c (s + 1) p).2.2.1) (h4 : M'.1 32 p = oi (run c (s + 1) p).2.2.2.1) : Ct_25 c W l (fun q => if q = p then s + 1 else t q) M' := by
  intro q hq hw
  obtain ⟨a1, a2, a3, a4, a5, a6⟩ := hT q hq hw
  by_cases h : q = p
  · subst h
    simp only [if_true]
    refine ⟨fun s' hs' => by rw [hpl]; exact a1 s' hs', fun s' hs' => ?_, h1, h2, h3, h4⟩
    by_cases h5 : s' = s + 1
    · subst h5; exact hn
    · have := hsk (q * 15 + s') (by omega)
      rw [this.1, this.2]
      exact a2 s' (by omega)
  · simp only [if_neg h]
    have := ho q h
    refine ⟨fun s' hs' => by rw [hpl]; exact a1 s' hs', fun s' hs' => ?_, by rw [this.1]; exact a3, by rw [this.2.1]; exact a4, by rw [this.2.2.1]; exact a5, by rw [this.2.2.2]; exact a6⟩
    have h6 := htl q
    have := hsk (q * 15 + s') (by omega)
    rw [this.1, this.2]
    exact a2 s' hs'
theorem ctsto_25 {c : Cf} {W : Nat → Prop} {l : Nat} {t : Nat → Nat} {M M' : Mem} {p s : Nat} (hT : Ct_25 c W l t M) (ht : t p = s) (htl : ∀ q, t q ≤ 14) (hs : s < 14) (hf : Fr [27, 28] M M') (hsk : ∀ j, j ≠ p * 15 + (s + 1) → M'.1 27 j = M.1 27 j ∧ M'.1 28 j = M.1 28 j) : Ct_25 c W l t M' := by
  intro q hq hw
  obtain ⟨a1, a2, a3, a4, a5, a6⟩ := hT q hq hw
  refine ⟨fun s' hs' => by rw [hf.1 26 (by decide)]; exact a1 s' hs', fun s' hs' => ?_, by rw [hf.1 29 (by decide)]; exact a3, by rw [hf.1 30 (by decide)]; exact a4, by rw [hf.1 31 (by decide)]; exact a5, by rw [hf.1 32 (by decide)]; exact a6⟩
  have h6 := htl q
  have : q * 15 + s' ≠ p * 15 + (s + 1) := by
    by_cases h : q = p
    · subst h; omega
    · omega
  rw [(hsk _ this).1, (hsk _ this).2]
  exact a2 s' hs'
theorem advC_25 {c : Cf} {M : Mem} {p s l : Nat} {W : Nat → Prop} {t : Nat → Nat} (hok : OkC c) (hc : Cn_25 c M) (hp : p < c.1 7) (hs : s < l) (hl : l ≤ 14) (hT : Ct_25 c W l t M) (hw : W p) (ht : t p = s) (htl : ∀ q, t q ≤ 14) (h2 : c.1 2 = 2 → ∀ q, q < c.1 7 → W q ∧ s ≤ t q) : ∃ M', f_X2_advance 25 (io p) (io s) M = some M' ∧ Ct_25 c W l (fun q => if q = p then s + 1 else t q) M' ∧ Fr Cs_25 M M' := by
  have h7 := hok.2.2.2.2.2.1
  have h6 := hok.2.2.2.2.1
  have hle := run_le hok s
  have hok2 := run_ok hok s p hp
  obtain ⟨a1, a2, a3, a4, a5, a6⟩ := hT p hp hw
  rw [ht] at a2 a3 a4 a5 a6
  have e1 := (a2 s (Nat.le_refl _)).1
  have e2 := (a2 s (Nat.le_refl _)).2
  have e3 := a1 s (by omega)
  have hth := (hok.2.2.2.2.2.2.1 p hp).2.1
  have hpl3 : plc c p s < 2147483648 := by rcases plc_cases c p s with e | e | e <;> omega
  unfold f_X2_advance
  simp only [(rc_25).2.1, (rc_25).1, (rc_25).2.2.1, (rc_25).2.2.2.1, (rc_25).2.2.2.2.1, (rc_25).2.2.2.2.2.1, (rc_25).2.2.2.2.2.2.2.2.2.2.2.2.2.1, lit, letv_eq, nio1]
  simp (disch := omega) only [io_mul, io_add, oob_f, Bool.false_eq_true, if_false, ix_io]
  have hM6 : ∀ M6, M6 = st (st M 27 (p * 15 + s + 1) (M.1 27 (p * 15 + s))) 28 (p * 15 + s + 1) ((st M 27 (p * 15 + s + 1) (M.1 27 (p * 15 + s))).1 28 (p * 15 + s)) → Fr [27, 28] M M6 ∧ (∀ j, j ≠ p * 15 + (s + 1) → M6.1 27 j = M.1 27 j ∧ M6.1 28 j = M.1 28 j) ∧ M6.1 27 (p * 15 + (s + 1)) = io (run c s p).1 ∧ M6.1 28 (p * 15 + (s + 1)) = io (run c s p).2.1 := by
    intro M6 e
    subst e
    refine ⟨(Fr.rfl.sto (by decide)).sto (by decide), fun j hj => ?_, ?_, ?_⟩
    · have : j ≠ p * 15 + s + 1 := hj
      simp [st, this]
    · simp [st, ← Nat.add_assoc, e1]
    · simp [st, ← Nat.add_assoc, e2]
  generalize hg : st (st M 27 (p * 15 + s + 1) (M.1 27 (p * 15 + s))) 28 (p * 15 + s + 1) ((st M 27 (p * 15 + s + 1) (M.1 27 (p * 15 + s))).1 28 (p * 15 + s)) = M6
  obtain ⟨g1, g2, g3, g4⟩ := hM6 M6 hg.symm
  have hc6 := Cn_25_fr hc (g1.mono (by decide))
  have hT6 := ctsto_25 hT ht htl (by omega) g1 g2
  have hF6 : Fr Cs_25 M M6 := g1.mono (by decide)
  rw [g1.1 26 (by decide), e3, (hc6.2.1 p hp).2.1, g1.1 29 (by decide), a3]
  have still : (plc c p s = 11 ∨ plc c p s = 10 ∨ (run c s p).2.2.2.2.1 ≠ none) → Ct_25 c W l (fun q => if q = p then s + 1 else t q) M6 := by
    intro hst
    have er : run c (s + 1) p = run c s p := if_pos hst
    exact ctput_25 hT ht htl (by omega) (g1.1 26 (by decide)) g2 (by rw [er]; exact ⟨g3, g4⟩) (fun j hj => by rw [g1.1 29 (by decide), g1.1 30 (by decide), g1.1 31 (by decide), g1.1 32 (by decide)]; exact ⟨rfl, rfl, rfl, rfl⟩) (by rw [er, g1.1 29 (by decide)]; exact a3) (by rw [er, g1.1 30 (by decide)]; exact a4) (by rw [er, g1.1 31 (by decide)]; exact a5) (by rw [er, g1.1 32 (by decide)]; exact a6)
  by_cases hz1 : plc c p s = 11
  · rw [if_pos (by rw [hz1]; rfl)]
    exact ⟨M6, rfl, still (Or.inl hz1), hF6⟩
  rw [if_neg (by rw [pli_m1 hpl3]; exact hz1)]
  by_cases hz2 : plc c p s = 10
  · rw [if_pos (by rw [hz2]; rfl)]
    exact ⟨M6, rfl, still (Or.inr (Or.inl hz2)), hF6⟩
  rw [if_neg (by rw [pli_10 hpl3]; exact hz2)]
  have hz : plc c p s < c.1 6 := by
    rcases plc_cases c p s with e | e | e
    · exact absurd e hz1
    · exact absurd e hz2
    · exact e
  rcases (Classical.em ((run c s p).2.2.2.2.1 = none)).symm with hk | hk
  · rw [if_neg (by rw [oi_m1 (fun n e => by have := hok2.2.2.1 n e; omega)]; exact hk)]
    exact ⟨M6, rfl, still (Or.inr (Or.inr hk)), hF6⟩
  rw [if_pos (by rw [hk]; rfl), if_pos (by rw [io_le (by omega) (by omega)]; omega)]
  rw [pli_io hz1, hc6.2.2 _ _ hz (by omega)]
  simp only [bnd_s]
  have hair := hok.2.2.2.2.2.2.2 _ s hz
  have hgl := gl_le (c := c) (s := s) (p := p) (sk := fun q => (run c s q).1) (fun q hq => (hle q hq).1) hz hok.2.2.2.2.2.2.2
  have hJ : ∃ M', J_X2_advance_123 25 (io p) (io s) (io (p * 15 + s)) (io (c.2.1 p 1)) (io (gl c s (fun q => (run c s q).1) p)) M6 = some M' ∧ Ct_25 c W l (fun q => if q = p then s + 1 else t q) M' ∧ Fr Cs_25 M M' := by
    have hsk6 := (hle p hp).1
    have hco6 := (hle p hp).2
    have hnk := pull_le (l := c.1 2) hsk6 hgl
    have hnc := tw_le (d := c.2.1 p 1) hco6 hnk
    have g5 : M6.1 27 (p * 15 + s) = io (run c s p).1 := by rw [(g2 _ (by omega)).1]; exact e1
    have g6 : M6.1 28 (p * 15 + s) = io (run c s p).2.1 := by rw [(g2 _ (by omega)).2]; exact e2
    have wv := warmC_25 hc6 hok.2.1 hsk6 hgl
    unfold J_X2_advance_123
    simp only [(rc_25).2.2.2.1, (rc_25).2.2.2.2.1, lit, letv_eq]
    simp (disch := omega) only [io_add, oob_f, Bool.false_eq_true, if_false, ix_io, Nat.add_assoc, g3, g5, wv, io_ne]
    generalize hg7 : st M6 27 (p * 15 + (s + 1)) (io (pull (c.1 2) (run c s p).1 (gl c s (fun q => (run c s q).1) p))) = M7
    have k1 : M7.1 28 (p * 15 + (s + 1)) = io (run c s p).2.1 := by subst hg7; simp [st, g4]
    have k2 : M7.1 27 (p * 15 + (s + 1)) = io (pull (c.1 2) (run c s p).1 (gl c s (fun q => (run c s q).1) p)) := by subst hg7; simp [st]
    have k3 : M7.1 28 (p * 15 + s) = io (run c s p).2.1 := by subst hg7; simp [st, g6]
    rw [k1, k2, k3, tw_io hco6 hnk (by omega)]
    generalize hg8 : st M7 28 (p * 15 + (s + 1)) (io (tw (run c s p).2.1 (pull (c.1 2) (run c s p).1 (gl c s (fun q => (run c s q).1) p)) (c.2.1 p 1))) = M8
    have f8 : Fr [27, 28] M6 M8 := by subst hg8; subst hg7; exact (Fr.rfl.sto (by decide)).sto (by decide)
    have hc8 := Cn_25_fr hc6 (f8.mono (by decide))
    obtain ⟨M9, hM9, hP⟩ := setC_25 (s := s) (k := pull (c.1 2) (run c s p).1 (gl c s (fun q => (run c s q).1) p)) (r := tw (run c s p).2.1 (pull (c.1 2) (run c s p).1 (gl c s (fun q => (run c s q).1) p)) (c.2.1 p 1)) (q := run c s p) hok hc8 hp (by omega) hnk hnc hco6 (by subst hg8; simp [st, k2]) (by subst hg8; simp [st]) (by subst hg8; simp [st, k3]) (by rw [f8.1 29 (by decide), g1.1 29 (by decide)]; exact a3) (by rw [f8.1 30 (by decide), g1.1 30 (by decide)]; exact a4) (by rw [f8.1 31 (by decide), g1.1 31 (by decide)]; exact a5) (by rw [f8.1 32 (by decide), g1.1 32 (by decide)]; exact a6) hok2.1 (by rw [f8.1 26 (by decide), g1.1 26 (by decide)]; exact a1 (s + 1) (by omega))
    rw [hM9]
    refine ⟨M9, rfl, ?_, ?_⟩
    · have er : run c (s + 1) p = mid c s p (pull (c.1 2) (run c s p).1 (gl c s (fun q => (run c s q).1) p)) (tw (run c s p).2.1 (pull (c.1 2) (run c s p).1 (gl c s (fun q => (run c s q).1) p)) (c.2.1 p 1)) (run c s p) := if_neg (fun q => by rcases q with q | q | q; exact hz1 q; exact hz2 q; exact q hk)
      refine ctput_25 hT ht htl (by omega) ?_ ?_ ?_ ?_ ?_ ?_ ?_ ?_
      · rw [hP.1.1 26 (by decide), f8.1 26 (by decide), g1.1 26 (by decide)]
      · intro j hj
        rw [hP.1.1 27 (by decide), hP.1.1 28 (by decide), ← (g2 j hj).1, ← (g2 j hj).2]
        subst hg8; subst hg7
        simp [st, hj]
      · rw [er, (mid_1 ..).1, (mid_1 ..).2, hP.1.1 27 (by decide), hP.1.1 28 (by decide)]
        subst hg8
        exact ⟨by simp [st, k2], by simp [st]⟩
      · intro j hj
        have h9 := hP.2.1 j hj
        rw [f8.1 29 (by decide), g1.1 29 (by decide), f8.1 30 (by decide), g1.1 30 (by decide), f8.1 31 (by decide), g1.1 31 (by decide), f8.1 32 (by decide), g1.1 32 (by decide)] at h9
        exact h9
      · rw [er]; exact hP.2.2.1
      · rw [er]; exact hP.2.2.2.1
      · rw [er]; exact hP.2.2.2.2.1
      · rw [er]; exact hP.2.2.2.2.2
    · exact (hF6.trans (f8.mono (by decide))).trans (hP.1.mono (by decide))
  rw [hc6.1.2.1]
  by_cases hl2 : c.1 2 = 2
  · rw [if_pos (by rw [hl2]), meanC_25 hok hc6 hp (by omega) hl hT6 (h2 hl2) hz hair]
    simp only [bnd_s]
    unfold gl at hJ
    rw [if_pos hl2] at hJ
    exact hJ
  · rw [if_neg (by rw [io_inj (by have := hok.2.1; omega) (by omega)]; exact hl2)]
    unfold gl at hJ
    rw [if_neg hl2] at hJ
    exact hJ
theorem ctcongr_25 {c : Cf} {W W' : Nat → Prop} {l : Nat} {t t' : Nat → Nat} {M : Mem} (hT : Ct_25 c W l t M) (hw : ∀ q, q < c.1 7 → W' q → W q) (ht : ∀ q, q < c.1 7 → W' q → t q = t' q) : Ct_25 c W' l t' M := by
  intro q hq hwq
  have h := hT q hq (hw q hq hwq)
  rw [ht q hq hwq] at h
  exact h
theorem beginC_25 {c : Cf} {M : Mem} {p l : Nat} {W : Nat → Prop} (hok : OkC c) (hc : Cn_25 c M) (hp : p < c.1 7) (hl : l ≤ 14) (hT : Ct_25 c W l (fun _ => 0) M) : ∃ M', f_X2_begin 25 (io p) (io l) M = some M' ∧ Ct_25 c (fun q => W q ∨ q = p) l (fun _ => 0) M' ∧ Fr Cs_25 M M' := by
  have h7 := hok.2.2.2.2.2.1
  have hh := (hc.2.1 p hp).1
  unfold f_X2_begin
  simp only [(rc_25).2.1, (rc_25).2.2.2.1, (rc_25).2.2.2.2.1, (rc_25).2.2.2.2.2.1, (rc_25).2.2.2.2.2.2.1, (rc_25).2.2.2.2.2.2.2.1, (rc_25).2.2.2.2.2.2.2.2.1, (rc_25).2.2.2.2.2.2.2.2.2.2.2.2.1, lit, letv_eq, nio1]
  simp (disch := omega) only [io_mul, oob_f, Bool.false_eq_true, if_false, ix_io]
  generalize hg : st (st (st (st (st (st M 27 (p * 15) (M.1 16 p)) 28 (p * 15) ((st M 27 (p * 15) (M.1 16 p)).1 16 p)) 29 p m1) 30 p (io 0)) 31 p m1) 32 p m1 = M1
  have hF1 : Fr Cs_25 M M1 := by
    subst hg
    exact (((((Fr.rfl.sto (by decide)).sto (by decide)).sto (by decide)).sto (by decide)).sto (by decide)).sto (by decide)
  have k1 : M1.1 27 (p * 15) = io (c.2.1 p 0) := by subst hg; simp [st, hh]
  have k2 : M1.1 28 (p * 15) = io (c.2.1 p 0) := by subst hg; simp [st, hh]
  have k3 : M1.1 29 p = m1 ∧ M1.1 30 p = io 0 ∧ M1.1 31 p = m1 ∧ M1.1 32 p = m1 := by subst hg; simp [st]
  have k4 : ∀ j, j ≠ p → M1.1 29 j = M.1 29 j ∧ M1.1 30 j = M.1 30 j ∧ M1.1 31 j = M.1 31 j ∧ M1.1 32 j = M.1 32 j := by
    intro j hj
    subst hg; simp [st, hj]
  have k5 : ∀ j, j ≠ p * 15 → M1.1 27 j = M.1 27 j ∧ M1.1 28 j = M.1 28 j := by
    intro j hj
    subst hg; simp [st, hj]
  have k6 : M1.1 26 = M.1 26 := by subst hg; funext j; simp [st]
  obtain ⟨x, M2, ⟨hx, hF2, hq1, hq2⟩, hM2⟩ := in2 (b := L_X2_begin_66 25 (io p) (io l) (io (p * 15))) (fun i x M2 => x = io i ∧ Fr [26] M1 M2 ∧ (∀ s, s < i → M2.1 26 (p * 15 + s) = pli (plc c p s)) ∧ ∀ q s, q ≠ p → s ≤ 14 → M2.1 26 (q * 15 + s) = M1.1 26 (q * 15 + s)) (fun _ M => some M) (l + 1) (x := io 0) (y := M1) ⟨rfl, Fr.rfl, fun s hs => absurd hs (Nat.not_lt_zero _), fun q s _ _ => rfl⟩ (by omega) (fun i x M2 hi h => by
      obtain ⟨rfl, hF, h1, h2⟩ := h
      have hc2 := Cn_25_fr hc (hF1.trans (hF.mono (by decide)))
      refine ⟨io (i + 1), st M2 26 (p * 15 + i) (pli (plc c p i)), ⟨rfl, hF.sto (by decide), ?_, ?_⟩, fun K => ?_⟩
      · intro s hs
        by_cases e : s = i
        · subst e; simp [st]
        · have := h1 s (by omega)
          simp [st, e, this]
      · intro q s hq hs
        have : q * 15 + s ≠ p * 15 + i := by omega
        simp [st, this, h2 q s hq hs]
      · unfold L_X2_begin_66
        simp only [(rc_25).2.1, (rc_25).2.2.1, lit, letv_eq]
        rw [if_neg (by rw [io_lt (by omega) (by omega)]; omega), placeC_25 hok hc2 hp (by omega)]
        simp (disch := omega) only [bnd_s, io_add, oob_f, Bool.false_eq_true, if_false, ix_io]) (fun x M2 h K => by
      obtain ⟨rfl, -⟩ := h
      unfold L_X2_begin_66
      rw [if_pos (by rw [io_lt (by omega) (by omega)]; omega)])
  rw [hM2]
  refine ⟨M2, rfl, ?_, hF1.trans (hF2.mono (by decide))⟩
  intro q hq hw
  have g : ∀ a, a ∉ [26] → M2.1 a = M1.1 a := hF2.1
  simp only [g 27 (by decide), g 28 (by decide), g 29 (by decide), g 30 (by decide), g 31 (by decide), g 32 (by decide)]
  by_cases e : q = p
  · subst e
    refine ⟨fun s hs => hq1 s (by omega), fun s hs => ?_, k3.1, k3.2.1, k3.2.2.1, k3.2.2.2⟩
    have : s = 0 := by omega
    subst this
    exact ⟨k1, k2⟩
  · obtain ⟨a1, a2, a3, a4, a5, a6⟩ := hT q hq (hw.resolve_right e)
    have k := k4 q e
    refine ⟨fun s hs => by rw [hq2 q s e (by omega), k6]; exact a1 s hs, fun s hs => ?_, by rw [k.1]; exact a3, by rw [k.2.1]; exact a4, by rw [k.2.2.1]; exact a5, by rw [k.2.2.2]; exact a6⟩
    have k5' := k5 (q * 15 + s) (by omega)
    rw [k5'.1, k5'.2]
    exact a2 s hs
theorem followL_25 {c : Cf} {M : Mem} {d : Int32} {u pw : Int32} {w l : Nat} (hok : OkC c) (hc : Cn_25 c M) (hl : l ≤ 14) (hw : w < 64) (h2 : c.1 2 = 2 → w = 63) : ∃ M', lq2 (L_X2_follow_46 25 d u pw (io w) (io l)) FU 0 M = some M' ∧ Ct_25 c (fun q => w.testBit q = true) l (fun _ => l) M' ∧ Fr Cs_25 M M' := by
  have h7 := hok.2.2.2.2.2.1
  have w63 : w = 63 → ∀ q, q < 6 → w.testBit q = true := by intro e; subst e; decide
  obtain ⟨x, M1, ⟨hx, hT1, hF1⟩, hM1⟩ := in2 (b := L_X2_follow_46 25 d u pw (io w) (io l)) (fun i x M1 => x = io i ∧ Ct_25 c (fun q => q < i ∧ w.testBit q = true) l (fun _ => 0) M1 ∧ Fr Cs_25 M M1) (fun _ M => lq2 (L_X2_follow_85 25 d u pw (io w) (io l)) FU 0 M) (c.1 7) (x := 0) (y := M) ⟨rfl, fun q hq hw => absurd hw.1 (Nat.not_lt_zero _), Fr.rfl⟩ (by omega) (fun i x M1 hi h => by
      obtain ⟨rfl, hT, hF⟩ := h
      have hc1 := Cn_25_fr hc hF
      by_cases hb : w.testBit i = true
      · obtain ⟨M2, hM2, hT2, hF2⟩ := beginC_25 hok hc1 hi hl hT
        refine ⟨io (i + 1), M2, ⟨rfl, ctcongr_25 hT2 (fun q hq hw => ?_) (fun q hq hw => rfl), hF.trans hF2⟩, fun K => ?_⟩
        · by_cases e : q = i
          · exact Or.inr e
          · exact Or.inl ⟨by omega, hw.2⟩
        · unfold L_X2_follow_46
          simp only [(rc_25).2.1, lit]
          rw [hc1.1.2.2.2.2.2, if_neg (by rw [io_le (by omega) (by omega)]; omega), io_shr (by omega) (by omega), if_pos hb, if_neg (by decide), hM2]
          simp only [bnd_s, io_add]
      · refine ⟨io (i + 1), M1, ⟨rfl, ctcongr_25 hT (fun q hq hw => ?_) (fun q hq hw => rfl), hF⟩, fun K => ?_⟩
        · by_cases e : q = i
          · subst e; exact absurd hw.2 hb
          · exact ⟨by omega, hw.2⟩
        · unfold L_X2_follow_46
          simp only [(rc_25).2.1, lit]
          rw [hc1.1.2.2.2.2.2, if_neg (by rw [io_le (by omega) (by omega)]; omega), io_shr (by omega) (by omega), if_neg hb, if_pos rfl]
          simp only [io_add]) (fun x M1 h K => by
      obtain ⟨rfl, hT, hF⟩ := h
      have hc1 := Cn_25_fr hc hF
      unfold L_X2_follow_46
      simp only [(rc_25).2.1]
      rw [hc1.1.2.2.2.2.2, if_pos (by rw [io_le (by omega) (by omega)]; omega)])
  rw [hM1]
  clear hM1
  have hT1' : Ct_25 c (fun q => w.testBit q = true) l (fun _ => 0) M1 := ctcongr_25 hT1 (fun q hq hw => ⟨hq, hw⟩) (fun q hq hw => rfl)
  obtain ⟨x2, M2, ⟨hx2, hT2, hF2⟩, hM2⟩ := in2 (b := L_X2_follow_85 25 d u pw (io w) (io l)) (fun s x M2 => x = io s ∧ Ct_25 c (fun q => w.testBit q = true) l (fun _ => s) M2 ∧ Fr Cs_25 M M2) (fun _ M => some M) l (x := 0) (y := M1) ⟨rfl, hT1', hF1⟩ (by omega) (fun s x M2 hs h => by
      obtain ⟨rfl, hT, hF⟩ := h
      obtain ⟨y, M3, ⟨hy, hT3, hF3⟩, hM3⟩ := in2k (κ := Int32 → Mem → Option Mem) (b := fun K => L_X2_follow_95 25 d u pw (io w) (io l) K (io s)) (fun i y M3 => y = io i ∧ Ct_25 c (fun q => w.testBit q = true) l (fun q => if q < i then s + 1 else s) M3 ∧ Fr Cs_25 M M3) (fun K _ M => K (io (s + 1)) M) (c.1 7) (x := 0) (y := M2) ⟨rfl, ctcongr_25 hT (fun q hq hw => hw) (fun q hq hw => by simp), hF⟩ (by omega) (fun i y M3 hi h => by
          obtain ⟨rfl, hT, hF⟩ := h
          have hc1 := Cn_25_fr hc hF
          by_cases hb : w.testBit i = true
          · obtain ⟨M4, hM4, hT4, hF4⟩ := advC_25 hok hc1 hi hs hl hT hb (by simp) (fun q => by show (if q < i then s + 1 else s) ≤ 14; split <;> omega) (fun e q hq => ⟨w63 (h2 e) q (by omega), by show s ≤ if q < i then s + 1 else s; split <;> omega⟩)
            refine ⟨io (i + 1), M4, ⟨rfl, ctcongr_25 hT4 (fun q hq hw => hw) (fun q hq hw => ?_), hF.trans hF4⟩, fun K2 K => ?_⟩
            · show (if q = i then s + 1 else if q < i then s + 1 else s) = if q < i + 1 then s + 1 else s
              by_cases e : q = i
              · rw [if_pos e, if_pos (by omega)]
              · rw [if_neg e]
                by_cases e2 : q < i
                · rw [if_pos e2, if_pos (by omega)]
                · rw [if_neg e2, if_neg (by omega)]
            · unfold L_X2_follow_95
              simp only [(rc_25).2.1, lit]
              rw [hc1.1.2.2.2.2.2, if_neg (by rw [io_le (by omega) (by omega)]; omega), io_shr (by omega) (by omega), if_pos hb, if_neg (by decide), hM4]
              simp only [bnd_s, io_add]
          · refine ⟨io (i + 1), M3, ⟨rfl, ctcongr_25 hT (fun q hq hw => hw) (fun q hq hw => ?_), hF⟩, fun K2 K => ?_⟩
            · show (if q < i then s + 1 else s) = if q < i + 1 then s + 1 else s
              by_cases e : q = i
              · subst e; exact absurd hw hb
              · by_cases e2 : q < i
                · rw [if_pos e2, if_pos (by omega)]
                · rw [if_neg e2, if_neg (by omega)]
            · unfold L_X2_follow_95
              simp only [(rc_25).2.1, lit]
              rw [hc1.1.2.2.2.2.2, if_neg (by rw [io_le (by omega) (by omega)]; omega), io_shr (by omega) (by omega), if_neg hb, if_pos rfl]
              simp only [io_add]) (fun y M3 h K2 K => by
          obtain ⟨rfl, -, hF⟩ := h
          have hc1 := Cn_25_fr hc hF
          unfold L_X2_follow_95
          simp only [(rc_25).2.1, lit]
          rw [hc1.1.2.2.2.2.2, if_pos (by rw [io_le (by omega) (by omega)]; omega)]
          simp only [io_add])
      refine ⟨io (s + 1), M3, ⟨rfl, ctcongr_25 hT3 (fun q hq hw => hw) (fun q hq hw => if_pos hq), hF3⟩, fun K => ?_⟩
      unfold L_X2_follow_85
      rw [if_neg (by rw [io_le (by omega) (by omega)]; omega), hM3]) (fun x M2 h K => by
      obtain ⟨rfl, -⟩ := h
      unfold L_X2_follow_85
      rw [if_pos (by rw [io_le (by omega) (by omega)]; omega)])
  exact ⟨M2, hM2, hT2, hF2⟩
theorem followC_25 {c : Cf} {M : Mem} {d : Int32} {u pw : Nat} (hok : OkC c) (hc : Cn_25 c (st M 25 2 ((M.1 20 1) ||| d))) (hu : u < 2147483648) (hw : pw < 64) : ∃ M', f_X2_follow 25 d (io u) (io pw) M = some M' ∧ Ct_25 c (fun q => c.1 2 = 2 ∨ pw.testBit q = true) (min u 14) (fun _ => min u 14) M' ∧ Fr (25 :: Cs_25) M M' ∧ M'.1 25 = (st M 25 2 ((M.1 20 1) ||| d)).1 25 := by
  have hf : Fr (25 :: Cs_25) M (st M 25 2 ((M.1 20 1) ||| d)) := Fr.rfl.sto (by decide)
  have hmin : f_min (io u) (io 14) = io (min u 14) := by
    unfold f_min
    by_cases h : 14 < u
    · rw [if_pos (by rw [io_lt (by omega) (by omega)]; exact h)]; congr 1; omega
    · rw [if_neg (by rw [io_lt (by omega) (by omega)]; exact h)]; congr 1; omega
  have w63 : ∀ q, q < 6 → (63 : Nat).testBit q = true := by decide
  have h7 := hok.2.2.2.2.2.1
  unfold f_X2_follow
  simp only [(rc_25).1, (rc_25).2.1, (rc_25).2.2.2.2.2.2.2.2.2.2.1, letv_eq]
  rw [hc.1.2.1]
  by_cases h2 : c.1 2 = 2
  · rw [if_pos (by rw [h2]; rfl)]
    have e1 : f_min (io u) 14 = io (min u 14) := hmin
    rw [e1]
    obtain ⟨M', h, hT, hF⟩ := followL_25 (d := d) (u := io u) (pw := io pw) (w := 63) hok hc (Nat.min_le_right u 14) (by decide) (fun _ => rfl)
    exact ⟨M', h, ctcongr_25 hT (fun q hq _ => w63 q (by omega)) (fun _ _ _ => rfl), hf.trans (hF.mono (by decide)), hF.1 25 (by decide)⟩
  · rw [if_neg (by rw [show (2 : Int32) = io 2 from rfl, io_inj (by have := hok.2.1; omega) (by omega)]; exact h2)]
    have e1 : f_min (io u) 14 = io (min u 14) := hmin
    rw [e1]
    obtain ⟨M', h, hT, hF⟩ := followL_25 (d := d) (u := io u) (pw := io pw) (w := pw) hok hc (Nat.min_le_right u 14) hw (fun e => absurd e h2)
    exact ⟨M', h, ctcongr_25 hT (fun q hq hw => hw.resolve_left h2) (fun _ _ _ => rfl), hf.trans (hF.mono (by decide)), hF.1 25 (by decide)⟩
