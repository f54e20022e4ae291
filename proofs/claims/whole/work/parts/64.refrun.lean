/-! THE REFERENCE'S RUNS -/
theorem airR {M M' : Mem} (h0 : M'.1 0 = M.1 0) (h7 : M'.1 7 = M.1 7) (h10 : M'.1 10 = M.1 10) (h12 : M'.1 12 = M.1 12) (z s : Int32) : f_X11_airOf z s M' = f_X11_airOf z s M := by
  have e1 : L_X11_airOf_20 z s M' = L_X11_airOf_20 z s M := by
    funext K a b c
    unfold L_X11_airOf_20 J_X11_airOf_66 J_X11_airOf_114
    rw [h0, h7, h10]
    rfl
  unfold f_X11_airOf
  rw [e1, h0, h12]
  rfl
def Rn (c : Cf) (M : Mem) : Prop := (M.1 7 0 = io (c.1 1) ∧ M.1 0 22 = io (c.1 2) ∧ M.1 0 23 = io (c.1 4) ∧ M.1 7 4 = io (c.1 5) ∧ M.1 0 25 = io (c.1 6) ∧ M.1 7 6 = io (c.1 7)) ∧ (∀ p, p < c.1 7 → M.1 9 (4 * p) = io (c.2.1 p 0) ∧ M.1 13 p = io (c.2.1 p 1) ∧ M.1 14 p = io (c.2.1 p 2) ∧ M.1 9 (4 * p + 3) = io (c.2.1 p 3)) ∧ (∀ z s, z < c.1 6 → s < 14 → f_X11_airOf (io z) (io s) M = some (io (c.2.2 z s)))
def Rs : List Nat := [15, 16, 17, 18, 19, 20]
theorem Rn_fr {c : Cf} {M M' : Mem} (h : Rn c M) (hf : Fr Rs M M') : Rn c M' := by
  have g : ∀ a, a ∉ Rs → M'.1 a = M.1 a := hf.1
  obtain ⟨h1, h2, h3⟩ := h
  refine ⟨?_, ?_, ?_⟩
  · rw [g 7 (by decide), g 0 (by decide)]; exact h1
  · rw [g 9 (by decide), g 13 (by decide), g 14 (by decide)]; exact h2
  · intro z s hz hs
    rw [airR (g 0 (by decide)) (g 7 (by decide)) (g 10 (by decide)) (g 12 (by decide))]; exact h3 z s hz hs
def Rt (c : Cf) (t : Nat → Nat) (M : Mem) : Prop := ∀ p, p < c.1 7 → (∀ s, s ≤ t p → M.1 15 (6 * s + p) = io (run c s p).1 ∧ M.1 16 (6 * s + p) = io (run c s p).2.1) ∧ M.1 19 p = oi (run c (t p) p).2.2.2.2.1 ∧ M.1 20 p = io (run c (t p) p).2.2.2.2.2 ∧ M.1 17 p = oi (run c (t p) p).2.2.1 ∧ M.1 18 p = oi (run c (t p) p).2.2.2.1
theorem piecesR {c : Cf} {M : Mem} (hc : Rn c M) : f_X11_pieces M = some (io (c.1 7)) := by
  unfold f_X11_pieces
  simp only [lit]
  simp (disch := omega) only [oob_f, Bool.false_eq_true, if_false, ix_io]
  rw [hc.1.2.2.2.2.2]
theorem stepsR {c : Cf} {M : Mem} (hc : Rn c M) : f_X11_steps M = some (io (c.1 1)) := by
  unfold f_X11_steps
  simp only [lit]
  simp (disch := omega) only [oob_f, Bool.false_eq_true, if_false, ix_io]
  rw [hc.1.1]
theorem comesR {c : Cf} {M : Mem} {p : Nat} (hok : OkC c) (hc : Rn c M) (hp : p < c.1 7) : f_X11_comes (io p) M = some (io (c.2.1 p 3)) := by
  have h7 := hok.2.2.2.2.2.1
  unfold f_X11_comes
  simp only [lit]
  simp (disch := omega) only [io_mul, io_add, oob_f, Bool.false_eq_true, if_false, ix_io]
  rw [(hc.2.1 p hp).2.2.2]
theorem placeR {c : Cf} {M : Mem} {p s : Nat} (hok : OkC c) (hc : Rn c M) (hp : p < c.1 7) (hs : s ≤ 20) : f_X11_whereOf (io p) (io s) M = some (pli (plc c p s)) := by
  obtain ⟨hs1, hl, hpa, hset, hz, hnp, hpp, -⟩ := id hok
  have hcm := (hpp p hp).2.2.2
  unfold f_X11_whereOf plc
  rw [comesR hok hc hp]
  simp only [lit, letv_eq, nio1, bnd_s]
  by_cases hh : s < c.2.1 p 3
  · simp (disch := omega) only [io_le_f, if_false, if_pos hh, pli, if_true]
  · have hq : (s - c.2.1 p 3) / c.1 4 ≤ s := Nat.le_trans (Nat.div_le_self ..) (Nat.sub_le ..)
    rw [hc.1.2.2.1, hc.1.2.2.2.2.1]
    simp (disch := omega) only [io_le_t, if_true, if_neg hh, io_ne, if_false, io_sub, io_div]
    by_cases hz2 : (s - c.2.1 p 3) / c.1 4 < c.1 6
    · rw [if_neg (by rw [io_le (by omega) (by omega)]; omega), if_pos hz2, pli_io (by omega)]
    · rw [if_pos (by rw [io_le (by omega) (by omega)]; omega), if_neg hz2]; rfl
theorem skinR {c : Cf} {M : Mem} {p s : Nat} {t : Nat → Nat} (hok : OkC c) (hT : Rt c t M) (hp : p < c.1 7) (hs : s ≤ t p) (hs2 : s ≤ 14) : f_X11_skinOf (io p) (io s) M = some (io (run c s p).1) := by
  have h7 := hok.2.2.2.2.2.1
  unfold f_X11_skinOf
  simp only [lit]
  simp (disch := omega) only [io_mul, io_add, oob_f, Bool.false_eq_true, if_false, ix_io]
  rw [((hT p hp).1 s hs).1]
theorem coreR {c : Cf} {M : Mem} {p s : Nat} {t : Nat → Nat} (hok : OkC c) (hT : Rt c t M) (hp : p < c.1 7) (hs : s ≤ t p) (hs2 : s ≤ 14) : f_X11_coreOf (io p) (io s) M = some (io (run c s p).2.1) := by
  have h7 := hok.2.2.2.2.2.1
  unfold f_X11_coreOf
  simp only [lit]
  simp (disch := omega) only [io_mul, io_add, oob_f, Bool.false_eq_true, if_false, ix_io]
  rw [((hT p hp).1 s hs).2]
theorem rdSk {M : Mem} {p s k : Nat} (hp : p < 6) (hs : s ≤ 14) (h : M.1 15 (6 * s + p) = io k) : f_X11_skinOf (io p) (io s) M = some (io k) := by
  unfold f_X11_skinOf
  simp only [lit]
  simp (disch := omega) only [io_mul, io_add, oob_f, Bool.false_eq_true, if_false, ix_io]
  rw [h]
theorem rdCo {M : Mem} {p s k : Nat} (hp : p < 6) (hs : s ≤ 14) (h : M.1 16 (6 * s + p) = io k) : f_X11_coreOf (io p) (io s) M = some (io k) := by
  unfold f_X11_coreOf
  simp only [lit]
  simp (disch := omega) only [io_mul, io_add, oob_f, Bool.false_eq_true, if_false, ix_io]
  rw [h]
theorem rdSt {M : Mem} {p s k r : Nat} (hp : p < 6) (hs : s ≤ 14) (h : M.1 15 (6 * s + p) = io k) (h2 : M.1 16 (6 * s + p) = io r) (hk : k ≤ 20000) (hr : r ≤ 20000) : f_X11_strainOf (io p) (io s) M = some (io (apt k r)) := by
  unfold f_X11_strainOf
  rw [rdSk hp hs h, rdCo hp hs h2]
  simp only [bnd_s]
  rw [apart_io (by omega) (by omega)]
theorem j79R {c : Cf} {M : Mem} {p s z a g : Nat} (hok : OkC c) (hc : Rn c M) (hp : p < c.1 7) (hs : s ≤ 14) (h : M.1 15 (6 * s + p) = io a) (ha : a ≤ 20000) (hg : g ≤ 20000) : ∃ x, J_X11_pullOf_79 (io p) (io s) (io z) M (io g) = some x ∧ io a + x = io (pull (c.1 2) a g) := by
  have h7 := hok.2.2.2.2.2.1
  have hl := hok.2.1
  unfold J_X11_pullOf_79
  rw [rdSk (by omega) hs h]
  simp only [bnd_s, letv_eq, lit, hc.1.2.1]
  by_cases h3 : c.1 2 = 3
  · rw [if_pos (by rw [h3])]
    refine ⟨_, rfl, ?_⟩
    rw [pull_d (by omega), if_pos h3]; exact tw_io ha hg (by decide)
  · rw [if_neg (by rw [io_inj (by omega) (by omega)]; exact h3)]
    by_cases h1 : c.1 2 = 1
    · rw [if_pos (by rw [h1]), h1]
      exact ⟨_, rfl, pull1_R ha hg M⟩
    · rw [if_neg (by rw [io_inj (by omega) (by omega)]; exact h1)]
      refine ⟨_, rfl, ?_⟩
      rw [pull_d h1, if_neg h3]; exact tw_io ha hg (by decide)
theorem pullR {c : Cf} {M : Mem} {p s : Nat} {t : Nat → Nat} (hok : OkC c) (hc : Rn c M) (hp : p < c.1 7) (hs : s < 14) (hT : Rt c t M) (ht : ∀ q, q < c.1 7 → s ≤ t q) (hz : plc c p s < c.1 6) : ∃ x, f_X11_pullOf (io p) (io s) (io (plc c p s)) M = some x ∧ io (run c s p).1 + x = io (pull (c.1 2) (run c s p).1 (gl c s (fun q => (run c s q).1) p)) := by
  have hle := run_le hok s
  have h7 := hok.2.2.2.2.2.1
  have hair := hok.2.2.2.2.2.2.2 _ s hz
  have hgl := gl_le (c := c) (s := s) (p := p) (sk := fun q => (run c s q).1) (fun q hq => (hle q hq).1) hz hok.2.2.2.2.2.2.2
  obtain ⟨x, hx, hx2⟩ := j79R (z := plc c p s) (g := gl c s (fun q => (run c s q).1) p) hok hc hp (by omega) ((hT p hp).1 s (ht p hp)).1 (hle p hp).1 hgl
  refine ⟨x, ?_, hx2⟩
  unfold f_X11_pullOf
  rw [hc.2.2 _ _ hz hs]
  simp only [bnd_s]
  rw [hc.1.2.1]
  by_cases hl2 : c.1 2 = 2
  · rw [if_pos (by rw [hl2]; rfl)]
    have hS := fun n (hn : n ≤ c.1 7) => mSum_le (c := c) (sk := fun q => (run c s q).1) (p := p) (s := s) (z := plc c p s) (K := 20000) (n := n) (fun q hq => (hle q (by omega)).1)
    have hC := fun n => cN_le (fun q => decide (q ≠ p ∧ plc c q s = plc c p s)) n
    refine up3 (fun i => io (c.2.2 (plc c p s) s + mSum c (fun q => (run c s q).1) p s (plc c p s) i)) (fun i => io (1 + mCnt c p s (plc c p s) i)) (fun i => io i) (c.1 7) rfl rfl rfl (by omega) (fun i hi K => ?_) (fun K => ?_)
    · unfold L_X11_pullOf_22
      rw [piecesR hc]
      have e2 := ((hT i hi).1 s (ht i hi)).1
      have b1 := hS (i + 1) (by omega)
      have b2 := hC (i + 1)
      have b3 := hS i (by omega)
      have b4 := hC i
      simp only [bnd_s, lit, letv_eq]
      rw [if_neg (by rw [io_le (by omega) (by omega)]; omega)]
      have hm1 : mSum c (fun q => (run c s q).1) p s (plc c p s) (i + 1) = mSum c (fun q => (run c s q).1) p s (plc c p s) i + (if i ≠ p ∧ plc c i s = plc c p s then (run c s i).1 else 0) := rfl
      have hm2 : mCnt c p s (plc c p s) (i + 1) = mCnt c p s (plc c p s) i + (if decide (i ≠ p ∧ plc c i s = plc c p s) = true then 1 else 0) := rfl
      have hpl : plc c i s < 2147483648 := by rcases plc_cases c i s with e | e | e <;> have := hok.2.2.2.2.1 <;> omega
      have hpl2 : plc c p s ≠ 11 := by have := hok.2.2.2.2.1; omega
      by_cases hip : i = p
      · rw [if_pos (by rw [hip]), hm1, hm2, if_neg (fun q => q.1 hip), if_neg (by simp [hip]), io_add]; rfl
      · rw [if_neg (by rw [io_inj (by omega) (by omega)]; exact hip), placeR hok hc hi (by omega), ← pli_io hpl2]
        simp only [bnd_s]
        by_cases hpz : plc c i s = plc c p s
        · rw [if_pos (by rw [hpz]), hm1, hm2, if_pos ⟨hip, hpz⟩, if_pos (by simp [hip, hpz]), rdSk (by omega) (by omega) e2]
          simp only [bnd_s, io_add, Nat.add_assoc]
        · rw [if_neg (by rw [pli_inj hpl (by have := hok.2.2.2.2.1; omega)]; exact hpz), hm1, hm2, if_neg (fun q => hpz q.2), if_neg (by simp [hpz]), io_add]; rfl
    · unfold L_X11_pullOf_22
      rw [piecesR hc]
      have b1 := hS (c.1 7) (Nat.le_refl _)
      have b2 := hC (c.1 7)
      have hb : mCnt c p s (plc c p s) (c.1 7) ≤ 6 := by unfold mCnt; omega
      have hb2 : mCnt c p s (plc c p s) (c.1 7) * 20000 ≤ 6 * 20000 := Nat.mul_le_mul_right _ hb
      simp only [bnd_s, lit, letv_eq]
      rw [if_pos (by rw [io_le (by omega) (by omega)]; omega), if_neg (by rw [io_inj (by omega) (by omega)]; omega), io_div (by omega) (by omega)]
      have hg : gl c s (fun q => (run c s q).1) p = (c.2.2 (plc c p s) s + mSum c (fun q => (run c s q).1) p s (plc c p s) (c.1 7)) / (1 + mCnt c p s (plc c p s) (c.1 7)) := if_pos hl2
      rw [← hg]
      exact hx
  · rw [if_neg (by rw [show (2 : Int32) = io 2 from rfl, io_inj (by have := hok.2.1; omega) (by omega)]; exact hl2)]
    have hg : gl c s (fun q => (run c s q).1) p = c.2.2 (plc c p s) s := if_neg hl2
    rw [← hg]
    exact hx
theorem j165R {c : Cf} {M : Mem} {p s k r : Nat} {f : Option Nat} (hok : OkC c) (hc : Rn c M) (hp : p < c.1 7) (hs : s < 14) (h1 : M.1 15 (6 * (s + 1) + p) = io k) (h2 : M.1 16 (6 * (s + 1) + p) = io r) (hk : k ≤ 20000) (hr : r ≤ 20000) (hf : M.1 17 p = oi f) (hfb : ∀ n, f = some n → n ≤ 20000) :
    J_X11_goesOn_165 (io p) (io s) M = some (if c.2.1 p 2 < apt k r then st (st M 19 p (io (s + 1))) 20 p (io 1) else if plc c p (s + 1) = 10 ∧ gts f (c.2.1 p 2 / 2) = true then st (st M 19 p (io (s + 1))) 20 p (io 2) else M) := by
  have h7 := hok.2.2.2.2.2.1
  have hb := (hc.2.1 p hp).2.2.1
  have hbb := (hok.2.2.2.2.2.2.1 p hp).2.2.1
  have hd := apt_le hk hr
  have hpl3 : plc c p (s + 1) < 2147483648 := by rcases plc_cases c p (s + 1) with e | e | e <;> have := hok.2.2.2.2.1 <;> omega
  have e210 : ∀ w0 : Nat, w0 ≤ 1 → J_X11_goesOn_210 (io p) (io s) (io w0) M = some (if c.2.1 p 2 < apt k r then st (st M 19 p (io (s + 1))) 20 p (io 1) else if w0 = 1 then st (st M 19 p (io (s + 1))) 20 p (io 2) else M) := by
    intro w0 hw0
    unfold J_X11_goesOn_210 J_X11_goesOn_247
    simp only [lit, letv_eq, io_add]
    rw [rdSt (by omega) (by omega) h1 h2 hk hr]
    simp (disch := omega) only [bnd_s, oob_f, Bool.false_eq_true, if_false, ix_io, hb]
    by_cases h3 : c.2.1 p 2 < apt k r
    · rw [if_neg (by rw [io_le (by omega) (by omega)]; omega), if_pos h3]
      simp (disch := omega) only [io_ne, if_false]
    · rw [if_pos (by rw [io_le (by omega) (by omega)]; omega), if_neg h3]
      simp only [if_true]
      by_cases h4 : w0 = 1
      · subst h4
        simp (disch := omega) only [io_ne, if_false, if_true]
      · have : w0 = 0 := by omega
        subst this
        simp
  unfold J_X11_goesOn_165
  simp only [lit, letv_eq, nio1, io_add]
  rw [placeR hok hc hp (by omega)]
  simp (disch := omega) only [bnd_s, oob_f, Bool.false_eq_true, if_false, ix_io, hb, hf, io_div]
  by_cases h3 : plc c p (s + 1) = 10
  · rw [if_pos (by rw [h3]; rfl)]
    cases f with
    | none =>
      rw [if_pos oi_none, e210 0 (by omega)]
      simp [gts]
    | some n =>
      have := hfb n rfl
      rw [oi_some, if_neg (by rw [io_m1 (by omega)]; exact not_false)]
      by_cases h4 : c.2.1 p 2 / 2 < n
      · rw [if_neg (by rw [io_le (by omega) (by omega)]; omega), e210 1 (by omega)]
        simp [gts, h3, h4]
      · rw [if_pos (by rw [io_le (by omega) (by omega)]; omega), e210 0 (by omega)]
        simp [gts, h3, h4]
  · rw [if_neg (by rw [pli_10 hpl3]; exact h3), e210 0 (by omega)]
    simp [h3]
theorem rtput {c : Cf} {t : Nat → Nat} {M M' : Mem} {p s : Nat} (hok : OkC c) (hp : p < c.1 7) (hT : Rt c t M) (ht : t p = s) (hsk : ∀ j, j ≠ 6 * (s + 1) + p → M'.1 15 j = M.1 15 j ∧ M'.1 16 j = M.1 16 j) (hn : M'.1 15 (6 * (s + 1) + p) = io (run c (s + 1) p).1 ∧ M'.1 16 (6 * (s + 1) + p) = io (run c (s + 1) p).2.1) (ho : ∀ j, j ≠ p → M'.1 19 j = M.1 19 j ∧ M'.1 20 j = M.1 20 j ∧ M'.1 17 j = M.1 17 j ∧ M'.1 18 j = M.1 18 j) (h1 : M'.1 19 p = oi (run c (s + 1) p).2.2.2.2.1) (h2 : M'.1 20 p = io (run c (s + 1) p).2.2.2.2.2) (h3 : M'.1 17 p = oi (run c (s + 1) p).2.2.1) (h4 : M'.1 18 p = oi (run c (s + 1) p).2.2.2.1) : Rt c (fun q => if q = p then s + 1 else t q) M' := by
  have h7 := hok.2.2.2.2.2.1
  intro q hq
  obtain ⟨a2, a3, a4, a5, a6⟩ := hT q hq
  by_cases h : q = p
  · subst h
    simp only [if_true]
    refine ⟨fun s' hs' => ?_, h1, h2, h3, h4⟩
    by_cases h5 : s' = s + 1
    · subst h5; exact hn
    · have := hsk (6 * s' + q) (by omega)
      rw [this.1, this.2]
      exact a2 s' (by omega)
  · simp only [if_neg h]
    have := ho q h
    refine ⟨fun s' hs' => ?_, by rw [this.1]; exact a3, by rw [this.2.1]; exact a4, by rw [this.2.2.1]; exact a5, by rw [this.2.2.2]; exact a6⟩
    have := hsk (6 * s' + q) (by omega)
    rw [this.1, this.2]
    exact a2 s' hs'
theorem advR {c : Cf} {M : Mem} {p s : Nat} {t : Nat → Nat} (hok : OkC c) (hc : Rn c M) (hp : p < c.1 7) (hs : s < 14) (hT : Rt c t M) (ht : t p = s) (h2 : ∀ q, q < c.1 7 → s ≤ t q) : ∃ M', f_X11_goesOn (io p) (io s) M = some M' ∧ Rt c (fun q => if q = p then s + 1 else t q) M' ∧ Fr Rs M M' := by
  have h7 := hok.2.2.2.2.2.1
  have h6 := hok.2.2.2.2.1
  have h5 := hok.2.2.2.1
  have hle := run_le hok s
  have hok2 := run_ok hok s p hp
  obtain ⟨a2, a3, a4, a5, a6⟩ := hT p hp
  rw [ht] at a2 a3 a4 a5 a6
  have e1 := (a2 s (Nat.le_refl _)).1
  have e2 := (a2 s (Nat.le_refl _)).2
  have hth := (hok.2.2.2.2.2.2.1 p hp).2.1
  have hpl3 : plc c p s < 2147483648 := by rcases plc_cases c p s with e | e | e <;> omega
  have ex : 6 * s + 6 + p = 6 * (s + 1) + p := by omega
  unfold f_X11_goesOn
  simp only [lit, nio1, io_mul, io_add, ex]
  refine letv_ex (fun x1 hx1 => ?_)
  subst hx1
  rw [rdSk (by omega) (by omega) e1]
  simp (disch := omega) only [bnd_s, oob_f, Bool.false_eq_true, if_false, ix_io]
  refine letv_ex (fun M4 hg4 => ?_)
  rw [rdCo (k := (run c s p).2.1) (by omega) (by omega) (by subst hg4; simp [st, e2])]
  simp only [bnd_s]
  refine letv_ex (fun M6 hg => ?_)
  have g1 : Fr [15, 16] M M6 := by subst hg; subst hg4; exact (Fr.rfl.sto (by decide)).sto (by decide)
  have g2 : ∀ j, j ≠ 6 * (s + 1) + p → M6.1 15 j = M.1 15 j ∧ M6.1 16 j = M.1 16 j := by
    intro j hj; subst hg; subst hg4; simp [st, hj]
  have g3 : M6.1 15 (6 * (s + 1) + p) = io (run c s p).1 := by subst hg; subst hg4; simp [st]
  have g4 : M6.1 16 (6 * (s + 1) + p) = io (run c s p).2.1 := by subst hg; simp [st]
  have hc6 := Rn_fr hc (g1.mono (by decide))
  have hF6 : Fr Rs M M6 := g1.mono (by decide)
  have hT6 : Rt c t M6 := by
    intro q hq
    obtain ⟨b2, b3, b4, b5, b6⟩ := hT q hq
    rw [g1.1 19 (by decide), g1.1 20 (by decide), g1.1 17 (by decide), g1.1 18 (by decide)]
    refine ⟨fun s' hs' => ?_, b3, b4, b5, b6⟩
    have : 6 * s' + q ≠ 6 * (s + 1) + p := by
      by_cases h : q = p
      · subst h; omega
      · omega
    rw [(g2 _ this).1, (g2 _ this).2]
    exact b2 s' hs'
  rw [placeR hok hc6 hp (by omega)]
  simp only [bnd_s]
  rw [g1.1 19 (by decide), a3]
  have still : (plc c p s = 11 ∨ plc c p s = 10 ∨ (run c s p).2.2.2.2.1 ≠ none) → Rt c (fun q => if q = p then s + 1 else t q) M6 := by
    intro hst
    have er : run c (s + 1) p = run c s p := if_pos hst
    exact rtput hok hp hT ht g2 (by rw [er]; exact ⟨g3, g4⟩) (fun j hj => by rw [g1.1 19 (by decide), g1.1 20 (by decide), g1.1 17 (by decide), g1.1 18 (by decide)]; exact ⟨rfl, rfl, rfl, rfl⟩) (by rw [er, g1.1 19 (by decide)]; exact a3) (by rw [er, g1.1 20 (by decide)]; exact a4) (by rw [er, g1.1 17 (by decide)]; exact a5) (by rw [er, g1.1 18 (by decide)]; exact a6)
  by_cases hz1 : plc c p s = 11
  · rw [if_pos (by rw [hz1]; rfl)]
    exact ⟨M6, rfl, still (Or.inl hz1), hF6⟩
  rw [if_neg (by rw [pli_m1 hpl3]; exact hz1)]
  by_cases hz2 : plc c p s = 10
  · rw [if_pos (by rw [hz2]; rfl)]
    exact ⟨M6, rfl, still (Or.inr (Or.inl hz2)), hF6⟩
  rw [if_neg (by rw [pli_10 hpl3]; exact hz2)]
  have hz : plc c p s < c.1 6 := by
    rcases plc_cases c p s with e | e | e
    · exact absurd e hz1
    · exact absurd e hz2
    · exact e
  rcases (Classical.em ((run c s p).2.2.2.2.1 = none)).symm with hk | hk
  · rw [if_neg (by rw [oi_m1 (fun n e => by have := hok2.2.2.1 n e; omega)]; exact hk)]
    exact ⟨M6, rfl, still (Or.inr (Or.inr hk)), hF6⟩
  rw [if_pos (by rw [hk]; rfl), pli_io hz1]
  have hgl := gl_le (c := c) (s := s) (p := p) (sk := fun q => (run c s q).1) (fun q hq => (hle q hq).1) hz hok.2.2.2.2.2.2.2
  have hnk := pull_le (l := c.1 2) (hle p hp).1 hgl
  have hnc := tw_le (d := c.2.1 p 1) (hle p hp).2 hnk
  obtain ⟨x, hx, hx2⟩ := pullR hok hc6 hp hs hT6 h2 hz
  rw [hx]
  simp only [bnd_s]
  rw [g3, hx2]
  have er : run c (s + 1) p = mid c s p (pull (c.1 2) (run c s p).1 (gl c s (fun q => (run c s q).1) p)) (tw (run c s p).2.1 (pull (c.1 2) (run c s p).1 (gl c s (fun q => (run c s q).1) p)) (c.2.1 p 1)) (run c s p) := if_neg (fun q => by rcases q with q | q | q; exact hz1 q; exact hz2 q; exact q hk)
  generalize pull (c.1 2) (run c s p).1 (gl c s (fun q => (run c s q).1) p) = k at hnk hnc er ⊢
  refine letv_ex (fun M7 hg7 => ?_)
  have k1 : M7.1 16 (6 * (s + 1) + p) = io (run c s p).2.1 := by subst hg7; simp [st, g4]
  have k2 : M7.1 15 (6 * (s + 1) + p) = io k := by subst hg7; simp [st]
  have k4 : M7.1 13 p = io (c.2.1 p 1) := by subst hg7; simp [st, (hc6.2.1 p hp).2.1]
  rw [k1, k2, k4, if_neg (by rw [io_inj (by omega) (by omega)]; omega), tw_io (hle p hp).2 hnk (by omega)]
  generalize tw (run c s p).2.1 k (c.2.1 p 1) = r at hnc er ⊢
  refine letv_ex (fun M8 hg8 => ?_)
  have f8 : Fr [15, 16] M6 M8 := by subst hg8; subst hg7; exact (Fr.rfl.sto (by decide)).sto (by decide)
  have k5 : M8.1 15 (6 * (s + 1) + p) = io k := by subst hg8; simp [st, k2]
  have k6 : M8.1 16 (6 * (s + 1) + p) = io r := by subst hg8; simp [st]
  have hc8 := Rn_fr hc6 (f8.mono (by decide))
  have k7 : ∀ j, j ≠ 6 * (s + 1) + p → M8.1 15 j = M.1 15 j ∧ M8.1 16 j = M.1 16 j := by
    intro j hj
    rw [← (g2 j hj).1, ← (g2 j hj).2]
    subst hg8; subst hg7; simp [st, hj]
  have k8 : M8.1 16 (6 * s + p) = io (run c s p).2.1 := by rw [(k7 _ (by omega)).2]; exact e2
  rw [rdCo (by omega) (by omega) k8]
  simp only [bnd_s]
  simp only [letv_eq]
  rw [hc8.1.2.2.2.1, k6, rdSt (by omega) (by omega) k5 k6 hnk hnc]
  simp only [bnd_s]
  have f16 : ∀ a, a ∉ [15, 16] → M8.1 a = M.1 a := fun a ha => (f8.1 a ha).trans (g1.1 a ha)
  have hd := apt_le hnk hnc
  -- the rest: what is frozen, and whether it cracks
  have rest : ∀ M1 f x, Fr [17, 18] M8 M1 → (∀ j, j ≠ p → M1.1 17 j = M.1 17 j ∧ M1.1 18 j = M.1 18 j) → M1.1 17 p = oi f → M1.1 18 p = oi x → (∀ n, f = some n → n ≤ 20000) → run c (s + 1) p = fin c s p k r (run c s p) f x → ∃ M', J_X11_goesOn_165 (io p) (io s) M1 = some M' ∧ Rt c (fun q => if q = p then s + 1 else t q) M' ∧ Fr Rs M M' := by
    intro M1 f x hf ho hf1 hx1 hfb erf
    have hF1 : Fr Rs M M1 := (hF6.trans (f8.mono (by decide))).trans (hf.mono (by decide))
    rw [j165R hok (Rn_fr hc8 (hf.mono (by decide))) hp hs (by rw [hf.1 15 (by decide)]; exact k5) (by rw [hf.1 16 (by decide)]; exact k6) hnk hnc hf1 hfb]
    have e19 : M1.1 19 = M.1 19 := (hf.1 19 (by decide)).trans (f16 19 (by decide))
    have e20 : M1.1 20 = M.1 20 := (hf.1 20 (by decide)).trans (f16 20 (by decide))
    have e15 : M1.1 15 = M8.1 15 := hf.1 15 (by decide)
    have e16 : M1.1 16 = M8.1 16 := hf.1 16 (by decide)
    refine ⟨_, rfl, ?_⟩
    unfold fin at erf
    by_cases c1 : c.2.1 p 2 < apt k r
    · rw [if_pos c1] at erf ⊢
      refine ⟨rtput hok hp hT ht (fun j hj => by simp [st, e15, e16, k7 j hj]) (by rw [erf]; simp [st, e15, e16, k5, k6]) (fun j hj => by simp [st, hj, e19, e20, ho j hj]) (by rw [erf]; simp [st, oi_some]) (by rw [erf]; simp [st]) (by rw [erf]; simp [st, hf1]) (by rw [erf]; simp [st, hx1]), (hF1.sto (by decide)).sto (by decide)⟩
    · rw [if_neg c1] at erf ⊢
      by_cases c2 : plc c p (s + 1) = 10 ∧ gts f (c.2.1 p 2 / 2) = true
      · rw [if_pos c2] at erf ⊢
        refine ⟨rtput hok hp hT ht (fun j hj => by simp [st, e15, e16, k7 j hj]) (by rw [erf]; simp [st, e15, e16, k5, k6]) (fun j hj => by simp [st, hj, e19, e20, ho j hj]) (by rw [erf]; simp [st, oi_some]) (by rw [erf]; simp [st]) (by rw [erf]; simp [st, hf1]) (by rw [erf]; simp [st, hx1]), (hF1.sto (by decide)).sto (by decide)⟩
      · rw [if_neg c2] at erf ⊢
        exact ⟨rtput hok hp hT ht (fun j hj => by simp [e15, e16, k7 j hj]) (by rw [erf]; simp [e15, e16, k5, k6]) (fun j hj => by simp [e19, e20, ho j hj]) (by rw [erf, e19]; exact a3) (by rw [erf, e20]; exact a4) (by rw [erf]; exact hf1) (by rw [erf]; exact hx1), hF1⟩
  unfold mid at er
  by_cases hA : c.1 5 ≤ (run c s p).2.1 ∧ r < c.1 5
  · rw [if_pos hA] at er
    have hq := (hle p hp).2
    rw [if_neg (by rw [io_lt (by omega) (by omega)]; omega), if_neg (by rw [io_le (by omega) (by omega)]; omega)]
    exact rest _ (some (apt k r)) (some (s + 1)) (Fr.sto (Fr.sto Fr.rfl (by decide)) (by decide)) (fun j hj => by simp [st, hj, f16 17 (by decide), f16 18 (by decide)]) (by simp [st, oi_some]) (by simp [st, oi_some]) (fun n e => by cases e; exact hd) er
  · rw [if_neg hA] at er
    have hq := (hle p hp).2
    have eR := rest M8 (run c s p).2.2.1 (run c s p).2.2.2.1 Fr.rfl (fun j hj => by rw [f16 17 (by decide), f16 18 (by decide)]; exact ⟨rfl, rfl⟩) (by rw [f16 17 (by decide)]; exact a5) (by rw [f16 18 (by decide)]; exact a6) hok2.1 er
    by_cases hB : (run c s p).2.1 < c.1 5
    · rw [if_pos (by rw [io_lt (by omega) (by omega)]; exact hB)]
      exact eR
    · rw [if_neg (by rw [io_lt (by omega) (by omega)]; exact hB), if_pos (by rw [io_le (by omega) (by omega)]; omega)]
      exact eR
theorem rtcongr {c : Cf} {t t' : Nat → Nat} {M : Mem} (hT : Rt c t M) (ht : ∀ q, q < c.1 7 → t q = t' q) : Rt c t' M := by
  intro q hq
  have h := hT q hq
  rw [ht q hq] at h
  exact h
theorem runsR {c : Cf} {M : Mem} (hok : OkC c) (hc : Rn c M) : ∃ M', f_X11_runs M = some M' ∧ Rt c (fun _ => c.1 1) M' ∧ Fr Rs M M' := by
  have h7 := hok.2.2.2.2.2.1
  have h1 := hok.1
  unfold f_X11_runs
  obtain ⟨x, M1, ⟨hx, hT1, hF1⟩, hM1⟩ := in2 (b := L_X11_runs_2) (fun i x M1 => x = io i ∧ (∀ p, p < i → M1.1 15 p = io (c.2.1 p 0) ∧ M1.1 16 p = io (c.2.1 p 0) ∧ M1.1 19 p = m1 ∧ M1.1 20 p = io 0 ∧ M1.1 17 p = m1 ∧ M1.1 18 p = m1) ∧ Fr Rs M M1) (fun _ M => lq2 (L_X11_runs_74) FU 0 M) (c.1 7) (x := 0) (y := M) ⟨rfl, fun q hq => absurd hq (Nat.not_lt_zero _), Fr.rfl⟩ (by omega) (fun i x M1 hi h => by
      obtain ⟨rfl, hT, hF⟩ := h
      have hc1 := Rn_fr hc hF
      have hh := (hc1.2.1 i hi).1
      refine ⟨io (i + 1), st (st (st (st (st (st M1 15 i (io (c.2.1 i 0))) 16 i (io (c.2.1 i 0))) 17 i m1) 18 i m1) 19 i m1) 20 i (io 0), ⟨rfl, ?_, ((((((hF.sto (by decide)).sto (by decide)).sto (by decide)).sto (by decide)).sto (by decide)).sto (by decide))⟩, fun K => ?_⟩
      · intro p hp
        by_cases e : p = i
        · subst e; simp [st]
        · have := hT p (by omega)
          simp [st, e, this]
      · unfold L_X11_runs_2
        rw [piecesR hc1]
        simp only [lit, letv_eq, nio1, bnd_s, io_mul]
        rw [if_neg (by rw [io_le (by omega) (by omega)]; omega)]
        simp (disch := omega) only [io_add, oob_f, Bool.false_eq_true, if_false, ix_io, hh]
        have e9 : (st M1 15 i (io (c.2.1 i 0))).1 9 (4 * i) = io (c.2.1 i 0) := by simp [st, hh]
        rw [e9]) (fun x M1 h K => by
      obtain ⟨rfl, hT, hF⟩ := h
      have hc1 := Rn_fr hc hF
      unfold L_X11_runs_2
      rw [piecesR hc1]
      simp only [bnd_s]
      rw [if_pos (by rw [io_le (by omega) (by omega)]; omega)])
  rw [hM1]
  clear hM1
  have hT1' : Rt c (fun _ => 0) M1 := by
    intro p hp
    have h := hT1 p hp
    refine ⟨fun s hs => ?_, h.2.2.1, h.2.2.2.1, h.2.2.2.2.1, h.2.2.2.2.2⟩
    have : s = 0 := Nat.le_zero.mp hs
    subst this
    rw [show 6 * 0 + p = p by omega]
    exact ⟨h.1, h.2.1⟩
  obtain ⟨x2, M2, ⟨hx2, hT2, hF2⟩, hM2⟩ := in2 (b := L_X11_runs_74) (fun s x M2 => x = io s ∧ Rt c (fun _ => s) M2 ∧ Fr Rs M M2) (fun _ M => some M) (c.1 1) (x := 0) (y := M1) ⟨rfl, hT1', hF1⟩ (by omega) (fun s x M2 hs h => by
      obtain ⟨rfl, hT, hF⟩ := h
      obtain ⟨y, M3, ⟨hy, hT3, hF3⟩, hM3⟩ := in2k (κ := Int32 → Mem → Option Mem) (b := fun K => L_X11_runs_84 K (io s)) (fun i y M3 => y = io i ∧ Rt c (fun q => if q < i then s + 1 else s) M3 ∧ Fr Rs M M3) (fun K _ M => K (io (s + 1)) M) (c.1 7) (x := 0) (y := M2) ⟨rfl, rtcongr hT (fun q hq => by simp), hF⟩ (by omega) (fun i y M3 hi h => by
          obtain ⟨rfl, hT, hF⟩ := h
          have hc1 := Rn_fr hc hF
          obtain ⟨M4, hM4, hT4, hF4⟩ := advR hok hc1 hi (by omega) hT (s := s) (by simp) (fun q hq => by show s ≤ if q < i then s + 1 else s; split <;> omega)
          refine ⟨io (i + 1), M4, ⟨rfl, rtcongr hT4 (fun q hq => ?_), hF.trans hF4⟩, fun K2 K => ?_⟩
          · show (if q = i then s + 1 else if q < i then s + 1 else s) = if q < i + 1 then s + 1 else s
            by_cases e : q = i
            · rw [if_pos e, if_pos (by omega)]
            · rw [if_neg e]
              by_cases e2 : q < i
              · rw [if_pos e2, if_pos (by omega)]
              · rw [if_neg e2, if_neg (by omega)]
          · unfold L_X11_runs_84
            rw [piecesR hc1]
            simp only [bnd_s, lit]
            rw [if_neg (by rw [io_le (by omega) (by omega)]; omega), hM4]
            simp only [bnd_s, io_add]) (fun y M3 h K2 K => by
          obtain ⟨rfl, -, hF⟩ := h
          have hc1 := Rn_fr hc hF
          unfold L_X11_runs_84
          rw [piecesR hc1]
          simp only [bnd_s, lit]
          rw [if_pos (by rw [io_le (by omega) (by omega)]; omega)]
          simp only [io_add])
      refine ⟨io (s + 1), M3, ⟨rfl, rtcongr hT3 (fun q hq => if_pos hq), hF3⟩, fun K => ?_⟩
      unfold L_X11_runs_74
      rw [stepsR (Rn_fr hc hF)]
      simp only [bnd_s]
      rw [if_neg (by rw [io_le (by omega) (by omega)]; omega), hM3]) (fun x M2 h K => by
      obtain ⟨rfl, -, hF⟩ := h
      unfold L_X11_runs_74
      rw [stepsR (Rn_fr hc hF)]
      simp only [bnd_s]
      rw [if_pos (by rw [io_le (by omega) (by omega)]; omega)])
  exact ⟨M2, hM2, hT2, hF2⟩
