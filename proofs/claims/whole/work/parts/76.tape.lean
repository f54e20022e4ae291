/-! THE TAPE AND THE ROWS -/
theorem Rel.parts {Mc Mr Mc' Mr' : Mem} (h : Rel Mc Mr) (ht : RelT Mc' Mr') (c6 : Mc'.1 6 = Mc.1 6) (c2 : Mc'.1 2 = Mc.1 2) (c0 : Mc'.1 0 = Mc.1 0) (cb : ∀ a, 13 ≤ a → a ≤ 32 → Mc'.1 a = Mc.1 a) (ci : ∀ a, 68 ≤ a → a ≤ 102 → Mc'.1 a = Mc.1 a) (cr : ∀ k, k < 4 → RelW Mc' Mr' k) (r0 : Mr'.1 0 14 = Mr.1 0 14 ∧ Mr'.1 0 15 = Mr.1 0 15) (rr : ∀ a, a ∈ [6, 7, 8, 9, 10, 11] → Mr'.1 a = Mr.1 a) : Rel Mc' Mr' := by
  obtain ⟨hX, L, hL, hC, hR, hF⟩ := h.split
  refine Rel.ofX (L := L) ⟨ht, ?_, cr, fun i hi => ?_⟩ ⟨hL, hC.congr (fun a h1 h2 => cb a (by omega) (by omega)), hR.congr (fun a ha => rr a (by revert a; decide)), ?_⟩
  · have := hX.2.1
    unfold RelF at *
    rw [c6, r0.1, r0.2]; exact this
  · rcases hX.2.2.2 i hi with h | ⟨h, h', L, ho, hc, hr⟩
    · exact Or.inl (by rw [c2, rr 11 (by decide)]; exact h)
    · exact Or.inr ⟨by rw [c2]; exact h, by rw [rr 11 (by decide)]; exact h', L, ho, hc.congr (fun a h1 h2 => ci a (by omega) (by omega)), hr.congr (fun a ha => rr a (by revert a; decide))⟩
  · unfold RelC at *
    rw [c0]
    rcases hF with h | ⟨h, h2⟩
    · exact Or.inl h
    · exact Or.inr ⟨h, Ct25.congr h2 (fun a h1 h2 => cb a (by omega) (by omega))⟩
def RelTn (n : Nat) (Mc Mr : Mem) : Prop := Mc.1 4 1 = io n ∧ Mr.1 0 6 = io n ∧ ∀ i, i < n → Mc.1 5 i = Mr.1 5 i
def shf (i : Nat) : Int32 := if i < 4 then io (24 - 8 * i) else -(io 8)
def byt (p : Int32) (i : Nat) : Int32 := vp_nar .byte (((p >>> (shf i &&& io 31)) : Int32).toInt8.toInt32)
def appM (c k : Nat) (p : Int32) (n : Nat) (M : Mem) : Nat → Mem
  | 0 => M
  | i + 1 => st (st (appM c k p n M i) 5 (n + i) (byt p i)) c k (io (n + i + 1))
theorem app_cnt {c k : Nat} {p : Int32} {n : Nat} {M : Mem} (h : M.1 c k = io n) : ∀ i, (appM c k p n M i).1 c k = io (n + i)
  | 0 => h
  | i + 1 => by simp only [appM]; simp [st]; rfl
theorem app_fr {c k : Nat} {p : Int32} {n : Nat} {M : Mem} : ∀ i, Fr [c, 5] M (appM c k p n M i)
  | 0 => Fr.rfl
  | i + 1 => ((app_fr i).sto (by simp)).sto (by simp)
theorem app_oth {c k : Nat} {p : Int32} {n : Nat} {M : Mem} (hc : c ≠ 5) : ∀ i j, j ≠ k → (appM c k p n M i).1 c j = M.1 c j
  | 0, _, _ => rfl
  | i + 1, j, hj => by
    simp only [appM]
    have := app_oth (p := p) (n := n) (M := M) hc i j hj
    simp [st, hj, hc, this]
theorem app_rd {c k : Nat} {p : Int32} {n : Nat} {M : Mem} (hc : 5 ≠ c) : ∀ i j, (appM c k p n M i).1 5 j = if n ≤ j ∧ j < n + i then byt p (j - n) else M.1 5 j
  | 0, j => by
    rw [if_neg (by omega)]; rfl
  | i + 1, j => by
    have ih := app_rd (k := k) (p := p) (n := n) (M := M) hc i j
    simp only [appM]
    by_cases e : j = n + i
    · subst e
      rw [if_pos (by omega)]
      simp [st, hc]
    · by_cases c2 : n ≤ j ∧ j < n + i
      · rw [if_pos (by omega)]
        rw [if_pos c2] at ih
        simp [st, hc, e, ih]
      · rw [if_neg (by omega)]
        rw [if_neg c2] at ih
        simp [st, hc, e, ih]
theorem shf_step {i : Nat} (hi : i < 4) : shf i + (-8) = shf (i + 1) := by
  have : ∀ i, i < 4 → shf i + (-8) = shf (i + 1) := by decide
  exact this i hi
theorem shf_pos {i : Nat} (hi : i < 4) : ¬ shf i < 0 := by
  have : ∀ i, i < 4 → ¬ shf i < 0 := by decide
  exact this i hi
theorem appC {M : Mem} {p : Int32} {n : Nat} (h : M.1 4 1 = io n) (hn : n + 4 ≤ 600) : f_X8_append p M = some (appM 4 1 p n M 4) := by
  unfold f_X8_append
  refine up2 shf (appM 4 1 p n M) 4 rfl rfl (by omega) (fun i hi K => ?_) (fun K => ?_)
  · unfold L_X8_append_3
    have e := app_cnt (p := p) h i
    have e2 : (st (appM 4 1 p n M i) 5 (n + i) (byt p i)).1 4 1 = io (n + i) := by simp [st, e]
    rw [if_neg (shf_pos hi), shf_step hi, e]
    simp (disch := omega) only [lit, io_le_f, if_false, oob_f, Bool.false_eq_true, ix_io, letv_eq]
    rw [show vp_nar .byte (((p >>> (shf i &&& io 31)) : Int32).toInt8.toInt32) = byt p i from rfl, e2, io_add]
    rfl
  · unfold L_X8_append_3
    rw [if_pos (by decide)]
theorem appR {M : Mem} {p : Int32} {n : Nat} (h : M.1 0 6 = io n) (hn : n + 4 ≤ 600) : f_X11_four p M = some (appM 0 6 p n M 4) := by
  unfold f_X11_four
  refine up2 shf (appM 0 6 p n M) 4 rfl rfl (by omega) (fun i hi K => ?_) (fun K => ?_)
  · unfold L_X11_four_3
    have e := app_cnt (p := p) h i
    have e2 : (st (appM 0 6 p n M i) 5 (n + i) (byt p i)).1 0 6 = io (n + i) := by simp [st, e]
    rw [if_neg (shf_pos hi), shf_step hi, e]
    simp (disch := omega) only [lit, oob_f, Bool.false_eq_true, if_false, ix_io, letv_eq]
    rw [show vp_nar .byte (((p >>> (shf i &&& io 31)) : Int32).toInt8.toInt32) = byt p i from rfl, e2, io_add]
    rfl
  · unfold L_X11_four_3
    rw [if_pos (by decide)]
/-- of the reference only the tape is another -/
def KT (M M' : Mem) : Prop := (∀ a, a ∉ [0, 5] → M'.1 a = M.1 a) ∧ (∀ j, j ≠ 6 → j ≠ 0 → M'.1 0 j = M.1 0 j) ∧ M'.2 = M.2
theorem KT.trans {M M' M'' : Mem} (h : KT M M') (h2 : KT M' M'') : KT M M'' := ⟨fun a ha => (h2.1 a ha).trans (h.1 a ha), fun j h6 h0 => (h2.2.1 j h6 h0).trans (h.2.1 j h6 h0), h2.2.2.trans h.2.2⟩
theorem four_step {Mc Mr : Mem} {n : Nat} (p : Int32) (h : RelTn n Mc Mr) (hn : n + 4 ≤ 600) : ∃ Mc' Mr', f_X8_append p Mc = some Mc' ∧ f_X11_four p Mr = some Mr' ∧ RelTn (n + 4) Mc' Mr' ∧ Fr [4, 5] Mc Mc' ∧ KT Mr Mr' := by
  refine ⟨_, _, appC h.1 hn, appR h.2.1 hn, ⟨app_cnt h.1 4, app_cnt h.2.1 4, fun i hi => ?_⟩, app_fr 4, ⟨fun a ha => (app_fr (c := 0) (k := 6) (p := p) (n := n) (M := Mr) 4).1 a ha, fun j h6 _ => app_oth (by decide) 4 j h6, (app_fr (c := 0) (k := 6) (p := p) (n := n) (M := Mr) 4).2⟩⟩
  rw [app_rd (by decide), app_rd (by decide)]
  by_cases c : n ≤ i ∧ i < n + 4
  · rw [if_pos c, if_pos c]
  · rw [if_neg c, if_neg c]; exact h.2.2 i (by omega)
theorem kt0 (M : Mem) : KT M (st M 0 0 0) := by
  refine ⟨fun a ha => ?_, fun j _ h0 => ?_, rfl⟩
  · have : a ≠ 0 := fun q => ha (by rw [q]; decide)
    funext j; simp [st, this]
  · simp [st, h0]
theorem Rel.tape {Mc Mr Mc' Mr' : Mem} (h : Rel Mc Mr) (ht : RelT Mc' Mr') (hc : Fr [4, 5] Mc Mc') (hr : KT Mr Mr') : Rel Mc' Mr' := by
  have g : ∀ a, a ∉ [4, 5] → Mc'.1 a = Mc.1 a := hc.1
  refine h.parts ht (g 6 (by decide)) (g 2 (by decide)) (g 0 (by decide)) (fun a h1 h2 => g a (by simp; omega)) (fun a h1 h2 => g a (by simp; omega)) (fun k hk => ?_) ⟨hr.2.1 14 (by decide) (by decide), hr.2.1 15 (by decide) (by decide)⟩ (fun a ha => hr.1 a (by revert a; decide))
  have := h.2.2.1 k hk
  unfold RelW at *
  rw [hr.1 1 (by decide), hr.1 2 (by decide), hr.2.2, hc.2, g (103 + 2 * k) (by simp; omega)]
  exact this
theorem op_0 : ∀ (Mc Mr : Mem) (a1 a2 a3 a4 a5 : Int32), Rel Mc Mr → ∃ (r : Int32) (Mc' Mr' : Mem), f_X10_feed a1 a2 a3 a4 a5 Mc = some (r, Mc') ∧ f_X11_feed a1 a2 a3 a4 a5 Mr = some (r, Mr') ∧ Rel Mc' Mr' := by
  intro Mc Mr a1 a2 a3 a4 a5 h
  obtain ⟨n, hn, t1, t2, t3⟩ := h.1
  have k0 := kt0 Mr
  have t20 : (st Mr 0 0 0).1 0 6 = io n := by simp [st, t2]
  have t30 : ∀ i, i < n → Mc.1 5 i = (st Mr 0 0 0).1 5 i := fun i hi => by simp [st, t3 i hi]
  unfold f_X10_feed f_X11_feed f_X8_hasRoom
  simp only [lit]
  refine (fun H => H) ?_
  rw [letv_eq]
  rw [show st Mr 0 0 (io 0) = st Mr 0 0 0 from rfl, t20, t1, io_add]
  by_cases c : n + 20 ≤ 600
  · rw [if_neg (show ¬ io 600 < io (n + 20) by rw [io_lt (by omega) (by omega)]; omega), if_neg (by decide), if_pos (by rw [io_le (by omega) (by omega)]; exact c)]
    obtain ⟨C1, R1, e1, f1, g1, h1, k1⟩ := four_step a1 (⟨t1, t20, t30⟩ : RelTn n Mc (st Mr 0 0 0)) (by omega)
    obtain ⟨C2, R2, e2, f2, g2, h2, k2⟩ := four_step a2 g1 (by omega)
    obtain ⟨C3, R3, e3, f3, g3, h3, k3⟩ := four_step a3 g2 (by omega)
    obtain ⟨C4, R4, e4, f4, g4, h4, k4⟩ := four_step a4 g3 (by omega)
    obtain ⟨C5, R5, e5, f5, g5, h5, k5⟩ := four_step a5 g4 (by omega)
    refine ⟨io (n + 4 + 4 + 4 + 4 + 4), C5, R5, ?_, ?_, h.tape ⟨n + 4 + 4 + 4 + 4 + 4, by omega, g5.1, g5.2.1, g5.2.2⟩ ((((h1.trans h2).trans h3).trans h4).trans h5) (((((k0.trans k1).trans k2).trans k3).trans k4).trans k5)⟩
    · rw [e1, bnd_s, e2, bnd_s, e3, bnd_s, e4, bnd_s, e5, bnd_s, g5.1]
    · rw [f1, bnd_s, f2, bnd_s, f3, bnd_s, f4, bnd_s, f5, bnd_s, g5.2.1]
  · rw [if_pos (show io 600 < io (n + 20) by rw [io_lt (by omega) (by omega)]; omega), if_pos rfl, if_neg (by rw [io_le (by omega) (by omega)]; exact c)]
    exact ⟨_, _, _, rfl, rfl, h.kr (kr0 Mr)⟩
theorem op_1 : ∀ (Mc Mr : Mem) (a1 : Int32), Rel Mc Mr → ∃ (r : Int32) (Mc' Mr' : Mem), f_X10_end a1 Mc = some (r, Mc') ∧ f_X11_end a1 Mr = some (r, Mr') ∧ Rel Mc' Mr' := by
  intro Mc Mr a h
  obtain ⟨n, hn, t1, t2, t3⟩ := h.1
  have t20 : (st Mr 0 0 0).1 0 6 = io n := by simp [st, t2]
  unfold f_X10_end f_X11_end f_X8_cutTo
  simp only [letv_eq]
  rw [t20, in_le a (by omega), t1, ite01]
  rcases below a (n + 1) with hb | ⟨w, hw, rfl, hw2⟩
  · have hb2 : ¬ (0 ≤ a.toInt ∧ a.toInt ≤ n) := fun q => hb ⟨q.1, by omega⟩
    rw [if_neg hb2]
    have e2 : (if a < 0 then some ((0 : Int32), Mc) else if a ≤ io n then some (1, st Mc 4 1 a) else some (0, Mc)) = some (0, Mc) := by
      by_cases c : a < 0
      · rw [if_pos c]
      · have c2 : ¬ a ≤ io n := fun q => by
          have q1 := Int32.le_iff_toInt_le.mp q
          have q2 := Int32.le_iff_toInt_le.mp (Int32.not_lt.mp c)
          rw [io_toInt (by omega)] at q1
          have e2 : (0 : Int32).toInt = 0 := rfl
          omega
        rw [if_neg c, if_neg c2]
    rw [e2, bnd2_s, if_pos rfl]
    exact ⟨_, _, _, rfl, rfl, h.kr (kr0 Mr)⟩
  · have hb2 : 0 ≤ (io w).toInt ∧ (io w).toInt ≤ n := pos_le (by omega) hw2
    rw [if_pos hb2, if_neg (show ¬ io w < 0 by rw [show (0 : Int32) = io 0 from rfl, io_lt (by omega) (by omega)]; omega), if_pos (show io w ≤ io n by rw [io_le (by omega) (by omega)]; omega)]
    simp only [bnd2_s]
    rw [if_neg (by decide)]
    refine ⟨io w, st Mc 4 1 (io w), st (st Mr 0 0 0) 0 6 (io w), rfl, rfl, h.tape ⟨w, by omega, by simp [st], by simp [st], fun i hi => ?_⟩ (Fr.rfl.sto (by decide)) ((kt0 Mr).trans ⟨fun a ha => ?_, fun j h6 _ => ?_, rfl⟩)⟩
    · have := t3 i (by omega)
      simp [st, this]
    · have : a ≠ 0 := fun q => ha (by rw [q]; decide)
      funext j; simp [st, this]
    · simp [st, h6]
