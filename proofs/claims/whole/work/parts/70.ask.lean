/-! more questions of the course of now -/
theorem K2 {α β γ : Type} {f : α → β → γ} {a a' : α} {b b' : β} (h : a = a') (h2 : b = b') : f a b = f a' b' := by rw [h, h2]
theorem comeV {L : Lh} {M : Mem} {p s : Nat} (h : VC L M) (hp : p < L.1 7) (hs : s ≤ 14) : f_X5_hasCome 14 (io p) (io s) M = some (if cm L p ≤ s then 1 else 0) := come14 h.1 h.2.2.1 hp (by omega)
theorem comeW {L : Lh} {M : Mem} {p s : Nat} (h : VR L M) (hp : p < L.1 7) (hs : s ≤ 14) : f_X11_hasCome (io p) (io s) M = some (if cm L p ≤ s then 1 else 0) := comeR h.1 h.2.1 h.2.2.2.1 hp (by omega)
/-- the piece, come, of which most is told -/
def mo (f : Nat → Nat) (g : Nat → Bool) : Nat → Option Nat
  | 0 => none
  | n + 1 => if g n = true then (match mo f g n with | none => some n | some b => if f n ≤ f b then some b else some n) else mo f g n
theorem mo_lt {f : Nat → Nat} {g : Nat → Bool} : ∀ {n b : Nat}, mo f g n = some b → b < n
  | 0, b, h => by cases h
  | n + 1, b, h => by
    simp only [mo] at h
    by_cases c : g n = true
    · rw [if_pos c] at h
      cases e : mo f g n with
      | none => rw [e] at h; cases h; omega
      | some x =>
        rw [e] at h
        have := mo_lt e
        simp only at h
        split at h
        · cases h; omega
        · cases h; omega
    · rw [if_neg c] at h
      have := mo_lt h
      omega
theorem mo_none {f : Nat → Nat} {g : Nat → Bool} : ∀ {n : Nat}, mo f g n = none → ∀ i, i < n → g i = false
  | 0, h, i, hi => absurd hi (Nat.not_lt_zero _)
  | n + 1, h, i, hi => by
    simp only [mo] at h
    by_cases c : g n = true
    · rw [if_pos c] at h
      cases e : mo f g n with
      | none => rw [e] at h; cases h
      | some x => rw [e] at h; simp only at h; split at h <;> cases h
    · rw [if_neg c] at h
      by_cases hi2 : i = n
      · subst hi2; simpa using c
      · exact mo_none h i (by omega)
theorem mostC {L : Lh} {M : Mem} {s k : Nat} {f : Nat → Nat} (h : VC L M) (hs : s ≤ L.1 1) (hf : ∀ p, p < L.1 7 → f p ≤ 20000 ∧ f_X2_valueAt 25 (io k) (io p) (io s) M = some (io (f p))) : f_X2_mostOf 25 (io k) (io s) M = some (oi (mo f (fun p => decide (cm L p ≤ s)) (L.1 7))) := by
  have hb := h.b
  unfold f_X2_mostOf
  refine up2 (fun i => oi (mo f (fun p => decide (cm L p ≤ s)) i)) (fun i => io i) (L.1 7) rfl rfl (by omega) (fun i hi K => ?_) (fun K => ?_)
  · unfold L_X2_mostOf_5
    rw [e25.1, h.num (by omega), if_neg (by rw [io_le (by omega) (by omega)]; omega), comeV h hi (by omega)]
    simp only [bnd_s, mo, ite01, decide_eq_true_eq]
    by_cases c : cm L i ≤ s
    · rw [if_pos c, if_pos c]
      simp only [lit, nio1, io_add]
      cases e : mo f (fun p => decide (cm L p ≤ s)) i with
      | none => rw [if_pos (by rw [oi_none])]; rfl
      | some b =>
        have hbl := mo_lt e
        rw [oi_some, if_neg (by rw [io_m1 (by omega)]; exact not_false), (hf i hi).2, (hf b (by omega)).2]
        simp only [bnd_s]
        have h1 := (hf i hi).1
        have h2 := (hf b (by omega)).1
        by_cases c2 : f i ≤ f b
        · rw [if_pos (by rw [io_le (by omega) (by omega)]; exact c2), if_pos c2]; rfl
        · rw [if_neg (by rw [io_le (by omega) (by omega)]; exact c2), if_neg c2]; rfl
    · rw [if_neg c, if_neg c]
      simp only [lit, io_add]
  · unfold L_X2_mostOf_5
    rw [e25.1, h.num (by omega), if_pos (by rw [io_le (by omega) (by omega)]; omega)]
theorem mostR {L : Lh} {M : Mem} {s k : Nat} {f : Nat → Nat} (h : VR L M) (hs : s ≤ L.1 1) (hf : ∀ p, p < L.1 7 → f p ≤ 20000 ∧ f_X11_markOf (io p) (io s) (io k) M = some (io (f p))) : f_X11_mostAt (io s) (io k) M = some (oi (mo f (fun p => decide (cm L p ≤ s)) (L.1 7))) := by
  have hb := h.b
  unfold f_X11_mostAt
  refine up2 (fun i => oi (mo f (fun p => decide (cm L p ≤ s)) i)) (fun i => io i) (L.1 7) rfl rfl (by omega) (fun i hi K => ?_) (fun K => ?_)
  · unfold L_X11_mostAt_5
    rw [piecesV h]
    simp only [bnd_s]
    rw [if_neg (by rw [io_le (by omega) (by omega)]; omega), comeW h hi (by omega)]
    simp only [bnd_s, mo, ite01, decide_eq_true_eq]
    by_cases c : cm L i ≤ s
    · rw [if_pos c, if_pos c]
      simp only [lit, nio1, io_add]
      cases e : mo f (fun p => decide (cm L p ≤ s)) i with
      | none => rw [if_pos (by rw [oi_none])]; rfl
      | some b =>
        have hbl := mo_lt e
        rw [oi_some, if_neg (by rw [io_m1 (by omega)]; exact not_false), (hf i hi).2, (hf b (by omega)).2]
        simp only [bnd_s]
        have h1 := (hf i hi).1
        have h2 := (hf b (by omega)).1
        by_cases c2 : f i ≤ f b
        · rw [if_pos (by rw [io_le (by omega) (by omega)]; exact c2), if_pos c2]; rfl
        · rw [if_neg (by rw [io_le (by omega) (by omega)]; exact c2), if_neg c2]; rfl
    · rw [if_neg c, if_neg c]
      simp only [lit, io_add]
  · unfold L_X11_mostAt_5
    rw [piecesV h]
    simp only [bnd_s]
    rw [if_pos (by rw [io_le (by omega) (by omega)]; omega)]
theorem mark0 {L : Lh} {M : Mem} {p s : Nat} (h : VR L M) (hp : p < L.1 7) (hs : s ≤ L.1 1) : f_X11_markOf (io p) (io s) (io 0) M = some (io (sa L p s)) ∧ f_X11_markOf (io p) (io s) (io 1) M = some (io (sk L p s)) ∧ f_X11_markOf (io p) (io s) (io 2) M = some (io (co L p s)) := by
  unfold f_X11_markOf
  simp only [lit]
  refine ⟨?_, ?_, ?_⟩
  · rw [if_pos trivial, saR h hp hs]; rfl
  · rw [if_neg (by decide), if_pos trivial, skR h hp hs]; rfl
  · rw [if_neg (by decide), if_neg (by decide), coR h hp hs]; rfl
theorem op_23 : ∀ (Mc Mr : Mem) (a1 : Int32), Rel Mc Mr → ∃ (r : Int32) (Mc' Mr' : Mem), f_X10_tight a1 Mc = some (r, Mc') ∧ f_X11_tight a1 Mr = some (r, Mr') ∧ Rel Mc' Mr' :=
  opS (fun a M => bnd (f_X2_mostOf 25 2 a M) (fun r => some (r, M))) (fun a M => bnd (f_X11_mostAt a 0 M) (fun r => some (r, M))) (fun _ _ => rfl) (fun _ _ => rfl) (fun L s Mc Mr hs hc hr => ⟨oi (mo (fun p => sa L p s) (fun p => decide (cm L p ≤ s)) (L.1 7)), by
    simp only [lit]
    rw [mostC hc hs (fun p hp => ⟨sa_le hc.1 hc.2.1 hp s, (vC hc hp hs).2.2⟩)]; rfl, by
    simp only [lit]
    rw [mostR hr hs (fun p hp => ⟨sa_le hc.1 hc.2.1 hp s, (mark0 hr hp hs).1⟩)]; rfl⟩)
theorem op_24 : ∀ (Mc Mr : Mem) (a1 : Int32), Rel Mc Mr → ∃ (r : Int32) (Mc' Mr' : Mem), f_X10_hottest a1 Mc = some (r, Mc') ∧ f_X11_hottest a1 Mr = some (r, Mr') ∧ Rel Mc' Mr' :=
  opS (fun a M => bnd (f_X2_mostOf 25 0 a M) (fun r => some (r, M))) (fun a M => bnd (f_X11_mostAt a 1 M) (fun r => some (r, M))) (fun _ _ => rfl) (fun _ _ => rfl) (fun L s Mc Mr hs hc hr => ⟨oi (mo (fun p => sk L p s) (fun p => decide (cm L p ≤ s)) (L.1 7)), by
    simp only [lit]
    rw [mostC hc hs (fun p hp => ⟨(sk_le hc.1 hc.2.1 hp s).1, (vC hc hp hs).1⟩)]; rfl, by
    simp only [lit]
    rw [mostR hr hs (fun p hp => ⟨(sk_le hc.1 hc.2.1 hp s).1, (mark0 hr hp hs).2.1⟩)]; rfl⟩)
theorem op_44 : ∀ (Mc Mr : Mem) (a1 : Int32), Rel Mc Mr → ∃ (r : Int32) (Mc' Mr' : Mem), f_X10_kernel a1 Mc = some (r, Mc') ∧ f_X11_kernel a1 Mr = some (r, Mr') ∧ Rel Mc' Mr' :=
  opS (fun a M => bnd (f_X2_mostOf 25 1 a M) (fun r => some (r, M))) (fun a M => bnd (f_X11_mostAt a 2 M) (fun r => some (r, M))) (fun _ _ => rfl) (fun _ _ => rfl) (fun L s Mc Mr hs hc hr => ⟨oi (mo (fun p => co L p s) (fun p => decide (cm L p ≤ s)) (L.1 7)), by
    simp only [lit]
    rw [mostC hc hs (fun p hp => ⟨(sk_le hc.1 hc.2.1 hp s).2, (vC hc hp hs).2.1⟩)]; rfl, by
    simp only [lit]
    rw [mostR hr hs (fun p hp => ⟨(sk_le hc.1 hc.2.1 hp s).2, (mark0 hr hp hs).2.2⟩)]; rfl⟩)
/-! glow -/
theorem op_25 : ∀ (Mc Mr : Mem) (a1 : Int32), Rel Mc Mr → ∃ (r : Int32) (Mc' Mr' : Mem), f_X10_glow a1 Mc = some (r, Mc') ∧ f_X11_glow a1 Mr = some (r, Mr') ∧ Rel Mc' Mr' :=
  opS (fun a M => bnd (f_X2_skinsTogether 25 a M) (fun r => some (r, M))) (fun a M => lq3 (L_X11_glow_25 a) FU 0 0 M) (fun _ _ => rfl) (fun _ _ => rfl) (fun L s Mc Mr hs hc hr => ⟨io (sN (fun p => if cm L p ≤ s then sk L p s else 0) (L.1 7)), by
    have hb := hc.b
    show bnd (f_X2_skinsTogether 25 (io s) Mc) _ = _
    have e : f_X2_skinsTogether 25 (io s) Mc = some (io (sN (fun p => if cm L p ≤ s then sk L p s else 0) (L.1 7))) := by
      unfold f_X2_skinsTogether
      refine up2 (fun i => io (sN (fun p => if cm L p ≤ s then sk L p s else 0) i)) (fun i => io i) (L.1 7) rfl rfl (by omega) (fun i hi K => ?_) (fun K => ?_)
      · unfold L_X2_skinsTogether_4
        rw [e25.1, hc.num (by omega), if_neg (by rw [io_le (by omega) (by omega)]; omega), comeV hc hi (by omega)]
        simp only [bnd_s, sN, ite01]
        by_cases c : cm L i ≤ s
        · rw [if_pos c, if_pos c, skC hc hi hs]
          simp only [bnd_s, letv_eq, lit, io_add]
        · rw [if_neg c, if_neg c]
          simp only [lit, io_add]; rfl
      · unfold L_X2_skinsTogether_4
        rw [e25.1, hc.num (by omega), if_pos (by rw [io_le (by omega) (by omega)]; omega)]
    rw [e]; rfl, by
    have hb := hc.b
    refine up3 (fun i => io (sN (fun p => if cm L p ≤ s then sk L p s else 0) i)) (fun i => io i) (fun _ => Mr) (L.1 7) rfl rfl rfl (by omega) (fun i hi K => ?_) (fun K => ?_)
    · unfold L_X11_glow_25
      rw [piecesV hr]
      simp only [bnd_s]
      rw [if_neg (by rw [io_le (by omega) (by omega)]; omega), comeW hr hi (by omega)]
      simp only [bnd_s, sN, ite01]
      by_cases c : cm L i ≤ s
      · rw [if_pos c, if_pos c, skR hr hi hs]
        simp only [bnd_s, letv_eq, lit, io_add]
      · rw [if_neg c, if_neg c]
        simp only [lit, io_add, letv_eq]
    · unfold L_X11_glow_25
      rw [piecesV hr]
      simp only [bnd_s]
      rw [if_pos (by rw [io_le (by omega) (by omega)]; omega)]⟩)
/-! spread -/
def spI (f : Nat → Nat) (g : Nat → Bool) (t : Nat) : Nat → Int32
  | 0 => io 0
  | n + 1 => if g n = true then f_max (spI f g t n) (io (f t) - io (f n)) else spI f g t n
theorem spreadC {L : Lh} {M : Mem} {s t : Nat} (hc : VC L M) (hs : s ≤ L.1 1) (ht : t < L.1 7) : lq2 (L_X2_skinSpread_19 25 (io s) M (io t)) FU 0 0 = some (spI (fun p => sk L p s) (fun p => decide (cm L p ≤ s)) t (L.1 7)) := by
  have hb := hc.b
  refine up2 (fun i => spI (fun p => sk L p s) (fun p => decide (cm L p ≤ s)) t i) (fun i => io i) (L.1 7) rfl rfl (by omega) (fun i hi K => ?_) (fun K => ?_)
  · unfold L_X2_skinSpread_19
    rw [e25.1, hc.num (by omega), if_neg (by rw [io_le (by omega) (by omega)]; omega), comeV hc hi (by omega)]
    simp only [bnd_s, spI, ite01, decide_eq_true_eq]
    by_cases c : cm L i ≤ s
    · rw [if_pos c, if_pos c, skC hc ht hs, skC hc hi hs]
      simp only [bnd_s, letv_eq, lit, io_add]
    · rw [if_neg c, if_neg c]
      simp only [lit, io_add]
  · unfold L_X2_skinSpread_19
    rw [e25.1, hc.num (by omega), if_pos (by rw [io_le (by omega) (by omega)]; omega)]
theorem spreadR {L : Lh} {M : Mem} {s t : Nat} (hr : VR L M) (hs : s ≤ L.1 1) (ht : t < L.1 7) : lq3 (L_X11_spread_33 (io s) (io t)) FU 0 0 M = some (spI (fun p => sk L p s) (fun p => decide (cm L p ≤ s)) t (L.1 7), M) := by
  have hb := hr.b
  refine up3 (fun i => spI (fun p => sk L p s) (fun p => decide (cm L p ≤ s)) t i) (fun i => io i) (fun _ => M) (L.1 7) rfl rfl rfl (by omega) (fun i hi K => ?_) (fun K => ?_)
  · unfold L_X11_spread_33
    rw [piecesV hr]
    simp only [bnd_s]
    rw [if_neg (by rw [io_le (by omega) (by omega)]; omega), comeW hr hi (by omega)]
    simp only [bnd_s, spI, ite01, decide_eq_true_eq]
    by_cases c : cm L i ≤ s
    · rw [if_pos c, if_pos c, skR hr ht hs, skR hr hi hs]
      simp only [bnd_s, letv_eq, lit, io_add, max_more]
    · rw [if_neg c, if_neg c]
      simp only [lit, io_add]
  · unfold L_X11_spread_33
    rw [piecesV hr]
    simp only [bnd_s]
    rw [if_pos (by rw [io_le (by omega) (by omega)]; omega)]
theorem spreadN {L : Lh} {M : Mem} {s : Nat} {x : Int32} (hr : VR L M) (hs : s ≤ L.1 1) (hn : ∀ i, i < L.1 7 → ¬ cm L i ≤ s) : lq3 (L_X11_spread_33 (io s) x) FU 0 0 M = some (0, M) := by
  have hb := hr.b
  refine up3 (fun i => io 0) (fun i => io i) (fun _ => M) (L.1 7) rfl rfl rfl (by omega) (fun i hi K => ?_) (fun K => ?_)
  · unfold L_X11_spread_33
    rw [piecesV hr]
    simp only [bnd_s]
    rw [if_neg (by rw [io_le (by omega) (by omega)]; omega), comeW hr hi (by omega)]
    simp only [bnd_s, ite01]
    rw [if_neg (hn i hi)]
    simp only [lit, io_add]
  · unfold L_X11_spread_33
    rw [piecesV hr]
    simp only [bnd_s]
    rw [if_pos (by rw [io_le (by omega) (by omega)]; omega)]
    rfl
theorem ask_41 {L : Lh} {s : Nat} {Mc Mr : Mem} (hs : s ≤ L.1 1) (hc : VC L Mc) (hr : VR L Mr) : ∃ r, f_X2_skinSpread 25 (io s) Mc = some r ∧ bnd (f_X11_mostAt (io s) 1 Mr) (fun r8 => lq3 (L_X11_spread_33 (io s) r8) FU 0 0 Mr) = some (r, Mr) := by
  have hb := hc.b
  have eC := mostC (k := 0) hc hs (fun p hp => ⟨(sk_le hc.1 hc.2.1 hp s).1, (vC hc hp hs).1⟩)
  have eR := mostR (k := 1) hr hs (fun p hp => ⟨(sk_le hc.1 hc.2.1 hp s).1, (mark0 hr hp hs).2.1⟩)
  unfold f_X2_skinSpread
  rw [show (0 : Int32) = io 0 from lit 0, show (1 : Int32) = io 1 from lit 1, eC, eR]
  simp only [bnd_s, nio1]
  cases e : mo (fun p => sk L p s) (fun p => decide (cm L p ≤ s)) (L.1 7) with
  | none =>
    have hn := mo_none e
    refine ⟨io 0, ?_, ?_⟩
    · rw [if_pos oi_none]
    · exact spreadN hr hs (fun i hi => of_decide_eq_false (hn i hi))
  | some t =>
    have ht := mo_lt e
    rw [oi_some]
    refine ⟨spI (fun p => sk L p s) (fun p => decide (cm L p ≤ s)) t (L.1 7), ?_, ?_⟩
    · rw [if_neg (fun q => (io_m1 (a := t) (by omega)).mp q)]
      exact spreadC hc hs ht
    · exact spreadR hr hs ht
theorem op_41 : ∀ (Mc Mr : Mem) (a1 : Int32), Rel Mc Mr → ∃ (r : Int32) (Mc' Mr' : Mem), f_X10_spread a1 Mc = some (r, Mc') ∧ f_X11_spread a1 Mr = some (r, Mr') ∧ Rel Mc' Mr' :=
  opS (fun a M => bnd (f_X2_skinSpread 25 a M) (fun r => some (r, M))) (fun a M => bnd (f_X11_mostAt a 1 M) (fun r8 => lq3 (L_X11_spread_33 a r8) FU 0 0 M)) (fun _ _ => rfl) (fun _ _ => rfl) (fun L s Mc Mr hs hc hr => by
    obtain ⟨r, e1, e2⟩ := ask_41 hs hc hr
    exact ⟨r, by rw [e1]; rfl, e2⟩)
/-! stiff -/
theorem op_49 : ∀ (Mc Mr : Mem) (a1 : Int32), Rel Mc Mr → ∃ (r : Int32) (Mc' Mr' : Mem), f_X10_stiff a1 Mc = some (r, Mc') ∧ f_X11_stiff a1 Mr = some (r, Mr') ∧ Rel Mc' Mr' :=
  opS (fun a M => bnd (f_X2_stiffAt 25 a M) (fun r => some (r, M))) (fun a M => lq3 (L_X11_stiff_25 a) FU 0 0 M) (fun _ _ => rfl) (fun _ _ => rfl) (fun L s Mc Mr hs hc hr => ⟨io (bN (fun p => decide (cm L p ≤ s) && decide (co L p s < L.1 5)) (L.1 7)), by
    have hb := hc.b
    have h5 := hc.1.2.2.1.2.2.2.2.2.1
    show bnd (f_X2_stiffAt 25 (io s) Mc) _ = _
    have e : f_X2_stiffAt 25 (io s) Mc = some (io (bN (fun p => decide (cm L p ≤ s) && decide (co L p s < L.1 5)) (L.1 7))) := by
      unfold f_X2_stiffAt
      refine up2 (fun i => io (bN (fun p => decide (cm L p ≤ s) && decide (co L p s < L.1 5)) i)) (fun i => io i) (L.1 7) rfl rfl (by omega) (fun i hi K => ?_) (fun K => ?_)
      · unfold L_X2_stiffAt_4
        have hco := (sk_le hc.1 hc.2.1 hi s).2
        rw [e25.1, hc.num (by omega), if_neg (by rw [io_le (by omega) (by omega)]; omega), comeV hc hi (by omega), bit_step (by omega)]
        simp only [bnd_s, ite01]
        by_cases c : cm L i ≤ s
        · rw [if_pos c, (vC hc hi hs).2.1]
          simp only [bnd_s, hc.num (i := 5) (by omega), letv_eq, lit, io_add]
          by_cases c2 : co L i s < L.1 5
          · rw [if_neg (by rw [io_le (by omega) (by omega)]; omega), if_pos (by simp [c, c2])]
          · rw [if_pos (by rw [io_le (by omega) (by omega)]; omega), if_neg (by simp [c2])]
        · rw [if_neg c, if_neg (by simp [c])]
          simp only [lit, io_add]
      · unfold L_X2_stiffAt_4
        rw [e25.1, hc.num (by omega), if_pos (by rw [io_le (by omega) (by omega)]; omega)]
    rw [e]; rfl, by
    have hb := hc.b
    have h5 := hc.1.2.2.1.2.2.2.2.2.1
    refine up3 (fun i => io (bN (fun p => decide (cm L p ≤ s) && decide (co L p s < L.1 5)) i)) (fun i => io i) (fun _ => Mr) (L.1 7) rfl rfl rfl (by omega) (fun i hi K => ?_) (fun K => ?_)
    · unfold L_X11_stiff_25
      have hco := (sk_le hc.1 hc.2.1 hi s).2
      rw [piecesV hr]
      simp only [bnd_s]
      rw [if_neg (by rw [io_le (by omega) (by omega)]; omega), comeW hr hi (by omega), bit_step (by omega)]
      simp only [bnd_s, ite01]
      by_cases c : cm L i ≤ s
      · rw [if_pos c, coR hr hi hs]
        simp only [bnd_s, letv_eq, lit, io_add, or0]
        simp (disch := omega) only [oob_f, Bool.false_eq_true, if_false, ix_io]
        rw [show Mr.1 7 4 = io (L.1 5) from numR hr.2.2.1 (by omega)]
        by_cases c2 : co L i s < L.1 5
        · rw [if_neg (by rw [io_le (by omega) (by omega)]; omega), if_pos (by simp [c, c2])]
        · rw [if_pos (by rw [io_le (by omega) (by omega)]; omega), if_neg (by simp [c2])]
      · rw [if_neg c, if_neg (by simp [c])]
        simp only [lit, io_add, letv_eq, or0]
    · unfold L_X11_stiff_25
      rw [piecesV hr]
      simp only [bnd_s]
      rw [if_pos (by rw [io_le (by omega) (by omega)]; omega)]⟩)
