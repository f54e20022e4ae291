/-! LEHRS AND THE RELATION of the two memories -/
def fu {α : Type} (f : Nat → α) (i : Nat) (v : α) : Nat → α := fun j => if j = i then v else f j
/-- numbers (0 lines, 1 steps, 2 law, 3 odds, 4 pace, 5 set, 6 zones, 7 pieces, 8 acts), zones, pieces (0 heat, 1 thick, 2 bears, 3 comes), acts (0 kind, 1 zone, 2 n, 3 step) -/
abbrev Lh : Type := (Nat → Nat) × (Nat → Nat) × (Nat → Nat → Nat) × (Nat → Nat → Nat)
def gst (L : Lh) : Nat → Nat → Bool
  | 0, _ => false
  | n + 1, s => gst L n s || (decide (L.2.2.2 n 0 = 1) && decide (L.2.2.2 n 3 = s))
def hot (L : Lh) : Nat → Nat → Nat → Nat
  | 0, _, _ => 0
  | n + 1, z, s => hot L n z s + if L.2.2.2 n 0 = 0 ∧ L.2.2.2 n 1 = z ∧ L.2.2.2 n 3 ≤ s then L.2.2.2 n 2 else 0
def airN (n : Nat) (b : Bool) : Nat := if b = true then n - 80 else n
def mk (nums : Nat → Nat) (pz : Nat → Nat → Nat) (tl : Nat → Nat) (ht : Nat → Nat → Nat) (g : Nat → Bool) : Cf := (nums, pz, fun z s => airN (tl z + ht z s) (g s))
/-- the lehr as it is now -/
def cfN (L : Lh) : Cf := mk L.1 L.2.2.1 L.2.1 (hot L (L.1 8)) (gst L (L.1 8))
def OkL (L : Lh) : Prop := (L.1 0 = 0 → ∀ i, L.1 i = 0) ∧ (0 < L.1 0 → 1 ≤ L.1 1 ∧ 1 ≤ L.1 4) ∧ (L.1 0 ≤ 600 ∧ L.1 1 ≤ 14 ∧ L.1 2 ≤ 3 ∧ L.1 3 ≤ 10 ∧ L.1 4 ≤ 4 ∧ L.1 5 ≤ 600 ∧ L.1 6 ≤ 7 ∧ L.1 7 ≤ 6 ∧ L.1 8 ≤ 30) ∧ (∀ z, z < L.1 6 → L.2.1 z ≤ 600) ∧ (∀ p, p < L.1 7 → L.2.2.1 p 0 ≤ 600 ∧ (1 ≤ L.2.2.1 p 1 ∧ L.2.2.1 p 1 ≤ 9) ∧ L.2.2.1 p 2 ≤ 300 ∧ L.2.2.1 p 3 ≤ 14) ∧ (∀ a, a < L.1 8 → (L.2.2.2 a 0 = 0 ∧ L.2.2.2 a 1 < L.1 6 ∧ L.2.2.2 a 2 ≤ 200 ∧ L.2.2.2 a 3 ≤ 14) ∨ (L.2.2.2 a 0 = 1 ∧ L.2.2.2 a 2 = 0 ∧ L.2.2.2 a 3 < 14))
def actz (L : Lh) (a : Nat) : Int32 := if L.2.2.2 a 0 = 1 then m1 else io (L.2.2.2 a 1)
/-- a lehr in the class's memory: plan P, acts P + 6 -/
def RpC (P : Nat) (L : Lh) (M : Mem) : Prop := (∀ i, i < 8 → M.1 P i = io (L.1 i)) ∧ (M.1 (P + 6) 0 = io (L.1 8) ∧ M.1 (P + 6) 1 = io (bN (gst L (L.1 8)) 15)) ∧ (∀ z, z < L.1 6 → M.1 (P + 1) z = io (L.2.1 z)) ∧ (∀ p, p < L.1 7 → M.1 (P + 2) p = io (L.2.2.1 p 0) ∧ M.1 (P + 3) p = io (L.2.2.1 p 1) ∧ M.1 (P + 4) p = io (L.2.2.1 p 2) ∧ M.1 (P + 5) p = io (L.2.2.1 p 3)) ∧ (∀ a, a < L.1 8 → M.1 (P + 7) a = actz L a ∧ M.1 (P + 8) a = io (L.2.2.2 a 2) ∧ M.1 (P + 9) a = io (L.2.2.2 a 3)) ∧ (∀ z s, z < 7 → s < 15 → M.1 (P + 10) (z * 15 + s) = io (hot L (L.1 8) z s))
/-- a lehr in the reference's memory: row k -/
def RpR (k : Nat) (L : Lh) (M : Mem) : Prop := M.1 6 k = io (L.1 0) ∧ (∀ i, i < 8 → M.1 7 (8 * k + i) = io (L.1 (i + 1))) ∧ (∀ z, z < L.1 6 → M.1 8 (7 * k + z) = io (L.2.1 z)) ∧ (∀ p w, p < L.1 7 → w < 4 → M.1 9 (24 * k + (4 * p + w)) = io (L.2.2.1 p w)) ∧ (∀ a, a < L.1 8 → M.1 10 (120 * k + 4 * a) = io (L.2.2.2 a 0) ∧ M.1 10 (120 * k + (4 * a + 1)) = actz L a ∧ M.1 10 (120 * k + (4 * a + 2)) = io (L.2.2.2 a 2) ∧ M.1 10 (120 * k + (4 * a + 3)) = io (L.2.2.2 a 3))
def RelT (Mc Mr : Mem) : Prop := ∃ n, n ≤ 600 ∧ Mc.1 4 1 = io n ∧ Mr.1 0 6 = io n ∧ ∀ i, i < n → Mc.1 5 i = Mr.1 5 i
def RelF (Mc Mr : Mem) : Prop := Mc.1 6 4 = Mr.1 0 14 ∧ Mc.1 6 5 = Mr.1 0 15
def RelW (Mc Mr : Mem) (k : Nat) : Prop := (Mr.1 1 k = m1 ∧ Mc.1 (103 + 2 * k) 0 = io 0) ∨ ∃ w n, w < 4 ∧ n ≤ 60 ∧ Mr.1 1 k = io w ∧ Mr.1 2 k = io n ∧ Mc.1 (103 + 2 * k) 0 = io 1 ∧ Mc.1 (103 + 2 * k) 1 = io w ∧ Mc.1 (103 + 2 * k) 2 = io n ∧ ∀ i, i < n → Mc.2 (104 + 2 * k) i = Mr.2 3 (60 * k + i)
def RelI (Mc Mr : Mem) (k : Nat) : Prop := (Mc.1 2 k = io 0 ∧ Mr.1 11 k = io 0) ∨ (Mc.1 2 k = io 1 ∧ Mr.1 11 k = io 1 ∧ ∃ L, OkL L ∧ RpC (68 + 12 * k) L Mc ∧ RpR (k + 1) L Mr)
def RelC (L : Lh) (Mc : Mem) : Prop := Mc.1 0 10 = io 0 ∨ (Mc.1 0 10 = io 1 ∧ Ct_25 (cfN L) (fun _ => True) (L.1 1) (fun _ => L.1 1) Mc)
def RelN (L : Lh) (Mc Mr : Mem) : Prop := OkL L ∧ RpC 14 L Mc ∧ RpR 0 L Mr ∧ RelC L Mc
def Rel (Mc Mr : Mem) : Prop := RelT Mc Mr ∧ RelF Mc Mr ∧ (∀ k, k < 4 → RelW Mc Mr k) ∧ (∀ k, k < 3 → RelI Mc Mr k) ∧ ∃ L, RelN L Mc Mr
/-- what of the reference's memory is kept -/
def KR (M M' : Mem) : Prop := (∀ a, a ∈ [1, 2, 5, 6, 7, 8, 9, 10, 11] → M'.1 a = M.1 a) ∧ (∀ j, j ∈ [6, 14, 15] → M'.1 0 j = M.1 0 j) ∧ M'.2 3 = M.2 3
/-- what of the class's is -/
def KC (M M' : Mem) : Prop := (∀ a, a < 33 ∨ 66 < a → M'.1 a = M.1 a) ∧ ∀ a, 66 < a → M'.2 a = M.2 a
theorem KR.refl {M : Mem} : KR M M := ⟨fun _ _ => Eq.refl _, fun _ _ => Eq.refl _, Eq.refl _⟩
theorem KR.trans {M M' M'' : Mem} (h : KR M M') (h2 : KR M' M'') : KR M M'' := ⟨fun a ha => (h2.1 a ha).trans (h.1 a ha), fun a ha => (h2.2.1 a ha).trans (h.2.1 a ha), h2.2.2.trans h.2.2⟩
theorem KR.fr {S : List Nat} {M M' M'' : Mem} (h : KR M M') (h2 : Fr S M' M'') (hs : ∀ a, a ∈ S → a ∉ [0, 1, 2, 5, 6, 7, 8, 9, 10, 11]) : KR M M'' :=
  h.trans ⟨fun a ha => h2.1 a (fun q => hs a q (List.mem_cons_of_mem _ ha)), fun j _ => congrFun (h2.1 0 (fun q => hs 0 q (by decide))) j, congrFun h2.2 3⟩
theorem KR.sto {M M' : Mem} {a k : Nat} {v : Int32} (h : KR M M') (ha : a ∉ [0, 1, 2, 5, 6, 7, 8, 9, 10, 11]) : KR M (st M' a k v) :=
  h.fr (S := [a]) (Fr.rfl.sto (List.mem_cons_self ..)) (fun b hb => by rw [List.mem_singleton.mp hb]; exact ha)
theorem KR.st0 {M M' : Mem} {k : Nat} {v : Int32} (h : KR M M') (hk : k ∉ [6, 14, 15]) : KR M (st M' 0 k v) := by
  refine h.trans ⟨fun a ha => ?_, fun j hj => ?_, rfl⟩
  · have : a ≠ 0 := by rintro rfl; revert ha; decide
    funext j; simp [st, this]
  · have : j ≠ k := fun q => hk (q ▸ hj)
    simp [st, this]
theorem KR.stoL {M M' : Mem} {a k : Nat} {v : Int64} (h : KR M M') (ha : a ≠ 3) : KR M (stL M' a k v) := by
  refine h.trans ⟨fun _ _ => rfl, fun _ _ => rfl, ?_⟩
  funext j
  have : 3 ≠ a := fun q => ha q.symm
  simp [stL, this]
theorem KC.refl {M : Mem} : KC M M := ⟨fun _ _ => Eq.refl _, fun _ _ => Eq.refl _⟩
theorem KC.trans {M M' M'' : Mem} (h : KC M M') (h2 : KC M' M'') : KC M M'' := ⟨fun a ha => (h2.1 a ha).trans (h.1 a ha), fun a ha => (h2.2 a ha).trans (h.2 a ha)⟩
theorem KC.fr {S : List Nat} {M M' M'' : Mem} (h : KC M M') (h2 : Fr S M' M'') (hs : ∀ a, a ∈ S → 33 ≤ a ∧ a ≤ 66) : KC M M'' :=
  h.trans ⟨fun a ha => h2.1 a (fun q => by have := hs a q; omega), fun a _ => congrFun h2.2 a⟩
theorem KC.sto {M M' : Mem} {a k : Nat} {v : Int32} (h : KC M M') (ha : 33 ≤ a ∧ a ≤ 66) : KC M (st M' a k v) :=
  h.fr (S := [a]) (Fr.rfl.sto (List.mem_cons_self ..)) (fun b hb => by rw [List.mem_singleton.mp hb]; exact ha)
theorem KC.stoL {M M' : Mem} {a k : Nat} {v : Int64} (h : KC M M') (ha : a ≤ 66) : KC M (stL M' a k v) := by
  refine h.trans ⟨fun _ _ => Eq.refl _, fun b hb => ?_⟩
  have : b ≠ a := by omega
  funext j
  simp [stL, this]
theorem RpC.congr {P : Nat} {L : Lh} {M M' : Mem} (h : RpC P L M) (g : ∀ a, P ≤ a → a ≤ P + 10 → M'.1 a = M.1 a) : RpC P L M' := by
  unfold RpC at *
  rw [g P (by omega) (by omega), g (P + 1) (by omega) (by omega), g (P + 2) (by omega) (by omega), g (P + 3) (by omega) (by omega), g (P + 4) (by omega) (by omega), g (P + 5) (by omega) (by omega), g (P + 6) (by omega) (by omega), g (P + 7) (by omega) (by omega), g (P + 8) (by omega) (by omega), g (P + 9) (by omega) (by omega), g (P + 10) (by omega) (by omega)]
  exact h
theorem RpR.congr {k : Nat} {L : Lh} {M M' : Mem} (h : RpR k L M) (g : ∀ a, a ∈ [6, 7, 8, 9, 10] → M'.1 a = M.1 a) : RpR k L M' := by
  unfold RpR at *
  rw [g 6 (by decide), g 7 (by decide), g 8 (by decide), g 9 (by decide), g 10 (by decide)]
  exact h
theorem Ct25.congr {c : Cf} {W : Nat → Prop} {l : Nat} {t : Nat → Nat} {M M' : Mem} (h : Ct_25 c W l t M) (g : ∀ a, 26 ≤ a → a ≤ 32 → M'.1 a = M.1 a) : Ct_25 c W l t M' := by
  unfold Ct_25 at *
  rw [g 26 (by omega) (by omega), g 27 (by omega) (by omega), g 28 (by omega) (by omega), g 29 (by omega) (by omega), g 30 (by omega) (by omega), g 31 (by omega) (by omega), g 32 (by omega) (by omega)]
  exact h
theorem RelN.kr {L : Lh} {Mc Mr Mr' : Mem} (h : RelN L Mc Mr) (k : KR Mr Mr') : RelN L Mc Mr' := ⟨h.1, h.2.1, h.2.2.1.congr (fun a ha => k.1 a (by revert a; decide)), h.2.2.2⟩
theorem RelN.kc {L : Lh} {Mc Mc' Mr : Mem} (h : RelN L Mc Mr) (k : KC Mc Mc') : RelN L Mc' Mr := by
  refine ⟨h.1, h.2.1.congr (fun a h1 h2 => k.1 a (by omega)), h.2.2.1, ?_⟩
  unfold RelC at *
  rw [k.1 0 (by omega)]
  rcases h.2.2.2 with h | ⟨h, h2⟩
  · exact Or.inl h
  · exact Or.inr ⟨h, Ct25.congr h2 (fun a h1 h2 => k.1 a (by omega))⟩
/-- all but the lehr as it is now -/
def RelX (Mc Mr : Mem) : Prop := RelT Mc Mr ∧ RelF Mc Mr ∧ (∀ k, k < 4 → RelW Mc Mr k) ∧ (∀ k, k < 3 → RelI Mc Mr k)
theorem Rel.ofX {L : Lh} {Mc Mr : Mem} (h : RelX Mc Mr) (h2 : RelN L Mc Mr) : Rel Mc Mr := ⟨h.1, h.2.1, h.2.2.1, h.2.2.2, L, h2⟩
theorem RelX.kr {Mc Mr Mr' : Mem} (h : RelX Mc Mr) (k : KR Mr Mr') : RelX Mc Mr' := by
  obtain ⟨h1, h2, h3, h4⟩ := h
  refine ⟨?_, ?_, fun i hi => ?_, fun i hi => ?_⟩
  · unfold RelT at *
    rw [k.1 5 (by decide), k.2.1 6 (by decide)]; exact h1
  · unfold RelF at *
    rw [k.2.1 14 (by decide), k.2.1 15 (by decide)]; exact h2
  · have := h3 i hi
    unfold RelW at *
    rw [k.1 1 (by decide), k.1 2 (by decide), k.2.2]; exact this
  · rcases h4 i hi with h | ⟨h, h', L, ho, hc, hr⟩
    · exact Or.inl (by rw [k.1 11 (by decide)]; exact h)
    · exact Or.inr ⟨h, by rw [k.1 11 (by decide)]; exact h', L, ho, hc, hr.congr (fun a ha => k.1 a (by revert a; decide))⟩
/-- a change of the class's memory that leaves all but the lehr of now -/
def KX (M M' : Mem) : Prop := (∀ a, a ∈ [2, 4, 5, 6] ∨ 66 < a → M'.1 a = M.1 a) ∧ ∀ a, 66 < a → M'.2 a = M.2 a
theorem KX.trans {M M' M'' : Mem} (h : KX M M') (h2 : KX M' M'') : KX M M'' := ⟨fun a ha => (h2.1 a ha).trans (h.1 a ha), fun a ha => (h2.2 a ha).trans (h.2 a ha)⟩
theorem KX.refl {M : Mem} : KX M M := ⟨fun _ _ => Eq.refl _, fun _ _ => Eq.refl _⟩
theorem KX.fr {S : List Nat} {M M' M'' : Mem} (h : KX M M') (h2 : Fr S M' M'') (hs : ∀ a, a ∈ S → a ∉ [2, 4, 5, 6] ∧ a ≤ 66) : KX M M'' :=
  h.trans ⟨fun a ha => h2.1 a (fun q => by rcases ha with ha | ha; exact (hs a q).1 ha; have := (hs a q).2; omega), fun a _ => congrFun h2.2 a⟩
theorem KX.sto {M M' : Mem} {a k : Nat} {v : Int32} (h : KX M M') (ha : a ∉ [2, 4, 5, 6] ∧ a ≤ 66) : KX M (st M' a k v) :=
  h.fr (S := [a]) (Fr.rfl.sto (List.mem_cons_self ..)) (fun b hb => by rw [List.mem_singleton.mp hb]; exact ha)
theorem KC.toX {M M' : Mem} (h : KC M M') : KX M M' := ⟨fun a ha => h.1 a (by rcases ha with ha | ha; left; revert a; decide; exact Or.inr ha), h.2⟩
theorem RelX.kx {Mc Mc' Mr : Mem} (h : RelX Mc Mr) (k : KX Mc Mc') : RelX Mc' Mr := by
  obtain ⟨h1, h2, h3, h4⟩ := h
  refine ⟨?_, ?_, fun i hi => ?_, fun i hi => ?_⟩
  · unfold RelT at *
    rw [k.1 4 (by decide), k.1 5 (by decide)]; exact h1
  · unfold RelF at *
    rw [k.1 6 (by decide)]; exact h2
  · have := h3 i hi
    unfold RelW at *
    rw [k.1 (103 + 2 * i) (by omega), k.2 (104 + 2 * i) (by omega)]; exact this
  · rcases h4 i hi with h | ⟨h, h', L, ho, hc, hr⟩
    · exact Or.inl (by rw [k.1 2 (by decide)]; exact h)
    · exact Or.inr ⟨by rw [k.1 2 (by decide)]; exact h, h', L, ho, hc.congr (fun a h1 h2 => k.1 a (by omega)), hr⟩
theorem Rel.split {Mc Mr : Mem} (h : Rel Mc Mr) : RelX Mc Mr ∧ ∃ L, RelN L Mc Mr := ⟨⟨h.1, h.2.1, h.2.2.1, h.2.2.2.1⟩, h.2.2.2.2⟩
theorem Rel.kr {Mc Mr Mr' : Mem} (h : Rel Mc Mr) (k : KR Mr Mr') : Rel Mc Mr' := by
  obtain ⟨hX, L, hN⟩ := h.split
  exact Rel.ofX (hX.kr k) (hN.kr k)
theorem Rel.kc {Mc Mc' Mr : Mem} (h : Rel Mc Mr) (k : KC Mc Mc') : Rel Mc' Mr := by
  obtain ⟨hX, L, hN⟩ := h.split
  exact Rel.ofX (hX.kx k.toX) (hN.kc k)
/-! what a lehr's numbers give -/
theorem hot_le {L : Lh} (h : OkL L) (z s : Nat) : ∀ n, n ≤ L.1 8 → hot L n z s ≤ n * 200
  | 0, _ => by simp [hot]
  | n + 1, hn => by
    have ih := hot_le h z s n (by omega)
    have ha := h.2.2.2.2.2 n (by omega)
    simp only [hot, Nat.succ_mul]
    split
    · rename_i e
      rcases ha with ha | ha
      · omega
      · omega
    · omega
theorem hot_lt {L : Lh} (h : OkL L) (z s : Nat) : hot L (L.1 8) z s ≤ 6000 := by
  have h1 := hot_le h z s (L.1 8) (Nat.le_refl _)
  have h2 := h.2.2.1.2.2.2.2.2.2.2.2
  omega
theorem airN_le (n : Nat) (b : Bool) : airN n b ≤ n := by unfold airN; split <;> omega
theorem OkC.mk {nums : Nat → Nat} {pz : Nat → Nat → Nat} {tl : Nat → Nat} {ht : Nat → Nat → Nat} {g : Nat → Bool} (h1 : nums 1 ≤ 14) (h2 : nums 2 ≤ 3) (h4 : 1 ≤ nums 4 ∧ nums 4 ≤ 6) (h5 : nums 5 ≤ 600) (h6 : nums 6 ≤ 7) (h7 : nums 7 ≤ 6) (hp : ∀ p, p < nums 7 → pz p 0 ≤ 600 ∧ (1 ≤ pz p 1 ∧ pz p 1 ≤ 9) ∧ pz p 2 ≤ 1000000 ∧ pz p 3 ≤ 14) (ha : ∀ z s, z < nums 6 → tl z ≤ 1000 ∧ ht z s ≤ 6000) : OkC (mk nums pz tl ht g) :=
  ⟨h1, h2, h4, h5, h6, h7, fun p hq => ⟨Nat.le_trans (hp p hq).1 (by decide), (hp p hq).2⟩, fun z s hz => by
    have := ha z s hz
    have h3 := airN_le (tl z + ht z s) (g s)
    show airN (tl z + ht z s) (g s) ≤ 20000
    omega⟩
theorem OkL.ok {L : Lh} (hL : OkL L) (h0 : 0 < L.1 0) : OkC (cfN L) := OkC.mk hL.2.2.1.2.1 hL.2.2.1.2.2.1 ⟨(hL.2.1 h0).2, Nat.le_trans hL.2.2.1.2.2.2.2.1 (by decide)⟩ hL.2.2.1.2.2.2.2.2.1 hL.2.2.1.2.2.2.2.2.2.1 hL.2.2.1.2.2.2.2.2.2.2.1 (fun p hp => by have := hL.2.2.2.2.1 p hp; exact ⟨this.1, this.2.1, by omega, this.2.2.2⟩) (fun z s hz => ⟨Nat.le_trans (hL.2.2.2.1 z hz) (by decide), hot_lt hL z s⟩)
