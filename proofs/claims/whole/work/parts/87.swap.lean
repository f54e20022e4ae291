def cutO (n : Nat) : Option Nat → Option Nat
  | none => none
  | some m => if m < n then some m else none
theorem ff_lt {S : Nat → Bool} {n : Nat} (hn : n ≤ 201) : ff S n = cutO n (ff S 201) := by
  rcases ff_or S 201 with ⟨f1, f2⟩ | ⟨m, hm, f1, f2, f3⟩
  · rw [f1]
    exact ff_none (fun i hi => f2 i (by omega))
  · rw [f1]
    show _ = if m < n then some m else none
    by_cases c : m < n
    · rw [if_pos c]; exact ff_some f2 f3 c
    · rw [if_neg c]; exact ff_none (fun i hi => f3 i (by omega))
/-- the least raise so far, and its zone -/
def lowN (L : Lh) (p : Nat) : Nat → Nat
  | 0 => 201
  | z + 1 => match ff (upS L z p) (lowN L p z) with
    | none => lowN L p z
    | some m => m
def lowZ (L : Lh) (p : Nat) : Nat → Int32
  | 0 => m1
  | z + 1 => match ff (upS L z p) (lowN L p z) with
    | none => lowZ L p z
    | some _ => io z
theorem lowN_le (L : Lh) (p : Nat) : ∀ n, lowN L p n ≤ 201
  | 0 => Nat.le_refl _
  | z + 1 => by
    have ih := lowN_le L p z
    simp only [lowN]
    rcases ff_or (upS L z p) (lowN L p z) with ⟨f1, f2⟩ | ⟨m, hm, f1, f2, f3⟩
    · rw [f1]; exact ih
    · rw [f1]; show m ≤ 201; omega
theorem rescueC {L : Lh} {M : Mem} {p : Nat} (hL : OkL L) (h0 : 0 < L.1 0) (hC : RpC 14 L M) (hp : p < L.1 7) : ∃ M', f_X9_bestZoneFor (io p) M = some (lowZ L p (L.1 6), M') ∧ KC M M' := by
  have g := hL.2.2.1
  unfold f_X9_bestZoneFor
  obtain ⟨r, ⟨r1, r2⟩, hr⟩ := in4x (b := L_X9_bestZoneFor_9 (io p)) (fun i x y z M2 => x = lowZ L p i ∧ y = io (lowN L p i) ∧ z = io i ∧ KC M M2) (fun r => r.1 = lowZ L p (L.1 6) ∧ KC M r.2) (L.1 6) (x := -1) (y := 201) (z := 0) (w := M) ⟨rfl, rfl, rfl, KC.refl⟩ (by omega) (fun i x y z M2 hi h => by
      obtain ⟨rfl, rfl, rfl, k2⟩ := h
      have hC2 := hC.kc k2 (by omega)
      have hn := lowN_le L p i
      obtain ⟨M3, e3, k3⟩ := raiseC (z := i) (n := lowN L p i) hL h0 hC2 hi hp hn
      refine ⟨lowZ L p (i + 1), io (lowN L p (i + 1)), io (i + 1), M3, ⟨rfl, rfl, rfl, k2.trans k3⟩, fun K => ?_⟩
      unfold L_X9_bestZoneFor_9
      rw [show M2.1 14 6 = io (L.1 6) from hC2.1 6 (by omega), if_neg (by rw [io_le (by omega) (by omega)]; omega), e3, bnd2_s, show (1 : Int32) = io 1 from rfl, io_add]
      simp only [lowN, lowZ]
      rcases ff_or (upS L i p) (lowN L p i) with ⟨f1, f2⟩ | ⟨m, hm, f1, f2, f3⟩
      · rw [f1]
        rw [if_pos (show oi none = -io 1 from rfl)]
      · rw [f1]
        rw [if_neg (show ¬ oi (some m) = -io 1 from fun q => (io_m1 (a := m) (by omega)).mp q)]
        rfl) (fun x y z M2 h => by
      obtain ⟨rfl, rfl, rfl, k2⟩ := h
      refine ⟨(_, M2), ⟨rfl, k2⟩, fun K => ?_⟩
      unfold L_X9_bestZoneFor_9
      rw [show M2.1 14 6 = io (L.1 6) from (hC.kc k2 (by omega)).1 6 (by omega), if_pos (by rw [io_le (by omega) (by omega)]; omega)])
  exact ⟨r.2, by rw [hr, ← r1], r2⟩
theorem rescueR {L : Lh} {M : Mem} {p : Nat} (hL : OkL L) (h0 : 0 < L.1 0) (hR : RpR 0 L M) (hp : p < L.1 7) : ∃ M', lq4 (L_X11_rescue_25 (io p)) FU (-1) 1000000 0 M = some (lowZ L p (L.1 6), M') ∧ KR M M' := by
  have g := hL.2.2.1
  obtain ⟨r, ⟨r1, r2⟩, hr⟩ := in4x (b := L_X11_rescue_25 (io p)) (fun i x y z M2 => x = lowZ L p i ∧ (y = io (lowN L p i) ∨ (y = io 1000000 ∧ lowN L p i = 201)) ∧ z = io i ∧ KR M M2) (fun r => r.1 = lowZ L p (L.1 6) ∧ KR M r.2) (L.1 6) (x := -1) (y := 1000000) (z := 0) (w := M) ⟨rfl, Or.inr ⟨rfl, rfl⟩, rfl, KR.refl⟩ (by omega) (fun i x y z M2 hi h => by
      obtain ⟨rfl, hy, rfl, k2⟩ := h
      have hR2 := hR.kr k2
      have hn := lowN_le L p i
      obtain ⟨M3, e3, k3⟩ := raiseR (z := i) hL h0 hR2 hi hp
      have n5 : M2.1 7 5 = io (L.1 6) := hR2.2.1 5 (by omega)
      have key := ff_lt (S := upS L i p) hn
      have hxx : ∀ K, L_X11_rescue_25 (io p) K (lowZ L p i) y (io i) M2 = if oi (ff (upS L i p) 201) = -1 then K (lowZ L p i) y (io i + 1) M3 else if oi (ff (upS L i p) 201) < y then K (io i) (oi (ff (upS L i p) 201)) (io i + 1) M3 else K (lowZ L p i) y (io i + 1) M3 := by
        intro K
        unfold L_X11_rescue_25
        rw [if_neg (by decide), show ix 5 = 5 from rfl, n5, if_neg (by rw [io_le (by omega) (by omega)]; omega), e3, bnd2_s]
      rcases ff_or (upS L i p) 201 with ⟨f1, f2⟩ | ⟨m, hm, f1, f2, f3⟩
      · refine ⟨lowZ L p (i + 1), y, io (i + 1), M3, ⟨rfl, ?_, rfl, k2.trans k3⟩, fun K => ?_⟩
        · simp only [lowN]
          rw [key, f1]; simp only [cutO]; exact hy
        · rw [hxx, f1, if_pos (show oi none = -1 from rfl), show (1 : Int32) = io 1 from rfl, io_add]
          simp only [lowZ]
          rw [key, f1]
          rfl
      · have e1 : ¬ oi (some m) = -1 := fun q => (io_m1 (a := m) (by omega)).mp q
        by_cases c : m < lowN L p i
        · refine ⟨lowZ L p (i + 1), io m, io (i + 1), M3, ⟨rfl, Or.inl ?_, rfl, k2.trans k3⟩, fun K => ?_⟩
          · simp only [lowN]
            rw [key, f1]
            simp only [cutO, if_pos c]
          · rw [hxx, f1, if_neg e1, if_pos (show oi (some m) < y by
              rw [show oi (some m) = io m from rfl]
              rcases hy with rfl | ⟨rfl, -⟩
              · rw [io_lt (by omega) (by omega)]; exact c
              · rw [io_lt (by omega) (by omega)]; omega), show (1 : Int32) = io 1 from rfl, io_add]
            simp only [lowZ]
            rw [key, f1]
            simp only [cutO, if_pos c]; rfl
        · refine ⟨lowZ L p (i + 1), y, io (i + 1), M3, ⟨rfl, ?_, rfl, k2.trans k3⟩, fun K => ?_⟩
          · simp only [lowN]
            rw [key, f1]
            simp only [cutO, if_neg c]; exact hy
          · rw [hxx, f1, if_neg e1, if_neg (show ¬ oi (some m) < y by
              rw [show oi (some m) = io m from rfl]
              rcases hy with rfl | ⟨rfl, e⟩
              · rw [io_lt (by omega) (by omega)]; exact c
              · omega), show (1 : Int32) = io 1 from rfl, io_add]
            simp only [lowZ]
            rw [key, f1]
            simp only [cutO, if_neg c]) (fun x y z M2 h => by
      obtain ⟨rfl, -, rfl, k2⟩ := h
      have n5 : M2.1 7 5 = io (L.1 6) := (hR.kr k2).2.1 5 (by omega)
      refine ⟨(_, M2), ⟨rfl, k2⟩, fun K => ?_⟩
      unfold L_X11_rescue_25
      rw [if_neg (by decide), show ix 5 = 5 from rfl, n5, if_pos (by rw [io_le (by omega) (by omega)]; omega)])
  exact ⟨r.2, by rw [hr, ← r1], r2⟩
theorem op_56 : ∀ (Mc Mr : Mem) (a1 : Int32), Rel Mc Mr → ∃ (r : Int32) (Mc' Mr' : Mem), f_X10_rescue a1 Mc = some (r, Mc') ∧ f_X11_rescue a1 Mr = some (r, Mr') ∧ Rel Mc' Mr' :=
  opP2 (fun a M => f_X9_bestZoneFor a M) (fun a M => lq4 (L_X11_rescue_25 a) FU (-1) 1000000 0 M) (fun a M => by unfold f_X10_rescue; rw [bnd2_id]) (fun _ _ => rfl) (fun L p Mc Mr hp hL h0 hC hR => ⟨_, rescueC hL h0 hC hp, rescueR hL h0 hR hp⟩)
/-! swap: a count kept, and the first of the greatest -/
/-- a trial with other airs told: the class -/
theorem cntC {L : Lh} {M M1 : Mem} {tl : Nat → Nat} (hL : OkL L) (h0 : 0 < L.1 0) (hC : RpC 35 L M1) (ht : ∀ z, z < L.1 6 → tl z ≤ 1000) (g : ∀ a, a ∈ [35, 37, 38, 39, 40, 41, 45] → M.1 a = M1.1 a) (h36 : ∀ z, z < L.1 6 → M.1 36 z = io (tl z)) : ∃ M', f_X9_soundCount M = some (io (pop (nvc (tlF L tl))), M') ∧ Fr (49 :: Cs_49) M M' :=
  tCount ((Lk.tl hL h0 ht).ok hL) (Tc_tl hL h0 hC ht g h36)
/-- the reference -/
theorem cntR {L : Lh} {M : Mem} {tl : Nat → Nat} (hL : OkL L) (h0 : 0 < L.1 0) (hR : RpR 0 L M) (ht : ∀ z, z < L.1 6 → tl z ≤ 1000) (hs : Ls L L.1 L.2.2.1 tl 0 (L.1 6) M) : ∃ M', f_X11_runs M = some M' ∧ f_X11_soundNow M' = some (io (nvc (tlF L tl))) ∧ f_X11_sizeOf (io (nvc (tlF L tl))) M' = some (io (pop (nvc (tlF L tl)))) ∧ KR M M' ∧ (∀ p, p < L.1 7 → (M'.1 19 p = m1 ↔ snd (tlF L tl) p = true)) := by
  have g := hL.2.2.1
  have hlk := Lk.tl hL h0 ht
  obtain ⟨M', e, hT, -, hk⟩ := rRuns hL hR hlk hs
  have hlt : nvc (tlF L tl) < 64 := nvc_lt (hlk.ok hL)
  refine ⟨M', e, rSound hL (hlk.ok hL) (hR.kr hk) rfl rfl hT, sizc (by omega) _, hk, fun p hp => ?_⟩
  have h1 : (tlF L tl).1 1 = L.1 1 := rfl
  have hc := (hT p hp).2.1
  have hkk := (run_ok (hlk.ok hL) (L.1 1) p hp).2.2.1
  unfold snd
  rw [hc, h1]
  show oi (run (tlF L tl) (L.1 1) p).2.2.2.2.1 = m1 ↔ _
  cases e2 : (run (tlF L tl) (L.1 1) p).2.2.2.2.1 with
  | none => simp [oi_none]
  | some n =>
    have := hkk n e2
    constructor
    · intro q; exact ((io_m1 (a := n) (by omega)).mp q).elim
    · intro q; simp at q
theorem popT_lt {L : Lh} (tl : Nat → Nat) : pop (nvc (tlF L tl)) ≤ 8 := pop_le _
