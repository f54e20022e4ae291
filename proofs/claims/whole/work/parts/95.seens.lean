/-! AIRS, LOW, HIGH, THICKS, LAWS -/
theorem rbit31 {f : Nat → Bool} {c : Nat} (hc : c < 31) : (f c = true → io (bN f c) ||| ((1 : Int32) <<< (io c &&& 31)) = io (bN f (c + 1))) ∧ (f c = false → bN f c = bN f (c + 1)) := by
  constructor
  · intro h
    have e := io_bor (f := f) (n := c) hc
    simp only [bN]
    rw [if_pos h]; exact e
  · intro h
    simp only [bN]
    rw [h]; simp
theorem orN0 (x : Nat) : io x ||| (0 : Int32) = io x := by rw [show (0 : Int32) = io 0 from rfl, io_or]; simp
theorem soR {L : Lh} {nums : Nat → Nat} {pz : Nat → Nat → Nat} {tl : Nat → Nat} {M : Mem} {k n : Nat} {v : Nat → Int64} {T : Tr} (hL : OkL L) (hR : RpR 0 L M) (h : Lk L nums pz tl 0 (L.1 6)) (hs : Ls L nums pz tl 0 (L.1 6) M) (hk : k < 4) (hn : n ≤ 20) (hr : RoR k n v M) (hv : SeV v n T) (hK : SeK L n T) : ∃ M', f_X11_runs M = some M' ∧ f_X11_isSo (io k) M' = some (if agB (rcf L nums pz tl 0 (L.1 6)) T n = true then 1 else 0) ∧ KR M M' ∧ M'.1 0 = M.1 0 ∧ f_X11_soundNow M' = some (io (nvc (rcf L nums pz tl 0 (L.1 6)))) := by
  have g := hL.2.2.1
  obtain ⟨M', e, hT, hF⟩ := runsR (h.ok hL) (Ls.rn hL hR h hs)
  have e1 : (rcf L nums pz tl 0 (L.1 6)).1 1 = L.1 1 := h.1.1
  rw [e1] at hT
  have kk : KR M M' := KR.refl.fr hF (by decide)
  exact ⟨M', e, isSoR (h.ok hL) h.1.2.2.1 hT hk hn (hr.kr kk) hv hK (by omega), kk, hF.1 0 (by decide), rSound hL (h.ok hL) (hR.kr kk) h.1.2.2.1 h.1.1 hT⟩
theorem RoC.kc {k n : Nat} {v : Nat → Int64} {M M' : Mem} (h : RoC k n v M) (g : KC M M') : RoC k n v M' := ⟨by rw [g.1 _ (by omega)]; exact h.1, by rw [g.2 _ (by omega)]; exact h.2⟩
def airT (L : Lh) (z i : Nat) : Nat → Nat := fun y => if y = z then i else L.2.1 y
theorem airT_le {L : Lh} (hL : OkL L) {z i : Nat} (hi : i ≤ 600) : ∀ y, y < L.1 6 → airT L z i y ≤ 1000 := by
  intro y hy
  have := hL.2.2.2.1 y hy
  unfold airT
  split <;> omega
def aS (L : Lh) (z n : Nat) (T : Tr) (i : Nat) : Bool := agB (tlF L (airT L z i)) T n
def SA (z : Nat) (M1 M2 : Mem) : Prop := (∀ a, a ∈ [35, 37, 38, 39, 40, 41, 45] → M2.1 a = M1.1 a) ∧ ∀ y, y ≠ z → M2.1 36 y = M1.1 36 y
theorem byAirC {L : Lh} {M1 M2 : Mem} {z i k n : Nat} {v : Nat → Int64} {T : Tr} (hL : OkL L) (h0 : 0 < L.1 0) (hC : RpC 35 L M1) (hz : z < L.1 6) (hi : i ≤ 600) (hk : k < 4) (hn : n ≤ 20) (hr : RoC k n v M2) (hv : SeV v n T) (hK : SeK L n T) (hS : SA z M1 M2) : ∃ M3, f_X9_agreesByAir (103 + 2 * k) (io z) (io i) M2 = some (if aS L z n T i = true then 1 else 0, M3) ∧ SA z M1 M3 ∧ KC M2 M3 := by
  have g := hL.2.2.1
  have h6 : M2.1 35 6 = io (L.1 6) := by rw [hS.1 35 (by decide)]; exact hC.1 6 (by omega)
  have hT : Tc (tlF L (airT L z i)) (st M2 36 z (io i)) := by
    refine Tc_tl hL h0 hC (airT_le hL hi) (fun a ha => ?_) (fun y hy => ?_)
    · rw [stne (by revert a; decide)]; exact hS.1 a ha
    · unfold airT
      by_cases c : y = z
      · subst c; rw [if_pos rfl]; simp [st]
      · rw [if_neg c, st_rd (fun q => c q.2), hS.2 y c]; exact hC.2.2.1 y hy
  have kst : KC M2 (st M2 36 z (io i)) := KC.refl.sto (by omega)
  obtain ⟨M3, e3, f3⟩ := agreesC ((Lk.tl hL h0 (airT_le hL (z := z) hi)).ok hL) (Eq.refl (L.1 7)) hT hk hn (hr.kc kst) hv hK (by omega)
  refine ⟨M3, ?_, ⟨fun a ha => ?_, fun y hy => ?_⟩, kst.trans (fr49 f3)⟩
  · unfold f_X9_agreesByAir
    rw [zoneC h6 (by omega), ite01, if_pos (pos_io hz (by omega)), oob_f (show z < 7 by omega) (by omega), ix_io (by omega)]
    simp only [Bool.false_eq_true, if_false, letv_eq]
    rw [e3, bnd2_s]; rfl
  · rw [f3.1 a (by revert a; decide), stne (by revert a; decide)]; exact hS.1 a ha
  · rw [f3.1 36 (by decide), st_rd (fun q => hy q.2)]; exact hS.2 y hy
/-- the last below n of which S is so -/
def lst (S : Nat → Bool) : Nat → Option Nat
  | 0 => none
  | n + 1 => if S n = true then some n else lst S n
theorem lst_none {S : Nat → Bool} : ∀ {n : Nat}, (∀ i, i < n → S i = false) → lst S n = none
  | 0, _ => rfl
  | n + 1, h => by
    simp only [lst]
    rw [h n (by omega), if_neg (by decide)]
    exact lst_none (fun i hi => h i (by omega))
theorem lst_some {S : Nat → Bool} {m : Nat} (hm : S m = true) : ∀ {n : Nat}, m < n → (∀ i, m < i → i < n → S i = false) → lst S n = some m
  | 0, hn, _ => absurd hn (Nat.not_lt_zero _)
  | n + 1, hn, h => by
    simp only [lst]
    by_cases e : m = n
    · subst e; rw [if_pos hm]
    · rw [h n (by omega) (by omega), if_neg (by decide)]
      exact lst_some hm (by omega) (fun i h1 h2 => h i h1 (by omega))
theorem airsC {L : Lh} {M : Mem} {z k n : Nat} {v : Nat → Int64} {T : Tr} (hL : OkL L) (h0 : 0 < L.1 0) (hC : RpC 14 L M) (hz : z < L.1 6) (hk : k < 4) (hn : n ≤ 20) (hr : RoC k n v M) (hv : SeV v n T) (hK : SeK L n T) : ∃ M', f_X9_countOfAirs (103 + 2 * k) (io z) M = some (io (cN (aS L z n T) 601), M') ∧ KC M M' := by
  obtain ⟨M1, e1, hC1, k1⟩ := copyT hL hC
  unfold f_X9_countOfAirs
  rw [e1, bnd_s]
  obtain ⟨r, ⟨r1, r2⟩, hq⟩ := in3x (b := L_X9_countOfAirs_16 (103 + 2 * k) (io z)) (fun i x y M2 => x = io (cN (aS L z n T) i) ∧ y = io i ∧ SA z M1 M2 ∧ KC M M2) (fun r => r.1 = io (cN (aS L z n T) 601) ∧ KC M r.2) 601 (x := 0) (y := 0) (z := M1) ⟨rfl, rfl, ⟨fun _ _ => rfl, fun _ _ => rfl⟩, k1⟩ (by omega) (fun i x y M2 hi h => by
      obtain ⟨rfl, rfl, hS, k2⟩ := h
      obtain ⟨M3, e3, hS3, k3⟩ := byAirC hL h0 hC1 hz (i := i) (by omega) hk hn (hr.kc k2) hv hK hS
      refine ⟨io (cN (aS L z n T) (i + 1)), io (i + 1), M3, ⟨rfl, rfl, hS3, k2.trans k3⟩, fun K => ?_⟩
      unfold L_X9_countOfAirs_16
      rw [if_neg (show ¬ (600 : Int32) < io i from fun q => by have := (io_lt (a := 600) (by omega) (by omega)).mp q; omega), e3, bnd2_s, show (1 : Int32) = io 1 from rfl, io_add, io_add]
      simp only [cN]
      by_cases c : aS L z n T i = true
      · rw [if_pos c, if_pos c, if_neg (by decide)]
      · rw [if_neg c, if_neg c, if_pos rfl]; rfl) (fun x y M2 h => by
      obtain ⟨rfl, rfl, hS, k2⟩ := h
      refine ⟨(_, M2), ⟨rfl, k2⟩, fun K => ?_⟩
      unfold L_X9_countOfAirs_16
      rw [if_pos (by decide)]; rfl)
  exact ⟨r.2, by rw [hq, ← r1], r2⟩
theorem lowC {L : Lh} {M : Mem} {z k n : Nat} {v : Nat → Int64} {T : Tr} (hL : OkL L) (h0 : 0 < L.1 0) (hC : RpC 14 L M) (hz : z < L.1 6) (hk : k < 4) (hn : n ≤ 20) (hr : RoC k n v M) (hv : SeV v n T) (hK : SeK L n T) : ∃ M', f_X9_lowestAir (103 + 2 * k) (io z) M = some (oi (ff (aS L z n T) 601), M') ∧ KC M M' := by
  obtain ⟨M1, e1, hC1, k1⟩ := copyT hL hC
  unfold f_X9_lowestAir
  rw [e1, bnd_s]
  have step : ∀ i M2, i < 601 → SA z M1 M2 → KC M M2 → ∃ M3, SA z M1 M3 ∧ KC M M3 ∧ ∀ K, L_X9_lowestAir_13 (103 + 2 * k) (io z) K (io i) M2 = if aS L z n T i = true then some (io i, M3) else K (io (i + 1)) M3 := by
    intro i M2 hi hS k2
    obtain ⟨M3, e3, hS3, k3⟩ := byAirC hL h0 hC1 hz (i := i) (by omega) hk hn (hr.kc k2) hv hK hS
    refine ⟨M3, hS3, k2.trans k3, fun K => ?_⟩
    unfold L_X9_lowestAir_13
    rw [if_neg (show ¬ (600 : Int32) < io i from fun q => by have := (io_lt (a := 600) (by omega) (by omega)).mp q; omega), e3, bnd2_s]
    by_cases c : aS L z n T i = true
    · rw [if_pos c, if_pos c, if_neg (by decide)]
    · rw [if_neg c, if_neg c, if_pos rfl, show (1 : Int32) = io 1 from rfl, io_add]
  rcases ff_or (aS L z n T) 601 with ⟨f1, f2⟩ | ⟨m, hm, f1, f2, f3⟩
  · rw [f1]
    obtain ⟨r, ⟨r1, r2⟩, hq⟩ := in2x (b := L_X9_lowestAir_13 (103 + 2 * k) (io z)) (fun i x M2 => x = io i ∧ SA z M1 M2 ∧ KC M M2) (fun r => r.1 = m1 ∧ KC M r.2) 601 (x := 0) (y := M1) ⟨rfl, ⟨fun _ _ => rfl, fun _ _ => rfl⟩, k1⟩ (by omega) (fun i x M2 hi h => by
        obtain ⟨rfl, hS, k2⟩ := h
        obtain ⟨M3, hS3, k3, he⟩ := step i M2 hi hS k2
        exact ⟨io (i + 1), M3, ⟨rfl, hS3, k3⟩, fun K => by rw [he, f2 i hi, if_neg (by decide)]⟩) (fun x M2 h => by
        obtain ⟨rfl, hS, k2⟩ := h
        refine ⟨(m1, M2), ⟨rfl, k2⟩, fun K => ?_⟩
        unfold L_X9_lowestAir_13
        rw [if_pos (by decide)]; rfl)
    exact ⟨r.2, by rw [hq, oi_none, ← r1], r2⟩
  · rw [f1]
    obtain ⟨r, ⟨r1, r2⟩, hq⟩ := in2x (b := L_X9_lowestAir_13 (103 + 2 * k) (io z)) (fun i x M2 => x = io i ∧ SA z M1 M2 ∧ KC M M2) (fun r => r.1 = io m ∧ KC M r.2) m (x := 0) (y := M1) ⟨rfl, ⟨fun _ _ => rfl, fun _ _ => rfl⟩, k1⟩ (by omega) (fun i x M2 hi h => by
        obtain ⟨rfl, hS, k2⟩ := h
        obtain ⟨M3, hS3, k3, he⟩ := step i M2 (by omega) hS k2
        exact ⟨io (i + 1), M3, ⟨rfl, hS3, k3⟩, fun K => by rw [he, f3 i hi, if_neg (by decide)]⟩) (fun x M2 h => by
        obtain ⟨rfl, hS, k2⟩ := h
        obtain ⟨M3, hS3, k3, he⟩ := step m M2 hm hS k2
        exact ⟨(io m, M3), ⟨rfl, k3⟩, fun K => by rw [he, if_pos f2]⟩)
    exact ⟨r.2, by rw [hq, show oi (some m) = io m from rfl, ← r1], r2⟩
theorem highC {L : Lh} {M : Mem} {z k n : Nat} {v : Nat → Int64} {T : Tr} (hL : OkL L) (h0 : 0 < L.1 0) (hC : RpC 14 L M) (hz : z < L.1 6) (hk : k < 4) (hn : n ≤ 20) (hr : RoC k n v M) (hv : SeV v n T) (hK : SeK L n T) : ∃ M', f_X9_highestAir (103 + 2 * k) (io z) M = some (oi (lst (aS L z n T) 601), M') ∧ KC M M' := by
  obtain ⟨M1, e1, hC1, k1⟩ := copyT hL hC
  unfold f_X9_highestAir
  rw [e1, bnd_s]
  have step : ∀ i M2, i < 601 → SA z M1 M2 → KC M M2 → ∃ M3, SA z M1 M3 ∧ KC M M3 ∧ ∀ K, L_X9_highestAir_15 (103 + 2 * k) (io z) K (io (600 - i)) M2 = if aS L z n T (600 - i) = true then some (io (600 - i), M3) else K (if i < 600 then io (600 - (i + 1)) else m1) M3 := by
    intro i M2 hi hS k2
    obtain ⟨M3, e3, hS3, k3⟩ := byAirC hL h0 hC1 hz (i := 600 - i) (by omega) hk hn (hr.kc k2) hv hK hS
    refine ⟨M3, hS3, k2.trans k3, fun K => ?_⟩
    unfold L_X9_highestAir_15
    rw [if_neg (show ¬ io (600 - i) < (0 : Int32) from fun q => by have := (io_lt (b := 0) (by omega) (by omega)).mp q; omega), e3, bnd2_s]
    by_cases c : aS L z n T (600 - i) = true
    · rw [if_pos c, if_pos c, if_neg (by decide)]
    · rw [if_neg c, if_neg c, if_pos rfl]
      by_cases c6 : i < 600
      · rw [if_pos c6, show io (600 - i) + (-1 : Int32) = io (600 - i - 1) from em_dec (by omega), show 600 - i - 1 = 600 - (i + 1) by omega]
      · rw [if_neg c6, show 600 - i = 0 by omega]; rfl
  rcases ff_or (fun i => aS L z n T (600 - i)) 601 with ⟨f1, f2⟩ | ⟨m, hm, f1, f2, f3⟩
  · have hl : lst (aS L z n T) 601 = none := lst_none (fun i hi => by have := f2 (600 - i) (by omega); rwa [show 600 - (600 - i) = i by omega] at this)
    rw [hl]
    obtain ⟨r, ⟨r1, r2⟩, hq⟩ := in2x (b := L_X9_highestAir_15 (103 + 2 * k) (io z)) (fun i x M2 => (x = if i < 601 then io (600 - i) else m1) ∧ SA z M1 M2 ∧ KC M M2) (fun r => r.1 = m1 ∧ KC M r.2) 601 (x := 600) (y := M1) ⟨by rw [if_pos (by omega)]; rfl, ⟨fun _ _ => rfl, fun _ _ => rfl⟩, k1⟩ (by omega) (fun i x M2 hi h => by
        obtain ⟨hx, hS, k2⟩ := h
        rw [if_pos hi] at hx
        subst hx
        obtain ⟨M3, hS3, k3, he⟩ := step i M2 hi hS k2
        refine ⟨if i < 600 then io (600 - (i + 1)) else m1, M3, ⟨?_, hS3, k3⟩, fun K => by rw [he, show aS L z n T (600 - i) = false from f2 i hi, if_neg (by decide)]⟩
        by_cases c6 : i < 600
        · rw [if_pos c6, if_pos (by omega)]
        · rw [if_neg c6, if_neg (by omega)]) (fun x M2 h => by
        obtain ⟨hx, hS, k2⟩ := h
        rw [if_neg (by omega)] at hx
        subst hx
        refine ⟨(m1, M2), ⟨rfl, k2⟩, fun K => ?_⟩
        unfold L_X9_highestAir_15
        rw [if_pos (by decide)]; rfl)
    exact ⟨r.2, by rw [hq, oi_none, ← r1], r2⟩
  · have hl : lst (aS L z n T) 601 = some (600 - m) := lst_some f2 (by omega) (fun i h1 h2 => by have := f3 (600 - i) (by omega); rwa [show 600 - (600 - i) = i by omega] at this)
    rw [hl]
    obtain ⟨r, ⟨r1, r2⟩, hq⟩ := in2x (b := L_X9_highestAir_15 (103 + 2 * k) (io z)) (fun i x M2 => x = io (600 - i) ∧ SA z M1 M2 ∧ KC M M2) (fun r => r.1 = io (600 - m) ∧ KC M r.2) m (x := 600) (y := M1) ⟨rfl, ⟨fun _ _ => rfl, fun _ _ => rfl⟩, k1⟩ (by omega) (fun i x M2 hi h => by
        obtain ⟨rfl, hS, k2⟩ := h
        obtain ⟨M3, hS3, k3, he⟩ := step i M2 (by omega) hS k2
        exact ⟨io (600 - (i + 1)), M3, ⟨rfl, hS3, k3⟩, fun K => by rw [he, show aS L z n T (600 - i) = false from f3 i hi, if_neg (by decide), if_pos (by omega)]⟩) (fun x M2 h => by
        obtain ⟨rfl, hS, k2⟩ := h
        obtain ⟨M3, hS3, k3, he⟩ := step m M2 hm hS k2
        exact ⟨(io (600 - m), M3), ⟨rfl, k3⟩, fun K => by rw [he, if_pos f2]⟩)
    exact ⟨r.2, by rw [hq, show oi (some (600 - m)) = io (600 - m) from rfl, ← r1], r2⟩
theorem seenR {L : Lh} {M : Mem} {z k n : Nat} {v : Nat → Int64} {T : Tr} (hL : OkL L) (h0 : 0 < L.1 0) (hR : RpR 0 L M) (hz : z < L.1 6) (hk : k < 4) (hn : n ≤ 20) (hr : RoR k n v M) (hv : SeV v n T) (hK : SeK L n T) : ∃ M', f_X11_laysSeen (io k) (io z) M = some M' ∧ M'.1 0 36 = io (cN (aS L z n T) 601) ∧ M'.1 0 37 = oi (ff (aS L z n T) 601) ∧ M'.1 0 38 = oi (lst (aS L z n T) 601) ∧ KR M M' := by
  have g := hL.2.2.1
  unfold f_X11_laysSeen
  rw [letv_eq, letv_eq, letv_eq]
  have kA : KR M (st (st (st M 0 36 0) 0 37 (-1)) 0 38 (-1)) := ((KR.refl.st0 (by decide)).st0 (by decide)).st0 (by decide)
  obtain ⟨r, r1, hq⟩ := in2x (b := L_X11_laysSeen_17 (io k) (io z)) (fun i x M2 => x = io i ∧ M2.1 0 36 = io (cN (aS L z n T) i) ∧ M2.1 0 37 = oi (ff (aS L z n T) i) ∧ M2.1 0 38 = oi (lst (aS L z n T) i) ∧ KR M M2) (fun M' => M'.1 0 36 = io (cN (aS L z n T) 601) ∧ M'.1 0 37 = oi (ff (aS L z n T) 601) ∧ M'.1 0 38 = oi (lst (aS L z n T) 601) ∧ KR M M') 601 (x := 0) (y := st (st (st M 0 36 0) 0 37 (-1)) 0 38 (-1)) ⟨rfl, by simp [st]; rfl, by simp [st]; rfl, by simp [st]; rfl, kA⟩ (by omega) (fun i x M2 hi h => by
      obtain ⟨rfl, q36, q37, q38, k2⟩ := h
      obtain ⟨M7, e7, hs7, k7, j7⟩ := laysR2 hL (hR.kr k2)
      have hs8 : Ls L L.1 L.2.2.1 (airT L z i) 0 (L.1 6) (st M7 12 z (io i)) := by
        refine Ls.tl (tl := L.2.1) hs7 (fun a ha => stne (by revert a; decide)) (fun y hy => ?_)
        unfold airT
        by_cases c : y = z
        · subst c; rw [if_pos rfl]; simp [st]
        · rw [if_neg c, st_rd (fun q => c q.2)]; exact hs7.2.1 y hy
      have k8 : KR M (st M7 12 z (io i)) := (k2.trans k7).sto (by decide)
      obtain ⟨M12, e12, eso, k12, j12, -⟩ := soR hL (hR.kr k8) (Lk.tl hL h0 (airT_le hL (z := z) (i := i) (by omega))) hs8 hk hn (hr.kr k8) hv hK
      have j36 : ∀ j, 27 ≤ j → M12.1 0 j = M2.1 0 j := fun j hj => by rw [j12, stne (by decide)]; exact j7 j hj
      have k13 := k8.trans k12
      have hle : cN (aS L z n T) i ≤ i := cN_le _ _
      by_cases c : aS L z n T i = true
      · refine ⟨io (i + 1), st (st (st M12 0 36 (io (cN (aS L z n T) i + 1))) 0 37 (oi (ff (aS L z n T) (i + 1)))) 0 38 (io i), ⟨rfl, ?_, ?_, ?_, ((k13.st0 (by decide)).st0 (by decide)).st0 (by decide)⟩, fun K => ?_⟩
        · simp only [cN]; rw [if_pos c]; simp [st]
        · simp [st]
        · simp only [lst]; rw [if_pos c]; simp [st]; rfl
        · unfold L_X11_laysSeen_17
          rw [if_neg (show ¬ (600 : Int32) < io i from fun q => by have := (io_lt (a := 600) (by omega) (by omega)).mp q; omega), e7, bnd_s, oob_f (show z < 7 by omega) (by omega), ix_io (by omega)]
          simp only [Bool.false_eq_true, if_false, letv_eq]
          rw [e12, bnd_s, eso, bnd_s, show (if agB (rcf L L.1 L.2.2.1 (airT L z i) 0 (L.1 6)) T n = true then (1 : Int32) else 0) = 1 from if_pos c, if_neg (show ¬ (1 : Int32) = 0 by decide), j36 36 (by omega), q36, show (1 : Int32) = io 1 from rfl, io_add, io_add, st_rd (show ¬ (0 = 0 ∧ 37 = 36) by decide), j36 37 (by omega), q37]
          simp only [ff]
          rcases ff_or (aS L z n T) i with ⟨f1, f2⟩ | ⟨m, hm, f1, f2, f3⟩
          · rw [f1, if_pos (show oi none = -io 1 from rfl)]
            simp only [if_pos c]; rfl
          · rw [f1, if_neg (show ¬ oi (some m) = -io 1 from fun q => (io_m1 (a := m) (by omega)).mp q)]
      · refine ⟨io (i + 1), M12, ⟨rfl, ?_, ?_, ?_, k13⟩, fun K => ?_⟩
        · simp only [cN]; rw [if_neg c, j36 36 (by omega), q36]; rfl
        · rw [j36 37 (by omega), q37]
          simp only [ff]
          cases ff (aS L z n T) i with
          | none => simp only [if_neg c]
          | some m => rfl
        · simp only [lst]; rw [if_neg c, j36 38 (by omega), q38]
        · unfold L_X11_laysSeen_17
          rw [if_neg (show ¬ (600 : Int32) < io i from fun q => by have := (io_lt (a := 600) (by omega) (by omega)).mp q; omega), e7, bnd_s, oob_f (show z < 7 by omega) (by omega), ix_io (by omega)]
          simp only [Bool.false_eq_true, if_false, letv_eq]
          rw [e12, bnd_s, eso, bnd_s, show (if agB (rcf L L.1 L.2.2.1 (airT L z i) 0 (L.1 6)) T n = true then (1 : Int32) else 0) = 0 from if_neg c, if_pos rfl, show (1 : Int32) = io 1 from rfl, io_add]) (fun x M2 h => by
      obtain ⟨rfl, q36, q37, q38, k2⟩ := h
      refine ⟨M2, ⟨q36, q37, q38, k2⟩, fun K => ?_⟩
      unfold L_X11_laysSeen_17
      rw [if_pos (by decide)])
  exact ⟨r, hq, r1⟩
/-- the five that ask of a zone -/
theorem opZone {qc : Nat → Int32 → Mem → Option (Int32 × Mem)} {fc fr : Int32 → Int32 → Mem → Option (Int32 × Mem)} {j : Nat} (val : Lh → Nat → Nat → Tr → Int32) (ec : ∀ a b M, fc a b M = bnd (f_X10_refusalOfSeen a (f_X5_hasZone 14 b M) M) (fun r1 => if r1 = 0 then optc (f_X10_rowOf a M) (none) (fun k4 => bnd2 (qc k4 b M) (fun r6 M8 => some (r6, M8))) else some (r1, M))) (er : ∀ a b M, fr a b M = bnd (f_X11_isZone b (st M 0 0 0)) (fun r2 => bnd (f_X11_whyNot a r2 (st M 0 0 0)) (fun r4 => if r4 = 0 then bnd (f_X11_laysSeen a b (st M 0 0 0)) (fun M9 => some ((M9.1 0 j), M9)) else some (r4, st M 0 0 0)))) (H1 : ∀ {L : Lh} {M : Mem} {z k n : Nat} {v : Nat → Int64} {T : Tr}, OkL L → 0 < L.1 0 → RpC 14 L M → z < L.1 6 → k < 4 → n ≤ 20 → RoC k n v M → SeV v n T → SeK L n T → ∃ M', qc (103 + 2 * k) (io z) M = some (val L z n T, M') ∧ KC M M') (H2 : ∀ {L : Lh} {M : Mem} {z k n : Nat} {v : Nat → Int64} {T : Tr}, OkL L → 0 < L.1 0 → RpR 0 L M → z < L.1 6 → k < 4 → n ≤ 20 → RoR k n v M → SeV v n T → SeK L n T → ∃ M', f_X11_laysSeen (io k) (io z) M = some M' ∧ M'.1 0 j = val L z n T ∧ KR M M') : ∀ (Mc Mr : Mem) (a1 a2 : Int32), Rel Mc Mr → ∃ (r : Int32) (Mc' Mr' : Mem), fc a1 a2 Mc = some (r, Mc') ∧ fr a1 a2 Mr = some (r, Mr') ∧ Rel Mc' Mr' := by
  intro Mc Mr a b h
  obtain ⟨hX, L, hN⟩ := h.split
  have hk := kr0 Mr
  have hN1 := hN.kr hk
  have g := hN.1.2.2.1
  rw [ec, er, zoneC (hN.2.1.1 6 (by omega)) (by omega), zoneR hN.1 hN1.2.2.1, bnd_s]
  rcases refuse (hX.kr hk) hN1 a (if 0 ≤ b.toInt ∧ b.toInt < L.1 6 then 1 else 0) (if 0 ≤ b.toInt ∧ b.toInt < L.1 6 then 1 else 0) (fun _ => Iff.rfl) (fun hz => if_neg (fun q => by have := hN.1.1 hz 6; omega)) with ⟨r, hr, q1, q2⟩ | ⟨q1, q2, h0, hp, k, n, v, T, hk4, hn, rfl, c1, c2, c3, c4⟩
  · rw [q1, q2, bnd_s, bnd_s, if_neg hr, if_neg hr]
    exact ⟨_, _, _, rfl, rfl, h.kr hk⟩
  · rw [q1, q2, bnd_s, bnd_s, if_pos rfl, if_pos rfl, rowC_some hk4]
    simp only [optc]
    rcases below b (L.1 6) with hb | ⟨z, hz, rfl, hz2⟩
    · exact absurd (if_neg hb) hp
    · obtain ⟨M2, e2, v2, k2⟩ := H2 hN.1 h0 hN1.2.2.1 hz hk4 hn c2 c3 c4
      rw [bnd2_id, e2, bnd_s, v2]
      exact twoWays (h.kr hk) (H1 hN.1 h0 hN.2.1 hz hk4 hn c1 c3 c4) ⟨M2, rfl, k2⟩
theorem op_59 : ∀ (Mc Mr : Mem) (a1 a2 : Int32), Rel Mc Mr → ∃ (r : Int32) (Mc' Mr' : Mem), f_X10_airs a1 a2 Mc = some (r, Mc') ∧ f_X11_airs a1 a2 Mr = some (r, Mr') ∧ Rel Mc' Mr' :=
  opZone (qc := f_X9_countOfAirs) (j := 36) (fun L z n T => io (cN (aS L z n T) 601)) (fun _ _ _ => rfl) (fun _ _ _ => rfl) (fun a b c d e f g h i => airsC a b c d e f g h i) (fun a b c d e f g h i => by obtain ⟨M', x1, x2, x3, x4, x5⟩ := seenR a b c d e f g h i; exact ⟨M', x1, x2, x5⟩)
theorem op_60 : ∀ (Mc Mr : Mem) (a1 a2 : Int32), Rel Mc Mr → ∃ (r : Int32) (Mc' Mr' : Mem), f_X10_low a1 a2 Mc = some (r, Mc') ∧ f_X11_low a1 a2 Mr = some (r, Mr') ∧ Rel Mc' Mr' :=
  opZone (qc := f_X9_lowestAir) (j := 37) (fun L z n T => oi (ff (aS L z n T) 601)) (fun _ _ _ => rfl) (fun _ _ _ => rfl) (fun a b c d e f g h i => lowC a b c d e f g h i) (fun a b c d e f g h i => by obtain ⟨M', x1, x2, x3, x4, x5⟩ := seenR a b c d e f g h i; exact ⟨M', x1, x3, x5⟩)
theorem op_61 : ∀ (Mc Mr : Mem) (a1 a2 : Int32), Rel Mc Mr → ∃ (r : Int32) (Mc' Mr' : Mem), f_X10_high a1 a2 Mc = some (r, Mc') ∧ f_X11_high a1 a2 Mr = some (r, Mr') ∧ Rel Mc' Mr' :=
  opZone (qc := f_X9_highestAir) (j := 38) (fun L z n T => oi (lst (aS L z n T) 601)) (fun _ _ _ => rfl) (fun _ _ _ => rfl) (fun a b c d e f g h i => highC a b c d e f g h i) (fun a b c d e f g h i => by obtain ⟨M', x1, x2, x3, x4, x5⟩ := seenR a b c d e f g h i; exact ⟨M', x1, x4, x5⟩)
