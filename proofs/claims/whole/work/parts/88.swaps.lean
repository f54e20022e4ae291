/-! SWAP and SKIP -/
/-- what is strictly more is kept -/
def kb (v : Nat → Nat) (id : Nat → Int32) (x : Int32 × Nat) : Nat → Int32 × Nat
  | 0 => x
  | j + 1 => if v j ≤ (kb v id x j).2 then kb v id x j else (id j, v j)
theorem kb_le {v : Nat → Nat} {id : Nat → Int32} {x : Int32 × Nat} (hv : ∀ j, v j ≤ 8) (hx : x.2 ≤ 8) : ∀ n, (kb v id x n).2 ≤ 8
  | 0 => hx
  | n + 1 => by
    have ih := kb_le (id := id) hv hx n
    simp only [kb]
    split
    · exact ih
    · exact hv n
def swT (L : Lh) (a b : Nat) : Nat → Nat := fun y => if y = a then L.2.1 b else if y = b then L.2.1 a else L.2.1 y
theorem swT_le {L : Lh} (hL : OkL L) {a b : Nat} (ha : a < L.1 6) (hb : b < L.1 6) : ∀ y, y < L.1 6 → swT L a b y ≤ 1000 := by
  intro y hy
  have := hL.2.2.2.1 y hy
  have := hL.2.2.2.1 a ha
  have := hL.2.2.2.1 b hb
  unfold swT
  split
  · omega
  · split <;> omega
theorem nowT_le {L : Lh} (hL : OkL L) : ∀ y, y < L.1 6 → L.2.1 y ≤ 1000 := fun y hy => by have := hL.2.2.2.1 y hy; omega
def swV (L : Lh) (a j : Nat) : Nat := pop (nvc (tlF L (swT L a (a + 1 + j))))
theorem swV_d {L : Lh} {a j : Nat} : pop (nvc (tlF L (swT L a (a + 1 + j)))) = swV L a j := Eq.refl _
def swN (a j : Nat) : Int32 := io (10 * a + (a + 1 + j))
def swO (L : Lh) : Nat → Int32 × Nat
  | 0 => (m1, pop (nvc (tlF L L.2.1)))
  | a + 1 => kb (swV L a) (swN a) (swO L a) (L.1 6 - (a + 1))
theorem swO_le (L : Lh) : ∀ n, (swO L n).2 ≤ 8
  | 0 => pop_le _
  | n + 1 => kb_le (fun _ => pop_le _) (swO_le L n) _
theorem rNow {L : Lh} {M : Mem} (hL : OkL L) (h0 : 0 < L.1 0) (hR : RpR 0 L M) : ∃ M', f_X11_laysNow M = some M' ∧ f_X11_soundNow M' = some (io (nvc (tlF L L.2.1))) ∧ f_X11_sizeOf (io (nvc (tlF L L.2.1))) M' = some (io (pop (nvc (tlF L L.2.1)))) ∧ KR M M' := by
  obtain ⟨M1, e1, hs, k1⟩ := rLays hL hR
  obtain ⟨M2, e2, e3, e4, k2, -⟩ := cntR hL h0 (hR.kr k1) (nowT_le hL) hs
  unfold f_X11_laysNow
  rw [e1, bnd_s, e2, bnd_s]
  exact ⟨M2, rfl, e3, e4, k1.trans k2⟩
theorem overC {M : Mem} {n a b : Nat} (h6 : M.1 35 6 = io n) (hn : n ≤ 7) (ha : a < n) (hb : b < n) : f_X5_changeOver 35 (io a) (io b) M = some (st (st M 36 a (M.1 36 b)) 36 b (M.1 36 a)) := by
  unfold f_X5_changeOver
  rw [zoneC h6 (by omega), ite01, if_pos (pos_io ha (by omega)), zoneC h6 (by omega), ite01, if_pos (pos_io hb (by omega)), oob_f (show a < 7 by omega) (by omega), oob_f (show b < 7 by omega) (by omega), ix_io (by omega), ix_io (by omega)]
  rfl
theorem swapC {L : Lh} {M : Mem} (hL : OkL L) (h0 : 0 < L.1 0) (hC : RpC 14 L M) : ∃ M', f_X9_bestSwap M = some ((swO L (L.1 6)).1, M') ∧ KC M M' := by
  have g := hL.2.2.1
  obtain ⟨M1, e1, hC1, k1⟩ := copyT hL hC
  obtain ⟨M2, e2, f2⟩ := cntC (M := M1) (tl := L.2.1) hL h0 hC1 (nowT_le hL) (fun _ _ => rfl) hC1.2.2.1
  unfold f_X9_bestSwap
  rw [e1, bnd_s, e2, bnd2_s]
  let S : Mem → Prop := fun M3 => (∀ a, a ∈ [35, 37, 38, 39, 40, 41, 45] → M3.1 a = M1.1 a) ∧ (∀ z, z < L.1 6 → M3.1 36 z = io (L.2.1 z)) ∧ KC M M3
  have hS : S M2 := ⟨fun a ha => f2.1 a (by revert a; decide), fun z hz => by rw [f2.1 36 (by decide)]; exact hC1.2.2.1 z hz, k1.trans (fr49 f2)⟩
  have inner : ∀ a, a < L.1 6 → ∀ x0 M3, x0.2 ≤ 8 → S M3 → ∃ M4, S M4 ∧ ∀ K, lq4 (L_X9_bestSwap_39 K (io a)) FU x0.1 (io x0.2) (io (a + 1)) M3 = K (kb (swV L a) (swN a) x0 (L.1 6 - (a + 1))).1 (io (kb (swV L a) (swN a) x0 (L.1 6 - (a + 1))).2) (io (a + 1)) M4 := by
    intro a ha x0 M3 hx hS3
    obtain ⟨x', y', z', M4, ⟨rfl, rfl, rfl, hS4⟩, he⟩ := in4k (b := fun k => L_X9_bestSwap_39 k (io a)) (fun j x y z M4 => x = (kb (swV L a) (swN a) x0 j).1 ∧ y = io (kb (swV L a) (swN a) x0 j).2 ∧ z = io (a + 1 + j) ∧ S M4) (fun k x y z M4 => k x y (io (a + 1)) M4) (L.1 6 - (a + 1)) (x := x0.1) (y := io x0.2) (z := io (a + 1)) (w := M3) ⟨rfl, rfl, rfl, hS3⟩ (by omega) (fun j x y z M4 hj h => by
      obtain ⟨rfl, rfl, rfl, g1, g2, k4⟩ := h
      have hb : a + 1 + j < L.1 6 := by omega
      have h6 : M4.1 35 6 = io (L.1 6) := by rw [g1 35 (by decide)]; exact hC1.1 6 (by omega)
      obtain ⟨M6, e6, f6⟩ := cntC (M := st (st M4 36 a (M4.1 36 (a + 1 + j))) 36 (a + 1 + j) (M4.1 36 a)) (tl := swT L a (a + 1 + j)) hL h0 hC1 (swT_le hL ha hb) (fun c hc => by rw [stne (by revert c; decide), stne (by revert c; decide)]; exact g1 c hc) (fun z hz => by
        unfold swT
        by_cases c1 : z = a + 1 + j
        · rw [if_neg (by omega), if_pos c1, ← g2 a ha, c1]; simp [st]
        · rw [st_rd (fun q => c1 q.2)]
          by_cases c2 : z = a
          · rw [if_pos c2, c2, ← g2 _ hb]; simp [st]
          · rw [if_neg c2, if_neg c1, st_rd (fun q => c2 q.2)]; exact g2 z hz)
      have h67 : M6.1 35 6 = io (L.1 6) := by rw [f6.1 35 (by decide), stne (by decide), stne (by decide)]; exact h6
      have h36 : ∀ z, M6.1 36 z = (st (st M4 36 a (M4.1 36 (a + 1 + j))) 36 (a + 1 + j) (M4.1 36 a)).1 36 z := fun z => by rw [f6.1 36 (by decide)]
      have ea : M6.1 36 a = io (L.2.1 (a + 1 + j)) := by
        rw [h36, st_rd (fun q => by omega), ← g2 _ hb]; simp [st]
      have eb : M6.1 36 (a + 1 + j) = io (L.2.1 a) := by
        rw [h36, ← g2 a ha]; simp [st]
      have hS7 : S (st (st M6 36 a (M6.1 36 (a + 1 + j))) 36 (a + 1 + j) (M6.1 36 a)) := by
        refine ⟨fun c hc => ?_, fun z hz => ?_, ((((k4.sto (by omega)).sto (by omega)).trans (fr49 f6)).sto (by omega)).sto (by omega)⟩
        · rw [stne (by revert c; decide), stne (by revert c; decide), f6.1 c (by revert c; decide), stne (by revert c; decide), stne (by revert c; decide)]; exact g1 c hc
        · by_cases c1 : z = a + 1 + j
          · rw [ea, c1]; simp [st]
          · rw [st_rd (fun q => c1 q.2)]
            by_cases c2 : z = a
            · rw [eb, c2]; simp [st]
            · rw [st_rd (fun q => c2 q.2), h36, st_rd (fun q => c1 q.2), st_rd (fun q => c2 q.2)]; exact g2 z hz
      have hk1 : (kb (swV L a) (swN a) x0 j).2 ≤ 8 := kb_le (fun _ => pop_le _) hx j
      have hk2 : swV L a j ≤ 8 := pop_le _
      refine ⟨(kb (swV L a) (swN a) x0 (j + 1)).1, io (kb (swV L a) (swN a) x0 (j + 1)).2, io (a + 1 + (j + 1)), _, ⟨rfl, rfl, rfl, hS7⟩, fun k K => ?_⟩
      show L_X9_bestSwap_39 k (io a) K _ _ _ _ = _
      unfold L_X9_bestSwap_39
      rw [h6, if_neg (by rw [io_le (by omega) (by omega)]; omega), overC h6 (by omega) ha hb, bnd_s, e6, bnd2_s, overC h67 (by omega) ha hb, bnd_s, swV_d]
      simp only [kb]
      by_cases c : swV L a j ≤ (kb (swV L a) (swN a) x0 j).2
      · rw [if_pos ((io_le (a := swV L a j) (by omega) (by omega)).mpr c), if_pos c, show (1 : Int32) = io 1 from rfl, io_add]; rfl
      · rw [if_neg (fun q => c ((io_le (a := swV L a j) (by omega) (by omega)).mp q)), if_neg c, letv_eq, show (1 : Int32) = io 1 from rfl, io_add, show (10 : Int32) = io 10 from rfl, io_mul, io_add]; rfl) (fun x y z M4 h k K => by
      obtain ⟨rfl, rfl, rfl, g1, g2, k4⟩ := h
      have h6 : M4.1 35 6 = io (L.1 6) := by rw [g1 35 (by decide)]; exact hC1.1 6 (by omega)
      show L_X9_bestSwap_39 k (io a) K _ _ _ _ = _
      unfold L_X9_bestSwap_39
      rw [h6, if_pos (by rw [io_le (by omega) (by omega)]; omega), show (1 : Int32) = io 1 from rfl, io_add])
    exact ⟨M4, hS4, fun K => he K⟩
  obtain ⟨r, ⟨r1, r2⟩, hr⟩ := in4x (b := L_X9_bestSwap_20) (fun a x y z M3 => x = (swO L a).1 ∧ y = io (swO L a).2 ∧ z = io a ∧ S M3) (fun r => r.1 = (swO L (L.1 6)).1 ∧ KC M r.2) (L.1 6) (x := -1) (y := io (pop (nvc (tlF L L.2.1)))) (z := 0) (w := M2) ⟨rfl, rfl, rfl, hS⟩ (by omega) (fun a x y z M3 ha h => by
      obtain ⟨rfl, rfl, rfl, hS3⟩ := h
      have h6 : M3.1 35 6 = io (L.1 6) := by rw [hS3.1 35 (by decide)]; exact hC1.1 6 (by omega)
      obtain ⟨M4, hS4, he⟩ := inner a ha (swO L a) M3 (swO_le L a) hS3
      refine ⟨(swO L (a + 1)).1, io (swO L (a + 1)).2, io (a + 1), M4, ⟨rfl, rfl, rfl, hS4⟩, fun K => ?_⟩
      unfold L_X9_bestSwap_20
      rw [h6, if_neg (by rw [io_le (by omega) (by omega)]; omega), letv_eq, show (1 : Int32) = io 1 from rfl, io_add, he]; rfl) (fun x y z M3 h => by
      obtain ⟨rfl, rfl, rfl, hS3⟩ := h
      have h6 : M3.1 35 6 = io (L.1 6) := by rw [hS3.1 35 (by decide)]; exact hC1.1 6 (by omega)
      refine ⟨(_, M3), ⟨rfl, hS3.2.2⟩, fun K => ?_⟩
      unfold L_X9_bestSwap_20
      rw [h6, if_pos (by rw [io_le (by omega) (by omega)]; omega)])
  exact ⟨r.2, by rw [hr, ← r1], r2⟩
theorem swapR {L : Lh} {M : Mem} (hL : OkL L) (h0 : 0 < L.1 0) (hR : RpR 0 L M) : ∃ M', bnd (f_X11_laysNow M) (fun M7 => bnd (f_X11_soundNow M7) (fun r8 => bnd (f_X11_sizeOf r8 M7) (fun r10 => lq4 (L_X11_swap_31) FU (-1) r10 0 M7))) = some ((swO L (L.1 6)).1, M') ∧ KR M M' := by
  have g := hL.2.2.1
  obtain ⟨M1, e1, e2, e3, k1⟩ := rNow hL h0 hR
  rw [e1, bnd_s, e2, bnd_s, e3, bnd_s]
  have n5 : ∀ {M2}, KR M M2 → M2.1 7 5 = io (L.1 6) := fun k => (hR.kr k).2.1 5 (by omega)
  have inner : ∀ a, a < L.1 6 → ∀ x0 M3, x0.2 ≤ 8 → KR M M3 → ∃ M4, KR M M4 ∧ ∀ K, lq4 (L_X11_swap_46 K (io a)) FU x0.1 (io x0.2) (io (a + 1)) M3 = K (kb (swV L a) (swN a) x0 (L.1 6 - (a + 1))).1 (io (kb (swV L a) (swN a) x0 (L.1 6 - (a + 1))).2) (io (a + 1)) M4 := by
    intro a ha x0 M3 hx k3
    obtain ⟨x', y', z', M4, ⟨rfl, rfl, rfl, k4⟩, he⟩ := in4k (b := fun k => L_X11_swap_46 k (io a)) (fun j x y z M4 => x = (kb (swV L a) (swN a) x0 j).1 ∧ y = io (kb (swV L a) (swN a) x0 j).2 ∧ z = io (a + 1 + j) ∧ KR M M4) (fun k x y z M4 => k x y (io (a + 1)) M4) (L.1 6 - (a + 1)) (x := x0.1) (y := io x0.2) (z := io (a + 1)) (w := M3) ⟨rfl, rfl, rfl, k3⟩ (by omega) (fun j x y z M4 hj h => by
      obtain ⟨rfl, rfl, rfl, k4⟩ := h
      have hb : a + 1 + j < L.1 6 := by omega
      obtain ⟨M5, e5, hs5, k5⟩ := rLays hL (hR.kr k4)
      have hR5 := (hR.kr k4).kr k5
      have v1 : M5.1 8 (a + 1 + j) = io (L.2.1 (a + 1 + j)) := by have := hR5.2.2.1 _ hb; rwa [show 7 * 0 + (a + 1 + j) = a + 1 + j by omega] at this
      have v2 : M5.1 8 a = io (L.2.1 a) := by have := hR5.2.2.1 _ ha; rwa [show 7 * 0 + a = a by omega] at this
      have hs6 : Ls L L.1 L.2.2.1 (swT L a (a + 1 + j)) 0 (L.1 6) (st (st M5 12 a (io (L.2.1 (a + 1 + j)))) 12 (a + 1 + j) (io (L.2.1 a))) := by
        refine hs5.tl (fun c hc => by rw [stne (by revert c; decide), stne (by revert c; decide)]) (fun z hz => ?_)
        unfold swT
        by_cases c1 : z = a + 1 + j
        · rw [if_neg (by omega), if_pos c1, c1]; simp [st]
        · rw [st_rd (fun q => c1 q.2)]
          by_cases c2 : z = a
          · rw [if_pos c2, c2]; simp [st]
          · rw [if_neg c2, if_neg c1, st_rd (fun q => c2 q.2)]; exact hs5.2.1 z hz
      have k6 : KR M4 (st (st M5 12 a (io (L.2.1 (a + 1 + j)))) 12 (a + 1 + j) (io (L.2.1 a))) := (k5.sto (by decide)).sto (by decide)
      obtain ⟨M7, e7, e8, e9, k7, -⟩ := cntR hL h0 ((hR.kr k4).kr k6) (swT_le hL ha hb) hs6
      have hk1 : (kb (swV L a) (swN a) x0 j).2 ≤ 8 := kb_le (fun _ => pop_le _) hx j
      have hk2 : swV L a j ≤ 8 := pop_le _
      refine ⟨(kb (swV L a) (swN a) x0 (j + 1)).1, io (kb (swV L a) (swN a) x0 (j + 1)).2, io (a + 1 + (j + 1)), M7, ⟨rfl, rfl, rfl, (k4.trans k6).trans k7⟩, fun k K => ?_⟩
      show L_X11_swap_46 k (io a) K _ _ _ _ = _
      unfold L_X11_swap_46
      rw [if_neg (by decide), show ix 5 = 5 from rfl, n5 k4, if_neg (by rw [io_le (by omega) (by omega)]; omega), e5, bnd_s, oob_f (show a + 1 + j < 35 by omega) (by omega), oob_f (show a < 7 by omega) (by omega), oob_f (show a < 35 by omega) (by omega), oob_f (show a + 1 + j < 7 by omega) (by omega), ix_io (by omega), ix_io (by omega), v1]
      simp only [Bool.false_eq_true, if_false, letv_eq]
      rw [stne (show 8 ≠ 12 by decide), v2, e7, bnd_s, e8, bnd_s, e9, bnd_s, bnd_s, e9, bnd_s, swV_d]
      simp only [kb]
      by_cases c : swV L a j ≤ (kb (swV L a) (swN a) x0 j).2
      · rw [if_neg (fun q => by have := (io_lt (b := swV L a j) (by omega) (by omega)).mp q; omega), if_pos c, show (1 : Int32) = io 1 from rfl, io_add]; rfl
      · rw [if_pos ((io_lt (b := swV L a j) (by omega) (by omega)).mpr (by omega)), if_neg c, show (1 : Int32) = io 1 from rfl, io_add, show (10 : Int32) = io 10 from rfl, io_mul, io_add]; rfl) (fun x y z M4 h k K => by
      obtain ⟨rfl, rfl, rfl, k4⟩ := h
      show L_X11_swap_46 k (io a) K _ _ _ _ = _
      unfold L_X11_swap_46
      rw [if_neg (by decide), show ix 5 = 5 from rfl, n5 k4, if_pos (by rw [io_le (by omega) (by omega)]; omega), show (1 : Int32) = io 1 from rfl, io_add])
    exact ⟨M4, k4, fun K => he K⟩
  obtain ⟨r, ⟨r1, r2⟩, hr⟩ := in4x (b := L_X11_swap_31) (fun a x y z M3 => x = (swO L a).1 ∧ y = io (swO L a).2 ∧ z = io a ∧ KR M M3) (fun r => r.1 = (swO L (L.1 6)).1 ∧ KR M r.2) (L.1 6) (x := -1) (y := io (pop (nvc (tlF L L.2.1)))) (z := 0) (w := M1) ⟨rfl, rfl, rfl, k1⟩ (by omega) (fun a x y z M3 ha h => by
      obtain ⟨rfl, rfl, rfl, k3⟩ := h
      obtain ⟨M4, k4, he⟩ := inner a ha (swO L a) M3 (swO_le L a) k3
      refine ⟨(swO L (a + 1)).1, io (swO L (a + 1)).2, io (a + 1), M4, ⟨rfl, rfl, rfl, k4⟩, fun K => ?_⟩
      unfold L_X11_swap_31
      rw [if_neg (by decide), show ix 5 = 5 from rfl, n5 k3, if_neg (by rw [io_le (by omega) (by omega)]; omega), letv_eq, show (1 : Int32) = io 1 from rfl, io_add, he]; rfl) (fun x y z M3 h => by
      obtain ⟨rfl, rfl, rfl, k3⟩ := h
      refine ⟨(_, M3), ⟨rfl, k3⟩, fun K => ?_⟩
      unfold L_X11_swap_31
      rw [if_neg (by decide), show ix 5 = 5 from rfl, n5 k3, if_pos (by rw [io_le (by omega) (by omega)]; omega)])
  exact ⟨r.2, by rw [hr, ← r1], r2⟩
theorem op_57 : ∀ (Mc Mr : Mem), Rel Mc Mr → ∃ (r : Int32) (Mc' Mr' : Mem), f_X10_swap Mc = some (r, Mc') ∧ f_X11_swap Mr = some (r, Mr') ∧ Rel Mc' Mr' :=
  opT2 (fun M => f_X9_bestSwap M) (fun M => bnd (f_X11_laysNow M) (fun M7 => bnd (f_X11_soundNow M7) (fun r8 => bnd (f_X11_sizeOf r8 M7) (fun r10 => lq4 (L_X11_swap_31) FU (-1) r10 0 M7)))) (fun M => by unfold f_X10_swap; rw [bnd2_id]) (fun M => rfl) (fun L Mc Mr hL h0 hC hR => ⟨_, swapC hL h0 hC, swapR hL h0 hR⟩)
