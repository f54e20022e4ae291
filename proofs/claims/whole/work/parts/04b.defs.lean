/-! THE FUNCTIONS: memory, and for each method what it does to it (no machine here) -/
abbrev Mem : Type := (Nat → Nat → Int32) × (Nat → Nat → Int64)
def st (M : Mem) (a k : Nat) (v : Int32) : Mem := (fun i j => if i = a ∧ j = k then v else M.1 i j, M.2)
def stL (M : Mem) (a k : Nat) (v : Int64) : Mem := (M.1, fun i j => if i = a ∧ j = k then v else M.2 i j)
def cpI (M : Mem) (a sp b dp n : Nat) : Mem := (fun i j => if i = b then va_cpy (M.1 a) (M.1 b) sp dp n j else M.1 i j, M.2)
def cpL (M : Mem) (a sp b dp n : Nat) : Mem := (M.1, fun i j => if i = b then va_cpy (M.2 a) (M.2 b) sp dp n j else M.2 i j)
def oob2 (i j : Int32) (n : Nat) : Bool := decide (i < 0 ∨ j < 0 ∨ n < i.toNatClampNeg + j.toNatClampNeg)
def bnd {α β : Type} (o : Option α) (k : α → Option β) : Option β := match o with
  | none => none
  | some x => k x
theorem bnd_some {α β : Type} {o : Option α} {k : α → Option β} {z : β} (h : bnd o k = some z) : ∃ x, o = some x ∧ k x = some z := by
  cases o with
  | none => cases h
  | some x => exact ⟨x, rfl, h⟩
def letv {α β : Type} (x : α) (k : α → β) : β := k x
theorem letv_at {α β : Type} {x x1 : α} (e : x1 = x) {k : α → β} {z : β} (h : letv x k = z) : k x1 = z := by
  subst e
  exact h
theorem grd {β : Type} {b : Bool} {k : Option β} {z : β} (h : (if b = true then none else k) = some z) : b = false ∧ k = some z := by
  cases b with
  | true => simp at h
  | false => exact ⟨rfl, by simpa using h⟩
theorem grd0 {β : Type} {x : Int32} {k : Option β} {z : β} (h : (if x = 0 then none else k) = some z) : ¬ x = 0 ∧ k = some z := by
  by_cases hx : x = 0
  · simp [hx] at h
  · exact ⟨hx, by simpa [hx] using h⟩
theorem grdL {β : Type} {x : Int64} {k : Option β} {z : β} (h : (if x = 0 then none else k) = some z) : ¬ x = 0 ∧ k = some z := by
  by_cases hx : x = 0
  · simp [hx] at h
  · exact ⟨hx, by simpa [hx] using h⟩
def bnd2 {α β : Type} (o : Option (α × Mem)) (k : α → Mem → Option β) : Option β := match o with
  | none => none
  | some x => k x.1 x.2
theorem bnd2_some {α β : Type} {o : Option (α × Mem)} {k : α → Mem → Option β} {z : β} (h : bnd2 o k = some z) : ∃ (x : α) (M : Mem), o = some (x, M) ∧ k x M = some z := by
  cases o with
  | none => cases h
  | some x => exact ⟨x.1, x.2, rfl, h⟩
def optc {β : Type} (o : Option Nat) (a : β) (b : Nat → β) : β := match o with
  | none => a
  | some k => b k
def f_J6_bitCount_0f7a4 (p0 : Int32) : Int32 :=
  letv (p0 - (((p0.toUInt32 >>> ((1 : Int32).toUInt32 &&& Int32.toUInt32 31)).toInt32) &&& 1431655765)) (fun x1 =>
  letv ((x1 &&& 858993459) + (((x1.toUInt32 >>> ((2 : Int32).toUInt32 &&& Int32.toUInt32 31)).toInt32) &&& 858993459)) (fun x2 =>
  letv ((x2 + ((x2.toUInt32 >>> ((4 : Int32).toUInt32 &&& Int32.toUInt32 31)).toInt32)) &&& 252645135) (fun x3 =>
  letv (x3 + ((x3.toUInt32 >>> ((8 : Int32).toUInt32 &&& Int32.toUInt32 31)).toInt32)) (fun x4 =>
  letv (x4 + ((x4.toUInt32 >>> ((16 : Int32).toUInt32 &&& Int32.toUInt32 31)).toInt32)) (fun x5 =>
  (x5 &&& 63))))))
def L_J7_fill_d0a16_6 (p0 : Nat) (p1 : Int64) (np0 : Nat) (v4_6 : Int32) : (Int32 → Mem → Option Mem) → Int32 → Mem → Option Mem := fun K_6 v3_6 M_6 =>
  if v4_6 ≤ v3_6 then
  some M_6
  else
  if oob v3_6 np0 = true then none else
  letv (stL M_6 p0 (ix v3_6) p1) (fun M3 =>
  K_6 (v3_6 + 1) M3)
def f_J7_fill_d0a16 (p0 : Nat) (p1 : Int64) (np0 : Nat) (M : Mem) : Option Mem :=
  letv (Int32.ofNat np0) (fun x1 =>
  lq2 (L_J7_fill_d0a16_6 p0 p1 np0 x1) FU 0 M)
def L_J7_fill_53178_5 (p0 : Nat) (p1 : Int32) (np0 : Nat) (v3_5 : Int32) : (Int32 → Mem → Option Mem) → Int32 → Mem → Option Mem := fun K_5 v2_5 M_5 =>
  if v3_5 ≤ v2_5 then
  some M_5
  else
  if oob v2_5 np0 = true then none else
  letv (st M_5 p0 (ix v2_5) p1) (fun M3 =>
  K_5 (v2_5 + 1) M3)
def f_J7_fill_53178 (p0 : Nat) (p1 : Int32) (np0 : Nat) (M : Mem) : Option Mem :=
  letv (Int32.ofNat np0) (fun x1 =>
  lq2 (L_J7_fill_53178_5 p0 p1 np0 x1) FU 0 M)
def f_max (x y : Int32) : Int32 := if x < y then y else x
def f_min (x y : Int32) : Int32 := if y < x then y else x
def f_abs (x : Int32) : Int32 := if 0 ≤ x then x else 0 - x
def f_absL (x : Int64) : Int64 := if 0 < x then x else -x
def f_J0_length_8abf5 (w : Nat) : Int32 := Int32.ofNat (lenW.getD w 0)
def f_J0_charAt_5068e (w : Nat) (i : Int32) : Option Int32 := if oob i (lenW.getD w 0) = true then none else some ((bytW.getD w []).getD (ix i) 0)
def f_X10_rowOf (p1 : Int32) (M : Mem) : Option Nat := if p1 < 0 then none else if (4 : Int32) ≤ p1 then none else if oob p1 4 = true then none else some (rC 3 (ix p1))
def f_X5_clear (o : Nat) (M : Mem) : Option Mem :=
  letv (st M o 0 0) (fun M1 =>
  letv (st M1 o 1 0) (fun M2 =>
  letv (st M2 o 2 0) (fun M3 =>
  letv (st M3 o 3 0) (fun M4 =>
  letv (st M4 o 4 0) (fun M5 =>
  letv (st M5 o 5 0) (fun M6 =>
  letv (st M6 o 6 0) (fun M7 =>
  letv (st M7 o 7 0) (fun M8 =>
  some M8))))))))
def f_X5_copyFrom (o : Nat) (p1 : Nat) (M : Mem) : Option Mem :=
  letv (st M o 0 (M.1 p1 0)) (fun M1 =>
  letv (st M1 o 1 (M1.1 p1 1)) (fun M2 =>
  letv (st M2 o 2 (M2.1 p1 2)) (fun M3 =>
  letv (st M3 o 3 (M3.1 p1 3)) (fun M4 =>
  letv (st M4 o 4 (M4.1 p1 4)) (fun M5 =>
  letv (st M5 o 5 (M5.1 p1 5)) (fun M6 =>
  letv (st M6 o 6 (M6.1 p1 6)) (fun M7 =>
  letv (st M7 o 7 (M7.1 p1 7)) (fun M8 =>
  if oob2 0 7 7 = true then none else
  if oob2 0 7 7 = true then none else
  letv (cpI M8 (rC p1 8) (ix 0) (rC o 8) (ix 0) (ix 7)) (fun M9 =>
  if oob2 0 6 6 = true then none else
  if oob2 0 6 6 = true then none else
  letv (cpI M9 (rC p1 9) (ix 0) (rC o 9) (ix 0) (ix 6)) (fun M12 =>
  if oob2 0 6 6 = true then none else
  if oob2 0 6 6 = true then none else
  letv (cpI M12 (rC p1 10) (ix 0) (rC o 10) (ix 0) (ix 6)) (fun M15 =>
  if oob2 0 6 6 = true then none else
  if oob2 0 6 6 = true then none else
  letv (cpI M15 (rC p1 11) (ix 0) (rC o 11) (ix 0) (ix 6)) (fun M18 =>
  if oob2 0 6 6 = true then none else
  if oob2 0 6 6 = true then none else
  letv (cpI M18 (rC p1 12) (ix 0) (rC o 12) (ix 0) (ix 6)) (fun M21 =>
  some M21)))))))))))))
def f_X5_isTold (o : Nat) (M : Mem) : Int32 :=
  if (M.1 o 0) ≤ 0 then
  0
  else
  1
def f_X5_hasZone (o : Nat) (p1 : Int32) (M : Mem) : Int32 :=
  if p1 < 0 then
  0
  else
  if (M.1 o 6) ≤ p1 then
  0
  else
  1
def f_X5_hasPiece (o : Nat) (p1 : Int32) (M : Mem) : Int32 :=
  if p1 < 0 then
  0
  else
  if (M.1 o 7) ≤ p1 then
  0
  else
  1
def f_X5_hasStep (o : Nat) (p1 : Int32) (M : Mem) : Int32 :=
  if (f_X5_isTold o M) = 0 then
  0
  else
  if p1 < 0 then
  0
  else
  if (M.1 o 1) < p1 then
  0
  else
  1
def f_X5_hasStepAhead (o : Nat) (p1 : Int32) (M : Mem) : Int32 :=
  if (f_X5_hasStep o p1 M) = 0 then
  0
  else
  if (M.1 o 1) ≤ p1 then
  0
  else
  1
def f_X5_placeAt (o : Nat) (p1 : Int32) (p2 : Int32) (M : Mem) : Option Int32 :=
  if p1 < 0 then
  some (-1)
  else
  if (M.1 o 7) ≤ p1 then
  some (-1)
  else
  if (M.1 o 4) < 1 then
  some (-1)
  else
  if oob p1 6 = true then none else
  if (M.1 (rC o 12) (ix p1)) ≤ p2 then
  if oob p1 6 = true then none else
  if (M.1 o 4) = 0 then none else
  letv ((p2 - (M.1 (rC o 12) (ix p1))) / (M.1 o 4)) (fun x8 =>
  if (M.1 o 6) ≤ x8 then
  some 10
  else
  some x8)
  else
  some (-1)
def f_X5_leavingStep (o : Nat) (p1 : Int32) (M : Mem) : Option Int32 :=
  if (f_X5_hasPiece o p1 M) = 0 then
  some (-1)
  else
  if oob p1 6 = true then none else
  letv ((M.1 (rC o 12) (ix p1)) + ((M.1 o 6) * (M.1 o 4))) (fun x3 =>
  if (M.1 o 1) < x3 then
  some (-1)
  else
  some x3)
def L_X5_piecesAt_5 (o : Nat) (p1 : Int32) (p2 : Int32) (M : Mem) : (Int32 → Int32 → Option Int32) → Int32 → Int32 → Option Int32 := fun K_5 v3_5 v4_5 =>
  if (M.1 o 7) ≤ v4_5 then
  some v3_5
  else
  bnd (f_X5_placeAt o v4_5 p2 M) (fun r2 =>
  if r2 = p1 then
  letv (v3_5 ||| ((1 : Int32) <<< (v4_5 &&& 31))) (fun x5 =>
  K_5 x5 (v4_5 + 1))
  else
  K_5 v3_5 (v4_5 + 1))
def f_X5_piecesAt (o : Nat) (p1 : Int32) (p2 : Int32) (M : Mem) : Option Int32 :=
  lq2 (L_X5_piecesAt_5 o p1 p2 M) FU 0 0
def f_X5_hasCome (o : Nat) (p1 : Int32) (p2 : Int32) (M : Mem) : Option Int32 :=
  if (f_X5_hasPiece o p1 M) = 0 then
  some 0
  else
  if oob p1 6 = true then none else
  if p2 < (M.1 (rC o 12) (ix p1)) then
  some 0
  else
  some 1
def L_X5_comeBy_4 (o : Nat) (p1 : Int32) (M : Mem) : (Int32 → Int32 → Option Int32) → Int32 → Int32 → Option Int32 := fun K_4 v2_4 v3_4 =>
  if (M.1 o 7) ≤ v3_4 then
  some v2_4
  else
  bnd (f_X5_hasCome o v3_4 p1 M) (fun r2 =>
  if r2 = 0 then
  K_4 v2_4 (v3_4 + 1)
  else
  letv (v2_4 ||| ((1 : Int32) <<< (v3_4 &&& 31))) (fun x5 =>
  K_4 x5 (v3_4 + 1)))
def f_X5_comeBy (o : Nat) (p1 : Int32) (M : Mem) : Option Int32 :=
  lq2 (L_X5_comeBy_4 o p1 M) FU 0 0
def f_X5_comingAt (o : Nat) (p1 : Int32) (M : Mem) : Option Int32 :=
  bnd (f_X5_comeBy o p1 M) (fun r1 =>
  bnd (f_X5_comeBy o (p1 - (1 : Int32)) M) (fun r3 =>
  some (r1 &&& (r3 ^^^ (-1 : Int32)))))
def L_X5_busySteps_4 (o : Nat) (p1 : Int32) (M : Mem) : (Int32 → Int32 → Option Int32) → Int32 → Int32 → Option Int32 := fun K_4 v2_4 v3_4 =>
  if (M.1 o 1) < v3_4 then
  some v2_4
  else
  bnd (f_X5_piecesAt o p1 v3_4 M) (fun r2 =>
  if r2 = 0 then
  K_4 v2_4 (v3_4 + 1)
  else
  K_4 (v2_4 + 1) (v3_4 + 1))
def f_X5_busySteps (o : Nat) (p1 : Int32) (M : Mem) : Option Int32 :=
  lq2 (L_X5_busySteps_4 o p1 M) FU 0 0
def f_X5_changeOver (o : Nat) (p1 : Int32) (p2 : Int32) (M : Mem) : Option Mem :=
  if (f_X5_hasZone o p1 M) = 0 then
  some M
  else
  if (f_X5_hasZone o p2 M) = 0 then
  some M
  else
  if oob p1 7 = true then none else
  letv (M.1 (rC o 8) (ix p1)) (fun x4 =>
  if oob p2 7 = true then none else
  if oob p1 7 = true then none else
  letv (st M (rC o 8) (ix p1) (M.1 (rC o 8) (ix p2))) (fun M6 =>
  if oob p2 7 = true then none else
  letv (st M6 (rC o 8) (ix p2) x4) (fun M8 =>
  some M8)))
def f_X5_leaveOut (o : Nat) (p1 : Int32) (M : Mem) : Option Mem :=
  if (f_X5_hasZone o p1 M) = 0 then
  some M
  else
  if oob2 (p1 + (1 : Int32)) ((6 : Int32) - p1) 7 = true then none else
  if oob2 p1 ((6 : Int32) - p1) 7 = true then none else
  letv (cpI M (rC o 8) (ix (p1 + (1 : Int32))) (rC o 8) (ix p1) (ix ((6 : Int32) - p1))) (fun M2 =>
  letv (st M2 o 6 ((M2.1 o 6) - (1 : Int32))) (fun M5 =>
  some M5))
def f_X0_clear (o : Nat) (M : Mem) : Option Mem :=
  letv (st M o 0 0) (fun M1 =>
  letv (st M1 o 1 0) (fun M2 =>
  bnd (f_J7_fill_53178 (rC o 5) (0 : Int32) 105 M2) (fun M5 =>
  some M5)))
def f_X0_copyFrom (o : Nat) (p1 : Nat) (M : Mem) : Option Mem :=
  letv (st M o 0 (M.1 p1 0)) (fun M1 =>
  letv (st M1 o 1 (M1.1 p1 1)) (fun M2 =>
  if oob2 0 30 30 = true then none else
  if oob2 0 30 30 = true then none else
  letv (cpI M2 (rC p1 2) (ix 0) (rC o 2) (ix 0) (ix 30)) (fun M3 =>
  if oob2 0 30 30 = true then none else
  if oob2 0 30 30 = true then none else
  letv (cpI M3 (rC p1 3) (ix 0) (rC o 3) (ix 0) (ix 30)) (fun M6 =>
  if oob2 0 30 30 = true then none else
  if oob2 0 30 30 = true then none else
  letv (cpI M6 (rC p1 4) (ix 0) (rC o 4) (ix 0) (ix 30)) (fun M9 =>
  if oob2 0 105 105 = true then none else
  if oob2 0 105 105 = true then none else
  letv (cpI M9 (rC p1 5) (ix 0) (rC o 5) (ix 0) (ix 105)) (fun M12 =>
  some M12))))))
def f_X0_addAct (o : Nat) (p1 : Int32) (p2 : Int32) (p3 : Int32) (M : Mem) : Option (Int32 × Mem) :=
  if (M.1 o 0) < 0 then
  some (0, M)
  else
  if (M.1 o 0) < 30 then
  if oob (M.1 o 0) 30 = true then none else
  letv (st M (rC o 2) (ix (M.1 o 0)) p1) (fun M3 =>
  if oob (M3.1 o 0) 30 = true then none else
  letv (st M3 (rC o 3) (ix (M3.1 o 0)) p2) (fun M5 =>
  if oob (M5.1 o 0) 30 = true then none else
  letv (st M5 (rC o 4) (ix (M5.1 o 0)) p3) (fun M7 =>
  letv (st M7 o 0 ((M7.1 o 0) + (1 : Int32))) (fun M9 =>
  some (1, M9)))))
  else
  some (0, M)
def L_X0_heatUp_18 (o : Nat) (p1 : Int32) (p2 : Int32) (p3 : Int32) : (Int32 → Mem → Option Mem) → Int32 → Mem → Option Mem := fun K_18 v4_18 M_18 =>
  if (15 : Int32) ≤ v4_18 then
  some M_18
  else
  if oob ((p1 * (15 : Int32)) + v4_18) 105 = true then none else
  if oob ((p1 * (15 : Int32)) + v4_18) 105 = true then none else
  letv (st M_18 (rC o 5) (ix ((p1 * (15 : Int32)) + v4_18)) ((M_18.1 (rC o 5) (ix ((p1 * (15 : Int32)) + v4_18))) + p2)) (fun M6 =>
  K_18 (v4_18 + 1) M6)
def f_X0_heatUp (o : Nat) (p1 : Int32) (p2 : Int32) (p3 : Int32) (M : Mem) : Option Mem :=
  if p1 < 0 then
  some M
  else
  if (7 : Int32) ≤ p1 then
  some M
  else
  if (0 : Int32) ≤ p3 then
  lq2 (L_X0_heatUp_18 o p1 p2 p3) FU p3 M
  else
  some M
def f_X0_addFire (o : Nat) (p1 : Int32) (p2 : Int32) (p3 : Int32) (M : Mem) : Option (Int32 × Mem) :=
  bnd2 (f_X0_addAct o p1 p2 p3 M) (fun r1 M3 =>
  if r1 = 0 then
  some (0, M3)
  else
  bnd (f_X0_heatUp o p1 p2 p3 M3) (fun M7 =>
  some (1, M7)))
def f_X0_addGust (o : Nat) (p1 : Int32) (M : Mem) : Option (Int32 × Mem) :=
  bnd2 (f_X0_addAct o ((-1) : Int32) (0 : Int32) p1 M) (fun r1 M3 =>
  if r1 = 0 then
  some (0, M3)
  else
  letv (st M3 o 1 ((M3.1 o 1) ||| ((1 : Int32) <<< (p1 &&& 31)))) (fun M5 =>
  some (1, M5)))
def L_X0_gatherGusts_7 (o : Nat) : (Int32 → Mem → Option Mem) → Int32 → Mem → Option Mem := fun K_7 v1_7 M_7 =>
  if (M_7.1 o 0) ≤ v1_7 then
  some M_7
  else
  if (30 : Int32) ≤ v1_7 then
  some M_7
  else
  if oob v1_7 30 = true then none else
  if (M_7.1 (rC o 2) (ix v1_7)) = (-1) then
  if oob v1_7 30 = true then none else
  letv (st M_7 o 1 ((M_7.1 o 1) ||| ((1 : Int32) <<< ((M_7.1 (rC o 4) (ix v1_7)) &&& 31)))) (fun M7 =>
  K_7 (v1_7 + 1) M7)
  else
  K_7 (v1_7 + 1) M_7
def f_X0_gatherGusts (o : Nat) (M : Mem) : Option Mem :=
  letv (st M o 1 0) (fun M1 =>
  lq2 (L_X0_gatherGusts_7 o) FU 0 M1)
def f_X0_takeBack (o : Nat) (M : Mem) : Option (Int32 × Mem) :=
  if (M.1 o 0) < 1 then
  some (0, M)
  else
  if (M.1 o 0) ≤ 30 then
  letv (st M o 0 ((M.1 o 0) - (1 : Int32))) (fun M3 =>
  if oob (M3.1 o 0) 30 = true then none else
  if (M3.1 (rC o 2) (ix (M3.1 o 0))) = (-1) then
  bnd (f_X0_gatherGusts o M3) (fun M14 =>
  some (1, M14))
  else
  if oob (M3.1 o 0) 30 = true then none else
  if oob (M3.1 o 0) 30 = true then none else
  if oob (M3.1 o 0) 30 = true then none else
  bnd (f_X0_heatUp o (M3.1 (rC o 2) (ix (M3.1 o 0))) (-(M3.1 (rC o 3) (ix (M3.1 o 0)))) (M3.1 (rC o 4) (ix (M3.1 o 0))) M3) (fun M11 =>
  some (1, M11)))
  else
  some (0, M)
def f_X0_leaveOut (o : Nat) (p1 : Int32) (M : Mem) : Option Mem :=
  if p1 < 0 then
  some M
  else
  if (7 : Int32) ≤ p1 then
  some M
  else
  letv ((p1 + (1 : Int32)) * (15 : Int32)) (fun x3 =>
  if oob2 x3 ((105 : Int32) - x3) 105 = true then none else
  if oob2 (p1 * (15 : Int32)) ((105 : Int32) - x3) 105 = true then none else
  letv (cpI M (rC o 5) (ix x3) (rC o 5) (ix (p1 * (15 : Int32))) (ix ((105 : Int32) - x3))) (fun M4 =>
  some M4))
def f_X1_copyFrom (o : Nat) (p1 : Nat) (M : Mem) : Option Mem :=
  bnd (f_X5_copyFrom (rC o 0) (rC p1 0) M) (fun M3 =>
  bnd (f_X0_copyFrom (rC o 1) (rC p1 1) M3) (fun M6 =>
  some M6))
def J_X1_airAt_61 (o : Nat) (p1 : Int32) (p2 : Int32) (p3 : Int32) (M : Mem) (v4_61 : Int32) (w0_61 : Int32) : Option Int32 :=
  if w0_61 = 0 then
  some v4_61
  else
  some (f_max (v4_61 - (80 : Int32)) 0)
def f_X1_airAt (o : Nat) (p1 : Int32) (p2 : Int32) (p3 : Int32) (M : Mem) : Option Int32 :=
  if p1 < 0 then
  some 0
  else
  if (7 : Int32) ≤ p1 then
  some 0
  else
  if p2 < 0 then
  some 0
  else
  if p2 < 15 then
  if oob p1 7 = true then none else
  if oob ((p1 * (15 : Int32)) + p2) 105 = true then none else
  letv ((M.1 (rC (rC o 0) 8) (ix p1)) + (M.1 (rC (rC o 1) 5) (ix ((p1 * (15 : Int32)) + p2)))) (fun x7 =>
  if ((p3 >>> (p2 &&& 31)) &&& (1 : Int32)) = 0 then
  J_X1_airAt_61 o p1 p2 p3 M x7 0
  else
  J_X1_airAt_61 o p1 p2 p3 M x7 1)
  else
  some 0
def f_X1_leaveOut (o : Nat) (p1 : Int32) (M : Mem) : Option Mem :=
  bnd (f_X0_leaveOut (rC o 1) p1 M) (fun M3 =>
  bnd (f_X5_leaveOut (rC o 0) p1 M3) (fun M6 =>
  some M6))
def L_X3_commonDivisor_9 (p0 : Int64) (p2 : Int64) (M : Mem) : (Int64 → Int64 → Int32 → Option Int64) → Int64 → Int64 → Int32 → Option Int64 := fun K_9 v4_9 v6_9 v8_9 =>
  if (1000 : Int32) ≤ v8_9 then
  some v4_9
  else
  if (lg_cmp v6_9 0) = 0 then
  some v4_9
  else
  if v6_9 = 0 then none else
  letv (v4_9 - v4_9 / v6_9 * v6_9) (fun x4 =>
  K_9 v6_9 x4 (v8_9 + 1))
def f_X3_commonDivisor (p0 : Int64) (p2 : Int64) (M : Mem) : Option Int64 :=
  lq3 (L_X3_commonDivisor_9 p0 p2 M) FU p0 p2 0
def J_X3_put_26 (o : Nat) (p1 : Int64) (p3 : Int64) (v5_26 : Int64) (w1_26 : Int64) (M_26 : Mem) : Option Mem :=
  letv (stL M_26 o 0 w1_26) (fun M4 =>
  if (lg_cmp v5_26 0) ≤ 0 then
  letv (stL M4 o 1 p3) (fun M6 =>
  some M6)
  else
  if v5_26 = 0 then none else
  letv (stL M4 o 1 (p3 / v5_26)) (fun M8 =>
  some M8))
def f_X3_put (o : Nat) (p1 : Int64) (p3 : Int64) (M : Mem) : Option Mem :=
  bnd (f_X3_commonDivisor (f_absL p1) p3 M) (fun r1 =>
  if (lg_cmp r1 0) ≤ 0 then
  J_X3_put_26 o p1 p3 r1 p1 M
  else
  if r1 = 0 then none else
  J_X3_put_26 o p1 p3 r1 (p1 / r1) M)
def f_X3_part (o : Nat) (p1 : Int32) (M : Mem) : Int64 :=
  if p1 = 0 then
  (M.2 o 0)
  else
  (M.2 o 1)
def f_X8_hasRoom (p1 : Int32) (M : Mem) : Int32 :=
  if (600 : Int32) < ((M.1 4 1) + p1) then
  0
  else
  1
def L_X8_append_3 (p1 : Int32) : (Int32 → Mem → Option Mem) → Int32 → Mem → Option Mem := fun K_3 v2_3 M_3 =>
  if v2_3 < 0 then
  some M_3
  else
  if (600 : Int32) ≤ (M_3.1 4 1) then
  some M_3
  else
  if oob (M_3.1 4 1) 600 = true then none else
  letv (st M_3 5 (ix (M_3.1 4 1)) (vp_nar .byte (((p1 >>> (v2_3 &&& 31)) : Int32).toInt8.toInt32))) (fun M3 =>
  letv (st M3 4 1 ((M3.1 4 1) + (1 : Int32))) (fun M5 =>
  K_3 (v2_3 + (-8)) M5))
def f_X8_append (p1 : Int32) (M : Mem) : Option Mem :=
  lq2 (L_X8_append_3 p1) FU 24 M
def f_X8_cutTo (p1 : Int32) (M : Mem) : Option (Int32 × Mem) :=
  if p1 < 0 then
  some (0, M)
  else
  if p1 ≤ (M.1 4 1) then
  letv (st M 4 1 p1) (fun M3 =>
  some (1, M3))
  else
  some (0, M)
def f_X8_byteAt (p1 : Int32) (M : Mem) : Option Int32 :=
  if p1 < 0 then
  some 32
  else
  if (M.1 4 1) ≤ p1 then
  some 32
  else
  if (600 : Int32) ≤ p1 then
  some 32
  else
  if oob p1 600 = true then none else
  some (M.1 5 (ix p1))
def L_X2_begin_66 (o : Nat) (p1 : Int32) (p2 : Int32) (v3_66 : Int32) : (Int32 → Mem → Option Mem) → Int32 → Mem → Option Mem := fun K_66 v4_66 M_66 =>
  if p2 < v4_66 then
  some M_66
  else
  bnd (f_X5_placeAt (rC o 1) p1 v4_66 M_66) (fun r17 =>
  if oob (v3_66 + v4_66) 90 = true then none else
  letv (st M_66 (rC o 3) (ix (v3_66 + v4_66)) r17) (fun M19 =>
  K_66 (v4_66 + 1) M19))
def f_X2_begin (o : Nat) (p1 : Int32) (p2 : Int32) (M : Mem) : Option Mem :=
  letv (p1 * (15 : Int32)) (fun x1 =>
  if oob p1 6 = true then none else
  if oob x1 90 = true then none else
  letv (st M (rC o 4) (ix x1) (M.1 (rC (rC o 1) 9) (ix p1))) (fun M3 =>
  if oob p1 6 = true then none else
  if oob x1 90 = true then none else
  letv (st M3 (rC o 5) (ix x1) (M3.1 (rC (rC o 1) 9) (ix p1))) (fun M6 =>
  if oob p1 6 = true then none else
  letv (st M6 (rC o 6) (ix p1) (-1)) (fun M8 =>
  if oob p1 6 = true then none else
  letv (st M8 (rC o 7) (ix p1) 0) (fun M10 =>
  if oob p1 6 = true then none else
  letv (st M10 (rC o 8) (ix p1) (-1)) (fun M12 =>
  if oob p1 6 = true then none else
  letv (st M12 (rC o 9) (ix p1) (-1)) (fun M14 =>
  lq2 (L_X2_begin_66 o p1 p2 x1) FU 0 M14)))))))
def L_X2_meanAround_10 (o : Nat) (p1 : Int32) (p2 : Int32) (p3 : Int32) (p4 : Int32) (M : Mem) : (Int32 → Int32 → Int32 → Option Int32) → Int32 → Int32 → Int32 → Option Int32 := fun K_10 v5_10 v6_10 v7_10 =>
  if (M.1 (rC o 1) 7) ≤ v7_10 then
  if v6_10 = 0 then none else
  some (v5_10 / v6_10)
  else
  letv ((v7_10 * (15 : Int32)) + p3) (fun x3 =>
  if v7_10 = p1 then
  K_10 v5_10 v6_10 (v7_10 + 1)
  else
  if oob x3 90 = true then none else
  if (M.1 (rC o 3) (ix x3)) = p2 then
  if oob x3 90 = true then none else
  letv (v5_10 + (M.1 (rC o 4) (ix x3))) (fun x8 =>
  K_10 x8 (v6_10 + 1) (v7_10 + 1))
  else
  K_10 v5_10 v6_10 (v7_10 + 1))
def f_X2_meanAround (o : Nat) (p1 : Int32) (p2 : Int32) (p3 : Int32) (p4 : Int32) (M : Mem) : Option Int32 :=
  lq3 (L_X2_meanAround_10 o p1 p2 p3 p4 M) FU p4 1 0
def f_X2_warmingBy (o : Nat) (p1 : Int32) (M : Mem) : Int32 :=
  if (M.1 (rC o 1) 2) = 1 then
  (f_max (-60) (f_min (p1 / 2) 60))
  else
  if (M.1 (rC o 1) 2) = 3 then
  (p1 / 3)
  else
  (p1 / 2)
def J_X2_setAndCrack_74 (o : Nat) (p1 : Int32) (p2 : Int32) (v3_74 : Int32) (v4_74 : Int32) (M_74 : Mem) : Option Mem :=
  if oob p1 6 = true then none else
  if v4_74 ≤ (M_74.1 (rC (rC o 1) 11) (ix p1)) then
  if oob v3_74 90 = true then none else
  if (M_74.1 (rC o 3) (ix v3_74)) = 10 then
  if oob p1 6 = true then none else
  if oob p1 6 = true then none else
  if (M_74.1 (rC o 8) (ix p1)) ≤ ((M_74.1 (rC (rC o 1) 11) (ix p1)) / 2) then
  some M_74
  else
  if oob p1 6 = true then none else
  letv (st M_74 (rC o 6) (ix p1) p2) (fun M14 =>
  if oob p1 6 = true then none else
  letv (st M14 (rC o 7) (ix p1) 2) (fun M16 =>
  some M16))
  else
  some M_74
  else
  if oob p1 6 = true then none else
  letv (st M_74 (rC o 6) (ix p1) p2) (fun M18 =>
  if oob p1 6 = true then none else
  letv (st M18 (rC o 7) (ix p1) 1) (fun M20 =>
  some M20))
def f_X2_setAndCrack (o : Nat) (p1 : Int32) (p2 : Int32) (M : Mem) : Option Mem :=
  letv ((p1 * (15 : Int32)) + p2) (fun x1 =>
  if oob x1 90 = true then none else
  if oob x1 90 = true then none else
  letv (f_abs ((M.1 (rC o 4) (ix x1)) - (M.1 (rC o 5) (ix x1)))) (fun x4 =>
  if oob (x1 - (1 : Int32)) 90 = true then none else
  if (M.1 (rC o 5) (ix (x1 - (1 : Int32)))) < (M.1 (rC o 1) 5) then
  J_X2_setAndCrack_74 o p1 p2 x1 x4 M
  else
  if oob x1 90 = true then none else
  if (M.1 (rC o 1) 5) ≤ (M.1 (rC o 5) (ix x1)) then
  J_X2_setAndCrack_74 o p1 p2 x1 x4 M
  else
  if oob p1 6 = true then none else
  letv (st M (rC o 8) (ix p1) x4) (fun M24 =>
  if oob p1 6 = true then none else
  letv (st M24 (rC o 9) (ix p1) p2) (fun M26 =>
  J_X2_setAndCrack_74 o p1 p2 x1 x4 M26))))
def J_X2_advance_123 (o : Nat) (p1 : Int32) (p2 : Int32) (v3_123 : Int32) (v5_123 : Int32) (v6_123 : Int32) (M_123 : Mem) : Option Mem :=
  if oob (v3_123 + (1 : Int32)) 90 = true then none else
  if oob v3_123 90 = true then none else
  if oob (v3_123 + (1 : Int32)) 90 = true then none else
  letv (st M_123 (rC o 4) (ix (v3_123 + (1 : Int32))) ((M_123.1 (rC o 4) (ix (v3_123 + (1 : Int32)))) + (f_X2_warmingBy o (v6_123 - (M_123.1 (rC o 4) (ix v3_123))) M_123))) (fun M22 =>
  if oob (v3_123 + (1 : Int32)) 90 = true then none else
  if oob (v3_123 + (1 : Int32)) 90 = true then none else
  if oob v3_123 90 = true then none else
  if v5_123 = 0 then none else
  if oob (v3_123 + (1 : Int32)) 90 = true then none else
  letv (st M22 (rC o 5) (ix (v3_123 + (1 : Int32))) ((M22.1 (rC o 5) (ix (v3_123 + (1 : Int32)))) + (((M22.1 (rC o 4) (ix (v3_123 + (1 : Int32)))) - (M22.1 (rC o 5) (ix v3_123))) / v5_123))) (fun M28 =>
  bnd (f_X2_setAndCrack o p1 (p2 + (1 : Int32)) M28) (fun M32 =>
  some M32)))
def f_X2_advance (o : Nat) (p1 : Int32) (p2 : Int32) (M : Mem) : Option Mem :=
  letv ((p1 * (15 : Int32)) + p2) (fun x1 =>
  if oob x1 90 = true then none else
  if oob (x1 + (1 : Int32)) 90 = true then none else
  letv (st M (rC o 4) (ix (x1 + (1 : Int32))) (M.1 (rC o 4) (ix x1))) (fun M3 =>
  if oob x1 90 = true then none else
  if oob (x1 + (1 : Int32)) 90 = true then none else
  letv (st M3 (rC o 5) (ix (x1 + (1 : Int32))) (M3.1 (rC o 5) (ix x1))) (fun M6 =>
  if oob x1 90 = true then none else
  letv (M6.1 (rC o 3) (ix x1)) (fun x9 =>
  if oob p1 6 = true then none else
  letv (M6.1 (rC (rC o 1) 10) (ix p1)) (fun x11 =>
  if x9 = (-1) then
  some M6
  else
  if x9 = 10 then
  some M6
  else
  if oob p1 6 = true then none else
  if (M6.1 (rC o 6) (ix p1)) = (-1) then
  if (1 : Int32) ≤ x11 then
  bnd (f_X1_airAt (rC o 0) x9 p2 (M6.1 o 2) M6) (fun r17 =>
  if (M6.1 (rC o 1) 2) = 2 then
  bnd (f_X2_meanAround o p1 x9 p2 r17 M6) (fun r33 =>
  J_X2_advance_123 o p1 p2 x1 x11 r33 M6)
  else
  J_X2_advance_123 o p1 p2 x1 x11 r17 M6)
  else
  some M6
  else
  some M6)))))
def L_X2_follow_95 (o : Nat) (p1 : Int32) (p2 : Int32) (p3 : Int32) (v4_85 : Int32) (v5_85 : Int32) (K_85 : Int32 → Mem → Option Mem) (v6_95 : Int32) : (Int32 → Mem → Option Mem) → Int32 → Mem → Option Mem := fun K_95 v7_95 M_95 =>
  if (M_95.1 (rC o 1) 7) ≤ v7_95 then
  K_85 (v6_95 + 1) M_95
  else
  if ((v4_85 >>> (v7_95 &&& 31)) &&& (1 : Int32)) = 0 then
  K_95 (v7_95 + 1) M_95
  else
  bnd (f_X2_advance o v7_95 v6_95 M_95) (fun M10 =>
  K_95 (v7_95 + 1) M10)
def L_X2_follow_85 (o : Nat) (p1 : Int32) (p2 : Int32) (p3 : Int32) (v4_85 : Int32) (v5_85 : Int32) : (Int32 → Mem → Option Mem) → Int32 → Mem → Option Mem := fun K_85 v6_85 M_85 =>
  if v5_85 ≤ v6_85 then
  some M_85
  else
  lq2 (L_X2_follow_95 o p1 p2 p3 v4_85 v5_85 K_85 v6_85) FU 0 M_85
def L_X2_follow_46 (o : Nat) (p1 : Int32) (p2 : Int32) (p3 : Int32) (v4_46 : Int32) (v5_46 : Int32) : (Int32 → Mem → Option Mem) → Int32 → Mem → Option Mem := fun K_46 v6_46 M_46 =>
  if (M_46.1 (rC o 1) 7) ≤ v6_46 then
  lq2 (L_X2_follow_85 o p1 p2 p3 v4_46 v5_46) FU 0 M_46
  else
  if ((v4_46 >>> (v6_46 &&& 31)) &&& (1 : Int32)) = 0 then
  K_46 (v6_46 + 1) M_46
  else
  bnd (f_X2_begin o v6_46 v5_46 M_46) (fun M14 =>
  K_46 (v6_46 + 1) M14)
def f_X2_follow (o : Nat) (p1 : Int32) (p2 : Int32) (p3 : Int32) (M : Mem) : Option Mem :=
  letv (st M o 2 ((M.1 (rC (rC o 0) 1) 1) ||| p1)) (fun M1 =>
  if (M1.1 (rC o 1) 2) = 2 then
  letv (f_min p2 14) (fun x15 =>
  lq2 (L_X2_follow_46 o p1 p2 p3 63 x15) FU 0 M1)
  else
  letv (f_min p2 14) (fun x3 =>
  lq2 (L_X2_follow_46 o p1 p2 p3 p3 x3) FU 0 M1))
def f_X2_valueAt (o : Nat) (p1 : Int32) (p2 : Int32) (p3 : Int32) (M : Mem) : Option Int32 :=
  if (f_X5_hasPiece (rC o 1) p2 M) = 0 then
  some 0
  else
  if p3 < 0 then
  some 0
  else
  if p3 < 15 then
  letv ((p2 * (15 : Int32)) + p3) (fun x4 =>
  if p1 = 0 then
  if oob x4 90 = true then none else
  some (M.1 (rC o 4) (ix x4))
  else
  if p1 = 1 then
  if oob x4 90 = true then none else
  some (M.1 (rC o 5) (ix x4))
  else
  if oob x4 90 = true then none else
  if oob x4 90 = true then none else
  some (f_abs ((M.1 (rC o 4) (ix x4)) - (M.1 (rC o 5) (ix x4)))))
  else
  some 0
def f_X2_skinAt (o : Nat) (p1 : Int32) (p2 : Int32) (M : Mem) : Option Int32 :=
  bnd (f_X2_valueAt o (0 : Int32) p1 p2 M) (fun r1 =>
  some r1)
def f_X2_strainAt (o : Nat) (p1 : Int32) (p2 : Int32) (M : Mem) : Option Int32 :=
  bnd (f_X2_valueAt o (2 : Int32) p1 p2 M) (fun r1 =>
  some r1)
def f_X2_skinFall (o : Nat) (p1 : Int32) (p2 : Int32) (M : Mem) : Option Int32 :=
  bnd (f_X2_skinAt o p1 p2 M) (fun r1 =>
  bnd (f_X2_skinAt o p1 (p2 + (1 : Int32)) M) (fun r3 =>
  some (r1 - r3)))
def L_X2_peakStepOf_4 (o : Nat) (p1 : Int32) (M : Mem) : (Int32 → Int32 → Option Int32) → Int32 → Int32 → Option Int32 := fun K_4 v2_4 v3_4 =>
  if (M.1 (rC o 1) 1) < v3_4 then
  some v2_4
  else
  bnd (f_X2_strainAt o p1 v3_4 M) (fun r2 =>
  bnd (f_X2_strainAt o p1 v2_4 M) (fun r4 =>
  if r2 ≤ r4 then
  K_4 v2_4 (v3_4 + 1)
  else
  K_4 v3_4 (v3_4 + 1)))
def f_X2_peakStepOf (o : Nat) (p1 : Int32) (M : Mem) : Option Int32 :=
  lq2 (L_X2_peakStepOf_4 o p1 M) FU 0 1
def f_X2_peakOf (o : Nat) (p1 : Int32) (M : Mem) : Option Int32 :=
  bnd (f_X2_peakStepOf o p1 M) (fun r1 =>
  bnd (f_X2_strainAt o p1 r1 M) (fun r3 =>
  some r3))
def L_X2_uncrackedAt_4 (o : Nat) (p1 : Int32) (M : Mem) : (Int32 → Int32 → Option Int32) → Int32 → Int32 → Option Int32 := fun K_4 v2_4 v3_4 =>
  if (M.1 (rC o 1) 7) ≤ v3_4 then
  some v2_4
  else
  if oob v3_4 6 = true then none else
  if (M.1 (rC o 6) (ix v3_4)) = (-1) then
  letv (v2_4 ||| ((1 : Int32) <<< (v3_4 &&& 31))) (fun x4 =>
  K_4 x4 (v3_4 + 1))
  else
  if oob v3_4 6 = true then none else
  if (M.1 (rC o 6) (ix v3_4)) ≤ p1 then
  K_4 v2_4 (v3_4 + 1)
  else
  letv (v2_4 ||| ((1 : Int32) <<< (v3_4 &&& 31))) (fun x7 =>
  K_4 x7 (v3_4 + 1))
def f_X2_uncrackedAt (o : Nat) (p1 : Int32) (M : Mem) : Option Int32 :=
  lq2 (L_X2_uncrackedAt_4 o p1 M) FU 0 0
def f_X2_neverCracked (o : Nat) (M : Mem) : Option Int32 :=
  bnd (f_X2_uncrackedAt o (14 : Int32) M) (fun r1 =>
  some r1)
def f_X2_crackingAt (o : Nat) (p1 : Int32) (M : Mem) : Option Int32 :=
  bnd (f_X2_uncrackedAt o (p1 - (1 : Int32)) M) (fun r1 =>
  bnd (f_X2_uncrackedAt o p1 M) (fun r3 =>
  some (r1 &&& (r3 ^^^ (-1 : Int32)))))
def L_X2_mostOf_5 (o : Nat) (p1 : Int32) (p2 : Int32) (M : Mem) : (Int32 → Int32 → Option Int32) → Int32 → Int32 → Option Int32 := fun K_5 v3_5 v4_5 =>
  if (M.1 (rC o 1) 7) ≤ v4_5 then
  some v3_5
  else
  bnd (f_X5_hasCome (rC o 1) v4_5 p2 M) (fun r2 =>
  if r2 = 0 then
  K_5 v3_5 (v4_5 + 1)
  else
  if v3_5 = (-1) then
  K_5 v4_5 (v4_5 + 1)
  else
  bnd (f_X2_valueAt o p1 v4_5 p2 M) (fun r6 =>
  bnd (f_X2_valueAt o p1 v3_5 p2 M) (fun r8 =>
  if r6 ≤ r8 then
  K_5 v3_5 (v4_5 + 1)
  else
  K_5 v4_5 (v4_5 + 1))))
def f_X2_mostOf (o : Nat) (p1 : Int32) (p2 : Int32) (M : Mem) : Option Int32 :=
  lq2 (L_X2_mostOf_5 o p1 p2 M) FU (-1) 0
def L_X2_skinsTogether_4 (o : Nat) (p1 : Int32) (M : Mem) : (Int32 → Int32 → Option Int32) → Int32 → Int32 → Option Int32 := fun K_4 v2_4 v3_4 =>
  if (M.1 (rC o 1) 7) ≤ v3_4 then
  some v2_4
  else
  bnd (f_X5_hasCome (rC o 1) v3_4 p1 M) (fun r2 =>
  if r2 = 0 then
  K_4 v2_4 (v3_4 + 1)
  else
  bnd (f_X2_skinAt o v3_4 p1 M) (fun r5 =>
  letv (v2_4 + r5) (fun x7 =>
  K_4 x7 (v3_4 + 1))))
def f_X2_skinsTogether (o : Nat) (p1 : Int32) (M : Mem) : Option Int32 :=
  lq2 (L_X2_skinsTogether_4 o p1 M) FU 0 0
def L_X2_skinSpread_19 (o : Nat) (p1 : Int32) (M : Mem) (v2_19 : Int32) : (Int32 → Int32 → Option Int32) → Int32 → Int32 → Option Int32 := fun K_19 v3_19 v4_19 =>
  if (M.1 (rC o 1) 7) ≤ v4_19 then
  some v3_19
  else
  bnd (f_X5_hasCome (rC o 1) v4_19 p1 M) (fun r5 =>
  if r5 = 0 then
  K_19 v3_19 (v4_19 + 1)
  else
  bnd (f_X2_skinAt o v2_19 p1 M) (fun r8 =>
  bnd (f_X2_skinAt o v4_19 p1 M) (fun r10 =>
  letv (f_max v3_19 (r8 - r10)) (fun x12 =>
  K_19 x12 (v4_19 + 1)))))
def f_X2_skinSpread (o : Nat) (p1 : Int32) (M : Mem) : Option Int32 :=
  bnd (f_X2_mostOf o (0 : Int32) p1 M) (fun r1 =>
  if r1 = (-1) then
  some 0
  else
  lq2 (L_X2_skinSpread_19 o p1 M r1) FU 0 0)
def L_X2_stiffAt_4 (o : Nat) (p1 : Int32) (M : Mem) : (Int32 → Int32 → Option Int32) → Int32 → Int32 → Option Int32 := fun K_4 v2_4 v3_4 =>
  if (M.1 (rC o 1) 7) ≤ v3_4 then
  some v2_4
  else
  bnd (f_X5_hasCome (rC o 1) v3_4 p1 M) (fun r2 =>
  if r2 = 0 then
  K_4 v2_4 (v3_4 + 1)
  else
  bnd (f_X2_valueAt o (1 : Int32) v3_4 p1 M) (fun r5 =>
  if (M.1 (rC o 1) 5) ≤ r5 then
  K_4 v2_4 (v3_4 + 1)
  else
  letv (v2_4 ||| ((1 : Int32) <<< (v3_4 &&& 31))) (fun x8 =>
  K_4 x8 (v3_4 + 1))))
def f_X2_stiffAt (o : Nat) (p1 : Int32) (M : Mem) : Option Int32 :=
  lq2 (L_X2_stiffAt_4 o p1 M) FU 0 0
def L_X2_worstStep_6 (o : Nat) (M : Mem) : (Int32 → Int32 → Int32 → Option Int32) → Int32 → Int32 → Int32 → Option Int32 := fun K_6 v1_6 v2_6 v3_6 =>
  if (M.1 (rC o 1) 1) < v3_6 then
  some v1_6
  else
  bnd (f_X2_crackingAt o v3_6 M) (fun r2 =>
  letv (f_J6_bitCount_0f7a4 r2) (fun x4 =>
  if x4 ≤ v2_6 then
  K_6 v1_6 v2_6 (v3_6 + 1)
  else
  K_6 v3_6 x4 (v3_6 + 1)))
def f_X2_worstStep (o : Nat) (M : Mem) : Option Int32 :=
  lq3 (L_X2_worstStep_6 o M) FU (-1) 0 0
def L_X2_crackingIn_4 (o : Nat) (p1 : Int32) (M : Mem) : (Int32 → Int32 → Option Int32) → Int32 → Int32 → Option Int32 := fun K_4 v2_4 v3_4 =>
  if (M.1 (rC o 1) 7) ≤ v3_4 then
  some v2_4
  else
  if oob v3_4 6 = true then none else
  if (M.1 (rC o 6) (ix v3_4)) = (-1) then
  K_4 v2_4 (v3_4 + 1)
  else
  if oob v3_4 6 = true then none else
  bnd (f_X5_placeAt (rC o 1) v3_4 (M.1 (rC o 6) (ix v3_4)) M) (fun r5 =>
  if r5 = p1 then
  K_4 (v2_4 + 1) (v3_4 + 1)
  else
  K_4 v2_4 (v3_4 + 1))
def f_X2_crackingIn (o : Nat) (p1 : Int32) (M : Mem) : Option Int32 :=
  lq2 (L_X2_crackingIn_4 o p1 M) FU 0 0
def L_X2_sorestZone_6 (o : Nat) (M : Mem) : (Int32 → Int32 → Int32 → Option Int32) → Int32 → Int32 → Int32 → Option Int32 := fun K_6 v1_6 v2_6 v3_6 =>
  if (M.1 (rC o 1) 6) ≤ v3_6 then
  some v1_6
  else
  bnd (f_X2_crackingIn o v3_6 M) (fun r2 =>
  if r2 ≤ v2_6 then
  K_6 v1_6 v2_6 (v3_6 + 1)
  else
  K_6 v3_6 r2 (v3_6 + 1))
def f_X2_sorestZone (o : Nat) (M : Mem) : Option Int32 :=
  lq3 (L_X2_sorestZone_6 o M) FU (-1) 0 0
def L_X2_countOfReason_4 (o : Nat) (p1 : Int32) (M : Mem) : (Int32 → Int32 → Option Int32) → Int32 → Int32 → Option Int32 := fun K_4 v2_4 v3_4 =>
  if (M.1 (rC o 1) 7) ≤ v3_4 then
  some v2_4
  else
  if oob v3_4 6 = true then none else
  if (M.1 (rC o 7) (ix v3_4)) = p1 then
  K_4 (v2_4 + 1) (v3_4 + 1)
  else
  K_4 v2_4 (v3_4 + 1)
def f_X2_countOfReason (o : Nat) (p1 : Int32) (M : Mem) : Option Int32 :=
  lq2 (L_X2_countOfReason_4 o p1 M) FU 0 0
def L_X2_tenseSteps_4 (o : Nat) (p1 : Int32) (M : Mem) : (Int32 → Int32 → Option Int32) → Int32 → Int32 → Option Int32 := fun K_4 v2_4 v3_4 =>
  if (M.1 (rC o 1) 1) < v3_4 then
  some v2_4
  else
  bnd (f_X5_hasCome (rC o 1) p1 v3_4 M) (fun r2 =>
  if r2 = 0 then
  K_4 v2_4 (v3_4 + 1)
  else
  bnd (f_X2_skinAt o p1 v3_4 M) (fun r5 =>
  bnd (f_X2_valueAt o (1 : Int32) p1 v3_4 M) (fun r7 =>
  if r7 ≤ r5 then
  K_4 v2_4 (v3_4 + 1)
  else
  K_4 (v2_4 + 1) (v3_4 + 1))))
def f_X2_tenseSteps (o : Nat) (p1 : Int32) (M : Mem) : Option Int32 :=
  lq2 (L_X2_tenseSteps_4 o p1 M) FU 0 0
def L_X2_warmingSteps_4 (o : Nat) (p1 : Int32) (M : Mem) : (Int32 → Int32 → Option Int32) → Int32 → Int32 → Option Int32 := fun K_4 v2_4 v3_4 =>
  if (M.1 (rC o 1) 1) ≤ v3_4 then
  some v2_4
  else
  bnd (f_X2_skinFall o p1 v3_4 M) (fun r2 =>
  if (0 : Int32) ≤ r2 then
  K_4 v2_4 (v3_4 + 1)
  else
  K_4 (v2_4 + 1) (v3_4 + 1))
def f_X2_warmingSteps (o : Nat) (p1 : Int32) (M : Mem) : Option Int32 :=
  lq2 (L_X2_warmingSteps_4 o p1 M) FU 0 0
def L_X2_firstStepAtMost_2 (o : Nat) (p1 : Int32) (p2 : Int32) (M : Mem) : (Int32 → Option Int32) → Int32 → Option Int32 := fun K_2 v3_2 =>
  if (M.1 (rC o 1) 1) < v3_2 then
  some (-1)
  else
  bnd (f_X5_hasCome (rC o 1) p1 v3_2 M) (fun r2 =>
  if r2 = 0 then
  K_2 (v3_2 + 1)
  else
  bnd (f_X2_skinAt o p1 v3_2 M) (fun r5 =>
  if p2 < r5 then
  K_2 (v3_2 + 1)
  else
  some v3_2))
def f_X2_firstStepAtMost (o : Nat) (p1 : Int32) (p2 : Int32) (M : Mem) : Option Int32 :=
  lq1 (L_X2_firstStepAtMost_2 o p1 p2 M) FU 0
def L_X2_stillFrom_8 (o : Nat) (p1 : Int32) (M : Mem) : (Int32 → Option Int32) → Int32 → Option Int32 := fun K_8 v2_8 =>
  if v2_8 ≤ 0 then
  some v2_8
  else
  bnd (f_X2_skinAt o p1 (v2_8 - (1 : Int32)) M) (fun r3 =>
  bnd (f_X2_skinAt o p1 (M.1 (rC o 1) 1) M) (fun r5 =>
  if r3 = r5 then
  K_8 (v2_8 + (-1))
  else
  some v2_8))
def f_X2_stillFrom (o : Nat) (p1 : Int32) (M : Mem) : Option Int32 :=
  letv (M.1 (rC o 1) 1) (fun x1 =>
  lq1 (L_X2_stillFrom_8 o p1 M) FU x1)
def L_X2_leastSkin_4 (o : Nat) (p1 : Int32) (M : Mem) : (Int32 → Int32 → Option Int32) → Int32 → Int32 → Option Int32 := fun K_4 v2_4 v3_4 =>
  if (M.1 (rC o 1) 1) < v3_4 then
  some v2_4
  else
  bnd (f_X2_skinAt o p1 v3_4 M) (fun r2 =>
  bnd (f_X5_hasCome (rC o 1) p1 v3_4 M) (fun r4 =>
  if r4 = 0 then
  K_4 v2_4 (v3_4 + 1)
  else
  if v2_4 = (-1) then
  K_4 r2 (v3_4 + 1)
  else
  if v2_4 ≤ r2 then
  K_4 v2_4 (v3_4 + 1)
  else
  K_4 r2 (v3_4 + 1)))
def f_X2_leastSkin (o : Nat) (p1 : Int32) (M : Mem) : Option Int32 :=
  lq2 (L_X2_leastSkin_4 o p1 M) FU (-1) 0
def L_X2_chillStep_7 (o : Nat) (p1 : Int32) (M : Mem) : (Int32 → Int32 → Int32 → Option Int32) → Int32 → Int32 → Int32 → Option Int32 := fun K_7 v2_7 v3_7 v4_7 =>
  if (M.1 (rC o 1) 1) ≤ v4_7 then
  some v2_7
  else
  bnd (f_X2_skinFall o p1 v4_7 M) (fun r2 =>
  if r2 ≤ v3_7 then
  K_7 v2_7 v3_7 (v4_7 + 1)
  else
  bnd (f_X2_skinFall o p1 v4_7 M) (fun r5 =>
  K_7 v4_7 r5 (v4_7 + 1)))
def f_X2_chillStep (o : Nat) (p1 : Int32) (M : Mem) : Option Int32 :=
  lq3 (L_X2_chillStep_7 o p1 M) FU (-1) 0 0
def L_X2_strainedSteps_17 (o : Nat) (p1 : Int32) (M : Mem) : (Int32 → Int32 → Option Int32) → Int32 → Int32 → Option Int32 := fun K_17 v2_17 v3_17 =>
  if (M.1 (rC o 1) 1) < v3_17 then
  some v2_17
  else
  bnd (f_X2_strainAt o p1 v3_17 M) (fun r3 =>
  if oob p1 6 = true then none else
  if r3 ≤ ((M.1 (rC (rC o 1) 11) (ix p1)) / 2) then
  K_17 v2_17 (v3_17 + 1)
  else
  K_17 (v2_17 + 1) (v3_17 + 1))
def f_X2_strainedSteps (o : Nat) (p1 : Int32) (M : Mem) : Option Int32 :=
  if (f_X5_hasPiece (rC o 1) p1 M) = 0 then
  some 0
  else
  lq2 (L_X2_strainedSteps_17 o p1 M) FU 0 0
def f_X7_make (o : Nat) (p1 : Int32) (p2 : Int32) (M : Mem) : Option Mem :=
  letv (st M o 0 1) (fun M1 =>
  letv (st M1 o 1 p1) (fun M2 =>
  letv (st M2 o 2 (f_max 0 (f_min p2 60))) (fun M3 =>
  bnd (f_J7_fill_d0a16 (rC o 3) (0 : Int64) 60 M3) (fun M6 =>
  some M6))))
def f_X7_cutToWidth (o : Nat) (p1 : Int64) (M : Mem) : Int64 :=
  if (M.1 o 1) = 0 then
  ((((((p1 : Int64).toInt32) : Int32).toInt8.toInt32) : Int32).toInt64)
  else
  if (M.1 o 1) = 1 then
  ((((((p1 : Int64).toInt32) : Int32).toInt16.toInt32) : Int32).toInt64)
  else
  if (M.1 o 1) = 2 then
  ((((p1 : Int64).toInt32) : Int32).toInt64)
  else
  p1
def f_X7_put (o : Nat) (p1 : Int32) (p2 : Int64) (M : Mem) : Option (Int32 × Mem) :=
  if p1 < 0 then
  some (0, M)
  else
  if (M.1 o 2) ≤ p1 then
  some (0, M)
  else
  if p1 < 60 then
  if oob p1 60 = true then none else
  letv (stL M (rC o 3) (ix p1) (f_X7_cutToWidth o p2 M)) (fun M4 =>
  some (1, M4))
  else
  some (0, M)
def f_X7_holds (o : Nat) (p1 : Int32) (p2 : Int32) (M : Mem) : Int32 :=
  if p1 < 0 then
  0
  else
  if p2 < 0 then
  0
  else
  if (0 : Int32) < (lg_cmp (((p1 : Int32).toInt64) + ((p2 : Int32).toInt64)) (((M.1 o 2) : Int32).toInt64)) then
  0
  else
  1
def L_X7_tellsSkins_13 (o : Nat) (p1 : Nat) (M : Mem) : (Int32 → Option Int32) → Int32 → Option Int32 := fun K_13 v2_13 =>
  if (M.1 o 2) ≤ (v2_13 + (2 : Int32)) then
  some 1
  else
  if oob (v2_13 + (2 : Int32)) 60 = true then none else
  letv (M.2 (rC o 3) (ix (v2_13 + (2 : Int32)))) (fun x4 =>
  if oob v2_13 60 = true then none else
  if (lg_cmp (M.2 (rC o 3) (ix v2_13)) 0) < 0 then
  some 0
  else
  if oob v2_13 60 = true then none else
  if (0 : Int32) ≤ (lg_cmp (M.2 (rC o 3) (ix v2_13)) (((M.1 p1 7) : Int32).toInt64)) then
  some 0
  else
  if oob (v2_13 + (1 : Int32)) 60 = true then none else
  if (lg_cmp (M.2 (rC o 3) (ix (v2_13 + (1 : Int32)))) 0) < 0 then
  some 0
  else
  if oob (v2_13 + (1 : Int32)) 60 = true then none else
  if (0 : Int32) < (lg_cmp (M.2 (rC o 3) (ix (v2_13 + (1 : Int32)))) (((M.1 p1 1) : Int32).toInt64)) then
  some 0
  else
  if (lg_cmp x4 0) < 0 then
  some 0
  else
  if (lg_cmp x4 100000) ≤ 0 then
  K_13 (v2_13 + 3)
  else
  some 0)
def f_X7_tellsSkins (o : Nat) (p1 : Nat) (M : Mem) : Option Int32 :=
  if ((M.1 o 2) - (M.1 o 2) / 3 * 3) = 0 then
  lq1 (L_X7_tellsSkins_13 o p1 M) FU 0
  else
  some 0
def L_X7_piecesTold_4 (o : Nat) (M : Mem) : (Int32 → Int32 → Option Int32) → Int32 → Int32 → Option Int32 := fun K_4 v1_4 v2_4 =>
  if (M.1 o 2) ≤ (v2_4 + (2 : Int32)) then
  some v1_4
  else
  if oob v2_4 60 = true then none else
  letv (v1_4 ||| ((1 : Int32) <<< ((((M.2 (rC o 3) (ix v2_4)) : Int64).toInt32) &&& 31))) (fun x3 =>
  K_4 x3 (v2_4 + 3))
def f_X7_piecesTold (o : Nat) (M : Mem) : Option Int32 :=
  lq2 (L_X7_piecesTold_4 o M) FU 0 0
def L_X7_lastStepTold_4 (o : Nat) (M : Mem) : (Int32 → Int32 → Option Int32) → Int32 → Int32 → Option Int32 := fun K_4 v1_4 v2_4 =>
  if (M.1 o 2) ≤ (v2_4 + (2 : Int32)) then
  some v1_4
  else
  if oob (v2_4 + (1 : Int32)) 60 = true then none else
  letv (f_max v1_4 (((M.2 (rC o 3) (ix (v2_4 + (1 : Int32)))) : Int64).toInt32)) (fun x3 =>
  K_4 x3 (v2_4 + 3))
def f_X7_lastStepTold (o : Nat) (M : Mem) : Option Int32 :=
  lq2 (L_X7_lastStepTold_4 o M) FU 0 0
def L_X7_agreesWith_2 (o : Nat) (p1 : Nat) (M : Mem) : (Int32 → Option Int32) → Int32 → Option Int32 := fun K_2 v2_2 =>
  if (M.1 o 2) ≤ (v2_2 + (2 : Int32)) then
  some 1
  else
  if oob v2_2 60 = true then none else
  if oob (v2_2 + (1 : Int32)) 60 = true then none else
  bnd (f_X2_skinAt p1 (((M.2 (rC o 3) (ix v2_2)) : Int64).toInt32) (((M.2 (rC o 3) (ix (v2_2 + (1 : Int32)))) : Int64).toInt32) M) (fun r4 =>
  if oob (v2_2 + (2 : Int32)) 60 = true then none else
  if (lg_cmp ((r4 : Int32).toInt64) (M.2 (rC o 3) (ix (v2_2 + (2 : Int32))))) = 0 then
  K_2 (v2_2 + 3)
  else
  some 0)
def f_X7_agreesWith (o : Nat) (p1 : Nat) (M : Mem) : Option Int32 :=
  lq1 (L_X7_agreesWith_2 o p1 M) FU 0
def J_X4_weightOf_32 (p1 : Int32) (p2 : Int32) (M : Mem) (K_5 : Int64 → Int32 → Option Int64) (v3_32 : Int64) (v5_32 : Int32) (w0_32 : Int32) : Option Int64 :=
  if w0_32 = 0 then
  letv (v3_32 * ((((10 : Int32) - (M.1 14 3)) : Int32).toInt64)) (fun x5 =>
  K_5 x5 (v5_32 + 1))
  else
  letv (v3_32 * (((M.1 14 3) : Int32).toInt64)) (fun x6 =>
  K_5 x6 (v5_32 + 1))
def L_X4_weightOf_5 (p1 : Int32) (p2 : Int32) (M : Mem) : (Int64 → Int32 → Option Int64) → Int64 → Int32 → Option Int64 := fun K_5 v3_5 v5_5 =>
  if p2 ≤ v5_5 then
  some v3_5
  else
  if (14 : Int32) ≤ v5_5 then
  some v3_5
  else
  if ((p1 >>> (v5_5 &&& 31)) &&& (1 : Int32)) = 0 then
  J_X4_weightOf_32 p1 p2 M K_5 v3_5 v5_5 0
  else
  J_X4_weightOf_32 p1 p2 M K_5 v3_5 v5_5 1
def f_X4_weightOf (p1 : Int32) (p2 : Int32) (M : Mem) : Option Int64 :=
  lq2 (L_X4_weightOf_5 p1 p2 M) FU 1 0
def L_X4_meanUncracked_38 (p1 : Int32) (p2 : Int32) (v5_38 : Int64) : (Int64 → Int32 → Mem → Option Mem) → Int64 → Int32 → Mem → Option Mem := fun K_38 v3_38 v7_38 M_38 =>
  if ((1 : Int32) <<< ((f_min p2 14) &&& 31)) ≤ v7_38 then
  bnd (f_X3_put 58 v3_38 v5_38 M_38) (fun M5 =>
  some M5)
  else
  bnd (f_X4_weightOf v7_38 p2 M_38) (fun r6 =>
  if (lg_cmp r6 0) ≤ 0 then
  K_38 v3_38 (v7_38 + 1) M_38
  else
  bnd (f_X2_follow 59 v7_38 p2 p1 M_38) (fun M11 =>
  bnd (f_X2_uncrackedAt 59 p2 M11) (fun r12 =>
  letv (v3_38 + (r6 * (((f_J6_bitCount_0f7a4 (r12 &&& p1)) : Int32).toInt64))) (fun x14 =>
  K_38 x14 (v7_38 + 1) M11))))
def L_X4_meanUncracked_8 (p1 : Int32) (p2 : Int32) (v3_8 : Int64) : (Int64 → Int32 → Mem → Option Mem) → Int64 → Int32 → Mem → Option Mem := fun K_8 v5_8 v7_8 M_8 =>
  if p2 ≤ v7_8 then
  lq3 (L_X4_meanUncracked_38 p1 p2 v5_8) FU v3_8 0 M_8
  else
  if (14 : Int32) ≤ v7_8 then
  lq3 (L_X4_meanUncracked_38 p1 p2 v5_8) FU v3_8 0 M_8
  else
  letv (v5_8 * (10 : Int64)) (fun x16 =>
  K_8 x16 (v7_8 + 1) M_8)
def f_X4_meanUncracked (p1 : Int32) (p2 : Int32) (M : Mem) : Option Mem :=
  lq3 (L_X4_meanUncracked_8 p1 p2 0) FU 1 0 M
def L_X4_draughtsFrom_8 (p1 : Int64) (M : Mem) : (Int64 → Int32 → Int32 → Option Int32) → Int64 → Int32 → Int32 → Option Int32 := fun K_8 v3_8 v5_8 v6_8 =>
  if (M.1 14 1) ≤ v6_8 then
  some v5_8
  else
  if (14 : Int32) ≤ v6_8 then
  some v5_8
  else
  letv ((((1103515245 : Int64) * v3_8) + (12345 : Int64)) - (((1103515245 : Int64) * v3_8) + (12345 : Int64)) / 2147483648 * 2147483648) (fun x3 =>
  if (0 : Int32) ≤ (lg_cmp ((x3 / 65536) - (x3 / 65536) / 10 * 10) (((M.1 14 3) : Int32).toInt64)) then
  K_8 x3 v5_8 (v6_8 + 1)
  else
  letv (v5_8 ||| ((1 : Int32) <<< (v6_8 &&& 31))) (fun x5 =>
  K_8 x3 x5 (v6_8 + 1)))
def f_X4_draughtsFrom (p1 : Int64) (M : Mem) : Option Int32 :=
  lq3 (L_X4_draughtsFrom_8 p1 M) FU p1 0 0
def f_X4_soundFrom (p1 : Int64) (M : Mem) : Option (Int32 × Mem) :=
  bnd (f_X4_draughtsFrom p1 M) (fun r1 =>
  bnd (f_X2_follow 59 r1 (M.1 14 1) (63 : Int32) M) (fun M5 =>
  bnd (f_X2_neverCracked 59 M5) (fun r6 =>
  some (r6, M5))))
def L_X4_timesSound_6 (p1 : Int32) (p2 : Int32) (p3 : Int32) : (Int32 → Int32 → Mem → Option (Int32 × Mem)) → Int32 → Int32 → Mem → Option (Int32 × Mem) := fun K_6 v4_6 v5_6 M_6 =>
  if p2 ≤ v5_6 then
  some (v4_6, M_6)
  else
  if (20 : Int32) ≤ v5_6 then
  some (v4_6, M_6)
  else
  bnd (f_X4_draughtsFrom (((p1 : Int32).toInt64) + ((v5_6 : Int32).toInt64)) M_6) (fun r3 =>
  bnd (f_X2_follow 59 r3 (M_6.1 14 1) ((1 : Int32) <<< (p3 &&& 31)) M_6) (fun M7 =>
  bnd (f_X2_neverCracked 59 M7) (fun r8 =>
  if ((r8 >>> (p3 &&& 31)) &&& (1 : Int32)) = 0 then
  K_6 v4_6 (v5_6 + 1) M7
  else
  K_6 (v4_6 + 1) (v5_6 + 1) M7)))
def f_X4_timesSound (p1 : Int32) (p2 : Int32) (p3 : Int32) (M : Mem) : Option (Int32 × Mem) :=
  lq3 (L_X4_timesSound_6 p1 p2 p3) FU 0 0 M
def f_X9_soundBits (M : Mem) : Option (Int32 × Mem) :=
  bnd (f_X2_follow 49 (0 : Int32) (M.1 35 1) (63 : Int32) M) (fun M3 =>
  bnd (f_X2_neverCracked 49 M3) (fun r4 =>
  some (r4, M3)))
def f_X9_soundCount (M : Mem) : Option (Int32 × Mem) :=
  bnd (f_X2_follow 49 (0 : Int32) (M.1 35 1) (63 : Int32) M) (fun M3 =>
  bnd (f_X2_neverCracked 49 M3) (fun r4 =>
  some ((f_J6_bitCount_0f7a4 r4), M3)))
def f_X9_isSound (p1 : Int32) (M : Mem) : Option (Int32 × Mem) :=
  bnd (f_X2_follow 49 (0 : Int32) (M.1 35 1) ((1 : Int32) <<< (p1 &&& 31)) M) (fun M3 =>
  bnd (f_X2_neverCracked 49 M3) (fun r4 =>
  if ((r4 >>> (p1 &&& 31)) &&& (1 : Int32)) = 0 then
  some (0, M3)
  else
  some (1, M3)))
def f_X9_strengthFor (p1 : Int32) (M : Mem) : Option (Int32 × Mem) :=
  bnd (f_X1_copyFrom 34 13 M) (fun M3 =>
  if (f_X5_hasPiece 35 p1 M3) = 0 then
  some (0, M3)
  else
  if oob p1 6 = true then none else
  letv (st M3 39 (ix p1) 1000000) (fun M5 =>
  bnd (f_X2_follow 49 (0 : Int32) (M5.1 35 1) ((1 : Int32) <<< (p1 &&& 31)) M5) (fun M9 =>
  bnd (f_X2_peakOf 49 p1 M9) (fun r10 =>
  bnd (f_X5_leavingStep 35 p1 M9) (fun r12 =>
  if r12 = (-1) then
  some (r10, M9)
  else
  if oob p1 6 = true then none else
  letv (f_max r10 ((2 : Int32) * (M9.1 55 (ix p1)))) (fun x16 =>
  some (x16, M9)))))))
def L_X9_greatestThick_30 (p1 : Int32) : (Int32 → Mem → Option (Int32 × Mem)) → Int32 → Mem → Option (Int32 × Mem) := fun K_30 v2_30 M_30 =>
  if v2_30 < 1 then
  some ((-1), M_30)
  else
  if oob p1 6 = true then none else
  letv (st M_30 38 (ix p1) v2_30) (fun M6 =>
  bnd2 (f_X9_isSound p1 M6) (fun r8 M10 =>
  if r8 = 0 then
  K_30 (v2_30 + (-1)) M10
  else
  some (v2_30, M10)))
def f_X9_greatestThick (p1 : Int32) (M : Mem) : Option (Int32 × Mem) :=
  bnd (f_X1_copyFrom 34 13 M) (fun M3 =>
  if (f_X5_hasPiece 35 p1 M3) = 0 then
  some ((-1), M3)
  else
  lq2 (L_X9_greatestThick_30 p1) FU 9 M3)
def f_X9_soundByPace (p1 : Int32) (M : Mem) : Option (Int32 × Mem) :=
  bnd (f_X1_copyFrom 34 13 M) (fun M3 =>
  letv (st M3 35 4 p1) (fun M4 =>
  bnd2 (f_X9_soundCount M4) (fun r5 M7 =>
  some (r5, M7))))
def L_X9_bestPace_10 : (Int32 → Int32 → Int32 → Mem → Option (Int32 × Mem)) → Int32 → Int32 → Int32 → Mem → Option (Int32 × Mem) := fun K_10 v1_10 v2_10 v3_10 M_10 =>
  if (6 : Int32) < v3_10 then
  some (v1_10, M_10)
  else
  bnd2 (f_X9_soundByPace v3_10 M_10) (fun r5 M7 =>
  if r5 ≤ v2_10 then
  K_10 v1_10 v2_10 (v3_10 + 1) M7
  else
  K_10 v3_10 r5 (v3_10 + 1) M7)
def f_X9_bestPace (M : Mem) : Option (Int32 × Mem) :=
  bnd2 (f_X9_soundByPace (1 : Int32) M) (fun r1 M3 =>
  lq4 (L_X9_bestPace_10) FU 1 r1 2 M3)
def L_X9_leastRaise_30 (p1 : Int32) (p2 : Int32) (p3 : Int32) : (Int32 → Mem → Option (Int32 × Mem)) → Int32 → Mem → Option (Int32 × Mem) := fun K_30 v4_30 M_30 =>
  if p3 < v4_30 then
  some ((-1), M_30)
  else
  if oob p1 7 = true then none else
  if oob p1 7 = true then none else
  letv (st M_30 36 (ix p1) ((M_30.1 15 (ix p1)) + v4_30)) (fun M7 =>
  bnd2 (f_X9_isSound p2 M7) (fun r9 M11 =>
  if r9 = 0 then
  K_30 (v4_30 + 1) M11
  else
  some (v4_30, M11)))
def f_X9_leastRaise (p1 : Int32) (p2 : Int32) (p3 : Int32) (M : Mem) : Option (Int32 × Mem) :=
  bnd (f_X1_copyFrom 34 13 M) (fun M3 =>
  if (f_X5_hasZone 35 p1 M3) = 0 then
  some ((-1), M3)
  else
  lq2 (L_X9_leastRaise_30 p1 p2 p3) FU 0 M3)
def L_X9_bestZoneFor_9 (p1 : Int32) : (Int32 → Int32 → Int32 → Mem → Option (Int32 × Mem)) → Int32 → Int32 → Int32 → Mem → Option (Int32 × Mem) := fun K_9 v2_9 v3_9 v4_9 M_9 =>
  if (M_9.1 14 6) ≤ v4_9 then
  some (v2_9, M_9)
  else
  bnd2 (f_X9_leastRaise v4_9 p1 (v3_9 - (1 : Int32)) M_9) (fun r2 M4 =>
  if r2 = (-1) then
  K_9 v2_9 v3_9 (v4_9 + 1) M4
  else
  K_9 v4_9 r2 (v4_9 + 1) M4)
def f_X9_bestZoneFor (p1 : Int32) (M : Mem) : Option (Int32 × Mem) :=
  lq4 (L_X9_bestZoneFor_9 p1) FU (-1) 201 0 M
def L_X9_bestSwap_39 (K_20 : Int32 → Int32 → Int32 → Mem → Option (Int32 × Mem)) (v3_39 : Int32) : (Int32 → Int32 → Int32 → Mem → Option (Int32 × Mem)) → Int32 → Int32 → Int32 → Mem → Option (Int32 × Mem) := fun K_39 v1_39 v2_39 v4_39 M_39 =>
  if (M_39.1 35 6) ≤ v4_39 then
  K_20 v1_39 v2_39 (v3_39 + 1) M_39
  else
  bnd (f_X5_changeOver 35 v3_39 v4_39 M_39) (fun M12 =>
  bnd2 (f_X9_soundCount M12) (fun r13 M15 =>
  bnd (f_X5_changeOver 35 v3_39 v4_39 M15) (fun M18 =>
  if r13 ≤ v2_39 then
  K_39 v1_39 v2_39 (v4_39 + 1) M18
  else
  letv (((10 : Int32) * v3_39) + v4_39) (fun x20 =>
  K_39 x20 r13 (v4_39 + 1) M18))))
def L_X9_bestSwap_20 : (Int32 → Int32 → Int32 → Mem → Option (Int32 × Mem)) → Int32 → Int32 → Int32 → Mem → Option (Int32 × Mem) := fun K_20 v1_20 v2_20 v3_20 M_20 =>
  if (M_20.1 35 6) ≤ v3_20 then
  some (v1_20, M_20)
  else
  letv (v3_20 + (1 : Int32)) (fun x8 =>
  lq4 (L_X9_bestSwap_39 K_20 v3_20) FU v1_20 v2_20 x8 M_20)
def f_X9_bestSwap (M : Mem) : Option (Int32 × Mem) :=
  bnd (f_X1_copyFrom 34 13 M) (fun M3 =>
  bnd2 (f_X9_soundCount M3) (fun r4 M6 =>
  lq4 (L_X9_bestSwap_20) FU (-1) r4 0 M6))
def L_X9_bestSkip_20 : (Int32 → Int32 → Int32 → Mem → Option (Int32 × Mem)) → Int32 → Int32 → Int32 → Mem → Option (Int32 × Mem) := fun K_20 v1_20 v2_20 v3_20 M_20 =>
  if (M_20.1 14 6) ≤ v3_20 then
  some (v1_20, M_20)
  else
  bnd (f_X1_copyFrom 34 13 M_20) (fun M10 =>
  bnd (f_X1_leaveOut 34 v3_20 M10) (fun M13 =>
  bnd2 (f_X9_soundCount M13) (fun r14 M16 =>
  if r14 ≤ v2_20 then
  K_20 v1_20 v2_20 (v3_20 + 1) M16
  else
  K_20 v3_20 r14 (v3_20 + 1) M16)))
def f_X9_bestSkip (M : Mem) : Option (Int32 × Mem) :=
  bnd (f_X1_copyFrom 34 13 M) (fun M3 =>
  bnd2 (f_X9_soundCount M3) (fun r4 M6 =>
  lq4 (L_X9_bestSkip_20) FU (-1) r4 0 M6))
def f_X9_agrees (p1 : Nat) (M : Mem) : Option (Int32 × Mem) :=
  bnd (f_X7_lastStepTold p1 M) (fun r1 =>
  bnd (f_X7_piecesTold p1 M) (fun r3 =>
  bnd (f_X2_follow 49 (0 : Int32) r1 r3 M) (fun M7 =>
  bnd (f_X7_agreesWith p1 49 M7) (fun r8 =>
  some (r8, M7)))))
def f_X9_agreesByAir (p1 : Nat) (p2 : Int32) (p3 : Int32) (M : Mem) : Option (Int32 × Mem) :=
  if (f_X5_hasZone 35 p2 M) = 0 then
  some (0, M)
  else
  if oob p2 7 = true then none else
  letv (st M 36 (ix p2) p3) (fun M2 =>
  bnd2 (f_X9_agrees p1 M2) (fun r4 M6 =>
  some (r4, M6)))
def L_X9_countOfAirs_16 (p1 : Nat) (p2 : Int32) : (Int32 → Int32 → Mem → Option (Int32 × Mem)) → Int32 → Int32 → Mem → Option (Int32 × Mem) := fun K_16 v3_16 v4_16 M_16 =>
  if (600 : Int32) < v4_16 then
  some (v3_16, M_16)
  else
  bnd2 (f_X9_agreesByAir p1 p2 v4_16 M_16) (fun r5 M7 =>
  if r5 = 0 then
  K_16 v3_16 (v4_16 + 1) M7
  else
  K_16 (v3_16 + 1) (v4_16 + 1) M7)
def f_X9_countOfAirs (p1 : Nat) (p2 : Int32) (M : Mem) : Option (Int32 × Mem) :=
  bnd (f_X1_copyFrom 34 13 M) (fun M3 =>
  lq3 (L_X9_countOfAirs_16 p1 p2) FU 0 0 M3)
def L_X9_lowestAir_13 (p1 : Nat) (p2 : Int32) : (Int32 → Mem → Option (Int32 × Mem)) → Int32 → Mem → Option (Int32 × Mem) := fun K_13 v3_13 M_13 =>
  if (600 : Int32) < v3_13 then
  some ((-1), M_13)
  else
  bnd2 (f_X9_agreesByAir p1 p2 v3_13 M_13) (fun r5 M7 =>
  if r5 = 0 then
  K_13 (v3_13 + 1) M7
  else
  some (v3_13, M7))
def f_X9_lowestAir (p1 : Nat) (p2 : Int32) (M : Mem) : Option (Int32 × Mem) :=
  bnd (f_X1_copyFrom 34 13 M) (fun M3 =>
  lq2 (L_X9_lowestAir_13 p1 p2) FU 0 M3)
def L_X9_highestAir_15 (p1 : Nat) (p2 : Int32) : (Int32 → Mem → Option (Int32 × Mem)) → Int32 → Mem → Option (Int32 × Mem) := fun K_15 v3_15 M_15 =>
  if v3_15 < 0 then
  some ((-1), M_15)
  else
  bnd2 (f_X9_agreesByAir p1 p2 v3_15 M_15) (fun r5 M7 =>
  if r5 = 0 then
  K_15 (v3_15 + (-1)) M7
  else
  some (v3_15, M7))
def f_X9_highestAir (p1 : Nat) (p2 : Int32) (M : Mem) : Option (Int32 × Mem) :=
  bnd (f_X1_copyFrom 34 13 M) (fun M3 =>
  lq2 (L_X9_highestAir_15 p1 p2) FU 600 M3)
def L_X9_thicksSeen_32 (p1 : Nat) (p2 : Int32) : (Int32 → Int32 → Mem → Option (Int32 × Mem)) → Int32 → Int32 → Mem → Option (Int32 × Mem) := fun K_32 v3_32 v4_32 M_32 =>
  if (9 : Int32) < v4_32 then
  some (v3_32, M_32)
  else
  if oob p2 6 = true then none else
  letv (st M_32 38 (ix p2) v4_32) (fun M6 =>
  bnd2 (f_X9_agrees p1 M6) (fun r8 M10 =>
  if r8 = 0 then
  K_32 v3_32 (v4_32 + 1) M10
  else
  letv (v3_32 ||| ((1 : Int32) <<< (v4_32 &&& 31))) (fun x12 =>
  K_32 x12 (v4_32 + 1) M10)))
def f_X9_thicksSeen (p1 : Nat) (p2 : Int32) (M : Mem) : Option (Int32 × Mem) :=
  bnd (f_X1_copyFrom 34 13 M) (fun M3 =>
  if (f_X5_hasPiece 35 p2 M3) = 0 then
  some (0, M3)
  else
  lq3 (L_X9_thicksSeen_32 p1 p2) FU 0 1 M3)
def L_X9_lawsSeen_15 (p1 : Nat) : (Int32 → Int32 → Mem → Option (Int32 × Mem)) → Int32 → Int32 → Mem → Option (Int32 × Mem) := fun K_15 v2_15 v3_15 M_15 =>
  if (4 : Int32) ≤ v3_15 then
  some (v2_15, M_15)
  else
  letv (st M_15 35 2 v3_15) (fun M5 =>
  bnd2 (f_X9_agrees p1 M5) (fun r6 M8 =>
  if r6 = 0 then
  K_15 v2_15 (v3_15 + 1) M8
  else
  letv (v2_15 ||| ((1 : Int32) <<< (v3_15 &&& 31))) (fun x10 =>
  K_15 x10 (v3_15 + 1) M8)))
def f_X9_lawsSeen (p1 : Nat) (M : Mem) : Option (Int32 × Mem) :=
  bnd (f_X1_copyFrom 34 13 M) (fun M3 =>
  lq3 (L_X9_lawsSeen_15 p1) FU 0 0 M3)
def f_X9_soundBitsByLaw (p1 : Int32) (M : Mem) : Option (Int32 × Mem) :=
  bnd (f_X1_copyFrom 34 13 M) (fun M3 =>
  letv (st M3 35 2 p1) (fun M4 =>
  bnd2 (f_X9_soundBits M4) (fun r5 M7 =>
  some (r5, M7))))
def L_X9_bestLaw_13 : (Int32 → Int32 → Int32 → Mem → Option (Int32 × Mem)) → Int32 → Int32 → Int32 → Mem → Option (Int32 × Mem) := fun K_13 v1_13 v2_13 v3_13 M_13 =>
  if (4 : Int32) ≤ v3_13 then
  some (v1_13, M_13)
  else
  bnd2 (f_X9_soundBitsByLaw v3_13 M_13) (fun r6 M8 =>
  letv (f_J6_bitCount_0f7a4 r6) (fun x9 =>
  if x9 ≤ v2_13 then
  K_13 v1_13 v2_13 (v3_13 + 1) M8
  else
  K_13 v3_13 x9 (v3_13 + 1) M8))
def f_X9_bestLaw (M : Mem) : Option (Int32 × Mem) :=
  bnd2 (f_X9_soundBitsByLaw (0 : Int32) M) (fun r1 M3 =>
  letv (f_J6_bitCount_0f7a4 r1) (fun x4 =>
  lq4 (L_X9_bestLaw_13) FU 0 x4 1 M3))
def L_X9_worthOf_13 (p1 : Int32) : (Int32 → Mem → Option (Int32 × Mem)) → Int32 → Mem → Option (Int32 × Mem) := fun K_13 v2_13 M_13 =>
  if (M_13.1 35 6) ≤ v2_13 then
  bnd2 (f_X9_soundCount M_13) (fun r5 M7 =>
  some (r5, M7))
  else
  if ((p1 >>> (v2_13 &&& 31)) &&& (1 : Int32)) = 0 then
  if oob v2_13 7 = true then none else
  letv (st M_13 36 (ix v2_13) 0) (fun M9 =>
  K_13 (v2_13 + 1) M9)
  else
  K_13 (v2_13 + 1) M_13
def f_X9_worthOf (p1 : Int32) (M : Mem) : Option (Int32 × Mem) :=
  bnd (f_X1_copyFrom 34 13 M) (fun M3 =>
  lq2 (L_X9_worthOf_13 p1) FU 0 M3)
def L_X9_ordersOf_4 (p0 : Int32) (M : Mem) : (Int64 → Int32 → Option Int64) → Int64 → Int32 → Option Int64 := fun K_4 v1_4 v3_4 =>
  if p0 < v3_4 then
  some v1_4
  else
  if (7 : Int32) < v3_4 then
  some v1_4
  else
  letv (v1_4 * ((v3_4 : Int32).toInt64)) (fun x3 =>
  K_4 x3 (v3_4 + 1))
def f_X9_ordersOf (p0 : Int32) (M : Mem) : Option Int64 :=
  lq2 (L_X9_ordersOf_4 p0 M) FU 1 2
def L_X9_shareOf_62 (p1 : Int32) (v2_62 : Int32) (v3_62 : Int32) (v4_62 : Int32) : (Int64 → Int32 → Mem → Option Mem) → Int64 → Int32 → Mem → Option Mem := fun K_62 v5_62 v7_62 M_62 =>
  if v3_62 ≤ v7_62 then
  bnd (f_X9_ordersOf v2_62 M_62) (fun r6 =>
  bnd (f_X3_put 46 v5_62 r6 M_62) (fun M10 =>
  some M10))
  else
  if (v7_62 &&& v4_62) = 0 then
  if v3_62 ≤ (v7_62 ||| v4_62) then
  K_62 v5_62 (v7_62 + 1) M_62
  else
  letv (f_J6_bitCount_0f7a4 v7_62) (fun x13 =>
  bnd (f_X9_ordersOf x13 M_62) (fun r14 =>
  bnd (f_X9_ordersOf ((v2_62 - (1 : Int32)) - x13) M_62) (fun r16 =>
  letv (r14 * r16) (fun x18 =>
  if oob (v7_62 ||| v4_62) 128 = true then none else
  if oob v7_62 128 = true then none else
  letv (v5_62 + (x18 * ((((M_62.1 47 (ix (v7_62 ||| v4_62))) - (M_62.1 47 (ix v7_62))) : Int32).toInt64))) (fun x21 =>
  K_62 x21 (v7_62 + 1) M_62)))))
  else
  K_62 v5_62 (v7_62 + 1) M_62
def L_X9_shareOf_26 (p1 : Int32) (v2_26 : Int32) (v3_26 : Int32) : (Int32 → Mem → Option Mem) → Int32 → Mem → Option Mem := fun K_26 v4_26 M_26 =>
  if v3_26 ≤ v4_26 then
  letv ((1 : Int32) <<< (p1 &&& 31)) (fun x4 =>
  lq3 (L_X9_shareOf_62 p1 v2_26 v3_26 x4) FU 0 0 M_26)
  else
  bnd2 (f_X9_worthOf v4_26 M_26) (fun r22 M24 =>
  if oob v4_26 128 = true then none else
  letv (st M24 47 (ix v4_26) r22) (fun M25 =>
  K_26 (v4_26 + 1) M25))
def f_X9_shareOf (p1 : Int32) (M : Mem) : Option Mem :=
  letv (M.1 14 6) (fun x1 =>
  letv (f_min ((1 : Int32) <<< (x1 &&& 31)) 128) (fun x2 =>
  lq2 (L_X9_shareOf_26 p1 x1 x2) FU 0 M))
def J_X9_gain_99 (p1 : Int32) (p2 : Int32) (p3 : Int32) (p4 : Int32) (w0_99 : Int32) (M_99 : Mem) : Option (Int32 × Mem) :=
  bnd2 (f_X9_soundBits M_99) (fun r13 M15 =>
  some ((((3 : Int32) * (f_J6_bitCount_0f7a4 (r13 &&& w0_99))) - ((2 : Int32) * ((p3 >>> (p4 &&& 31)) &&& (1 : Int32)))), M15))
def f_X9_gain (p1 : Int32) (p2 : Int32) (p3 : Int32) (p4 : Int32) (M : Mem) : Option (Int32 × Mem) :=
  bnd (f_X1_copyFrom 34 13 M) (fun M3 =>
  if (f_X5_hasZone 35 p1 M3) = 0 then
  some ((-1000), M3)
  else
  if (f_X5_hasZone 35 p2 M3) = 0 then
  some ((-1000), M3)
  else
  if oob p1 7 = true then none else
  if oob p1 7 = true then none else
  letv (st M3 36 (ix p1) ((M3.1 36 (ix p1)) + ((50 : Int32) * (p3 &&& (1 : Int32))))) (fun M7 =>
  if oob p2 7 = true then none else
  if oob p2 7 = true then none else
  letv (st M7 36 (ix p2) ((M7.1 36 (ix p2)) + ((50 : Int32) * ((p3 >>> ((1 : Int32) &&& 31)) &&& (1 : Int32))))) (fun M10 =>
  if p4 = 0 then
  J_X9_gain_99 p1 p2 p3 p4 21 M10
  else
  J_X9_gain_99 p1 p2 p3 p4 42 M10)))
def J_X9_restingChoices_108 (p1 : Int32) (p2 : Int32) (K_40 : Int32 → Int32 → Mem → Option (Int32 × Mem)) (v3_108 : Int32) (v4_108 : Int32) (v5_108 : Int32) (w0_108 : Int32) (M_108 : Mem) : Option (Int32 × Mem) :=
  if v5_108 = 0 then
  K_40 v3_108 (v4_108 + 1) M_108
  else
  if w0_108 = 0 then
  K_40 v3_108 (v4_108 + 1) M_108
  else
  letv (v3_108 ||| ((1 : Int32) <<< (v4_108 &&& 31))) (fun x11 =>
  K_40 x11 (v4_108 + 1) M_108)
def J_X9_restingChoices_74 (p1 : Int32) (p2 : Int32) (K_40 : Int32 → Int32 → Mem → Option (Int32 × Mem)) (v3_74 : Int32) (v4_74 : Int32) (w0_74 : Int32) (M_74 : Mem) : Option (Int32 × Mem) :=
  if oob (((2 : Int32) * v4_74) + (1 : Int32)) 8 = true then none else
  if oob (((2 : Int32) * (v4_74 ^^^ (2 : Int32))) + (1 : Int32)) 8 = true then none else
  if (M_74.1 48 (ix (((2 : Int32) * v4_74) + (1 : Int32)))) < (M_74.1 48 (ix (((2 : Int32) * (v4_74 ^^^ (2 : Int32))) + (1 : Int32)))) then
  J_X9_restingChoices_108 p1 p2 K_40 v3_74 v4_74 w0_74 0 M_74
  else
  J_X9_restingChoices_108 p1 p2 K_40 v3_74 v4_74 w0_74 1 M_74
def L_X9_restingChoices_40 (p1 : Int32) (p2 : Int32) : (Int32 → Int32 → Mem → Option (Int32 × Mem)) → Int32 → Int32 → Mem → Option (Int32 × Mem) := fun K_40 v3_40 v4_40 M_40 =>
  if (4 : Int32) ≤ v4_40 then
  some (v3_40, M_40)
  else
  if oob ((2 : Int32) * v4_40) 8 = true then none else
  if oob ((2 : Int32) * (v4_40 ^^^ (1 : Int32))) 8 = true then none else
  if (M_40.1 48 (ix ((2 : Int32) * v4_40))) < (M_40.1 48 (ix ((2 : Int32) * (v4_40 ^^^ (1 : Int32))))) then
  J_X9_restingChoices_74 p1 p2 K_40 v3_40 v4_40 0 M_40
  else
  J_X9_restingChoices_74 p1 p2 K_40 v3_40 v4_40 1 M_40
def L_X9_restingChoices_2 (p1 : Int32) (p2 : Int32) : (Int32 → Mem → Option (Int32 × Mem)) → Int32 → Mem → Option (Int32 × Mem) := fun K_2 v3_2 M_2 =>
  if (8 : Int32) ≤ v3_2 then
  lq3 (L_X9_restingChoices_40 p1 p2) FU 0 0 M_2
  else
  bnd2 (f_X9_gain p1 p2 (v3_2 >>> ((1 : Int32) &&& 31)) (v3_2 &&& (1 : Int32)) M_2) (fun r12 M14 =>
  if oob v3_2 8 = true then none else
  letv (st M14 48 (ix v3_2) r12) (fun M15 =>
  K_2 (v3_2 + 1) M15))
def f_X9_restingChoices (p1 : Int32) (p2 : Int32) (M : Mem) : Option (Int32 × Mem) :=
  lq2 (L_X9_restingChoices_2 p1 p2) FU 0 M
def f_X6_isBlank (p0 : Int32) (M : Mem) : Int32 :=
  if p0 = 32 then
  1
  else
  if p0 = 10 then
  1
  else
  0
def J_X6_kindOf_14 (p0 : Int32) (M : Mem) : Int32 :=
  if p0 < 48 then
  if p0 = 59 then
  3
  else
  0
  else
  if (57 : Int32) < p0 then
  if p0 = 59 then
  3
  else
  0
  else
  2
def f_X6_kindOf (p0 : Int32) (M : Mem) : Int32 :=
  if p0 < 97 then
  J_X6_kindOf_14 p0 M
  else
  if (122 : Int32) < p0 then
  J_X6_kindOf_14 p0 M
  else
  1
def L_X6_nextToken_125 : (Mem → Option Mem) → Mem → Option Mem := fun K_125 M_125 =>
  if (M_125.1 4 1) ≤ (M_125.1 6 3) then
  some M_125
  else
  bnd (f_X8_byteAt (M_125.1 6 3) M_125) (fun r11 =>
  if (f_X6_kindOf r11 M_125) = (M_125.1 6 1) then
  letv (st M_125 6 3 ((M_125.1 6 3) + (1 : Int32))) (fun M14 =>
  K_125 M14)
  else
  some M_125)
def J_X6_nextToken_52 (M_52 : Mem) : Option Mem :=
  letv (st M_52 6 3 (M_52.1 6 2)) (fun M3 =>
  if (M3.1 6 2) < (M3.1 4 1) then
  bnd (f_X8_byteAt (M3.1 6 2) M3) (fun r5 =>
  letv (st M3 6 1 (f_X6_kindOf r5 M3)) (fun M7 =>
  letv (st M7 6 3 ((M7.1 6 3) + (1 : Int32))) (fun M8 =>
  if (M8.1 6 1) = 1 then
  lq1 (L_X6_nextToken_125) FU M8
  else
  if (M8.1 6 1) = 2 then
  lq1 (L_X6_nextToken_125) FU M8
  else
  some M8)))
  else
  letv (st M3 6 1 4) (fun M16 =>
  some M16))
def L_X6_nextToken_8 : (Mem → Option Mem) → Mem → Option Mem := fun K_8 M_8 =>
  if (M_8.1 4 1) ≤ (M_8.1 6 2) then
  J_X6_nextToken_52 M_8
  else
  bnd (f_X8_byteAt (M_8.1 6 2) M_8) (fun r17 =>
  if (f_X6_isBlank r17 M_8) = 0 then
  J_X6_nextToken_52 M_8
  else
  letv (st M_8 6 2 ((M_8.1 6 2) + (1 : Int32))) (fun M20 =>
  K_8 M20))
def f_X6_nextToken (M : Mem) : Option Mem :=
  letv (st M 6 2 (M.1 6 3)) (fun M1 =>
  lq1 (L_X6_nextToken_8) FU M1)
def L_X6_isWord_28 (p1 : Nat) (M : Mem) : (Int32 → Option Int32) → Int32 → Option Int32 := fun K_28 v2_28 =>
  if (f_J0_length_8abf5 p1) ≤ v2_28 then
  some 1
  else
  bnd (f_X8_byteAt ((M.1 6 2) + v2_28) M) (fun r4 =>
  bnd (f_J0_charAt_5068e p1 v2_28) (fun r6 =>
  if r4 = r6 then
  K_28 (v2_28 + 1)
  else
  some 0))
def f_X6_isWord (p1 : Nat) (M : Mem) : Option Int32 :=
  if (M.1 6 1) = 1 then
  if ((M.1 6 3) - (M.1 6 2)) = (f_J0_length_8abf5 p1) then
  lq1 (L_X6_isWord_28 p1 M) FU 0
  else
  some 0
  else
  some 0
def f_X6_fail (p1 : Int32) (M : Mem) : Option Mem :=
  letv (st M 6 4 p1) (fun M1 =>
  letv (st M1 6 5 (M1.1 6 2)) (fun M2 =>
  some M2))
def f_X6_expectWord (p1 : Nat) (M : Mem) : Option Mem :=
  if (M.1 6 4) = 0 then
  bnd (f_X6_isWord p1 M) (fun r2 =>
  if r2 = 0 then
  bnd (f_X6_fail (1 : Int32) M) (fun M7 =>
  some M7)
  else
  bnd (f_X6_nextToken M) (fun M10 =>
  some M10))
  else
  some M
def L_X6_tokenNumber_7 (M : Mem) : (Int32 → Int32 → Option Int32) → Int32 → Int32 → Option Int32 := fun K_7 v1_7 v2_7 =>
  if (M.1 6 3) ≤ v2_7 then
  some v1_7
  else
  bnd (f_X8_byteAt v2_7 M) (fun r3 =>
  letv (f_min (((v1_7 * (10 : Int32)) + r3) - (48 : Int32)) 601) (fun x5 =>
  K_7 x5 (v2_7 + 1)))
def f_X6_tokenNumber (M : Mem) : Option Int32 :=
  letv (M.1 6 2) (fun x1 =>
  lq2 (L_X6_tokenNumber_7 M) FU 0 x1)
def f_X6_readNamed (p1 : Nat) (p2 : Int32) (p3 : Int32) (M : Mem) : Option (Int32 × Mem) :=
  bnd (f_X6_expectWord p1 M) (fun M3 =>
  if (M3.1 6 4) = 0 then
  if (M3.1 6 1) = 2 then
  bnd (f_X6_tokenNumber M3) (fun r6 =>
  if r6 < p2 then
  bnd (f_X6_fail (2 : Int32) M3) (fun M11 =>
  some (p2, M11))
  else
  if r6 ≤ p3 then
  bnd (f_X6_nextToken M3) (fun M15 =>
  some (r6, M15))
  else
  bnd (f_X6_fail (2 : Int32) M3) (fun M18 =>
  some (p2, M18)))
  else
  bnd (f_X6_fail (1 : Int32) M3) (fun M21 =>
  some (p2, M21))
  else
  some (p2, M3))
def f_X6_readHead (p1 : Nat) (M : Mem) : Option Mem :=
  bnd (f_X6_expectWord 0 M) (fun M3 =>
  bnd2 (f_X6_readNamed 1 (1 : Int32) (14 : Int32) M3) (fun r4 M6 =>
  letv (st M6 p1 1 r4) (fun M7 =>
  bnd2 (f_X6_readNamed 2 (0 : Int32) (3 : Int32) M7) (fun r8 M10 =>
  letv (st M10 p1 2 r8) (fun M11 =>
  bnd2 (f_X6_readNamed 3 (0 : Int32) (10 : Int32) M11) (fun r12 M14 =>
  letv (st M14 p1 3 r12) (fun M15 =>
  bnd2 (f_X6_readNamed 4 (1 : Int32) (4 : Int32) M15) (fun r16 M18 =>
  letv (st M18 p1 4 r16) (fun M19 =>
  bnd2 (f_X6_readNamed 5 (0 : Int32) (600 : Int32) M19) (fun r20 M22 =>
  letv (st M22 p1 5 r20) (fun M23 =>
  some M23)))))))))))
def f_X6_readZone (p1 : Nat) (M : Mem) : Option Mem :=
  if (M.1 p1 6) < 7 then
  bnd2 (f_X6_readNamed 6 (0 : Int32) (600 : Int32) M) (fun r2 M4 =>
  if oob (M.1 p1 6) 7 = true then none else
  letv (st M4 (rC p1 8) (ix (M.1 p1 6)) r2) (fun M5 =>
  letv (st M5 p1 6 ((M5.1 p1 6) + (1 : Int32))) (fun M7 =>
  some M7)))
  else
  bnd (f_X6_fail (3 : Int32) M) (fun M10 =>
  some M10)
def f_X6_readPiece (p1 : Nat) (M : Mem) : Option Mem :=
  if (M.1 p1 7) < 6 then
  letv (M.1 p1 7) (fun x2 =>
  bnd (f_X6_expectWord 7 M) (fun M5 =>
  bnd2 (f_X6_readNamed 8 (0 : Int32) (600 : Int32) M5) (fun r6 M8 =>
  if oob x2 6 = true then none else
  letv (st M8 (rC p1 9) (ix x2) r6) (fun M9 =>
  bnd2 (f_X6_readNamed 9 (1 : Int32) (9 : Int32) M9) (fun r11 M13 =>
  if oob x2 6 = true then none else
  letv (st M13 (rC p1 10) (ix x2) r11) (fun M14 =>
  bnd2 (f_X6_readNamed 10 (0 : Int32) (300 : Int32) M14) (fun r16 M18 =>
  if oob x2 6 = true then none else
  letv (st M18 (rC p1 11) (ix x2) r16) (fun M19 =>
  bnd2 (f_X6_readNamed 11 (0 : Int32) (14 : Int32) M19) (fun r21 M23 =>
  if oob x2 6 = true then none else
  letv (st M23 (rC p1 12) (ix x2) r21) (fun M24 =>
  letv (st M24 p1 7 ((M24.1 p1 7) + (1 : Int32))) (fun M26 =>
  some M26)))))))))))
  else
  bnd (f_X6_fail (3 : Int32) M) (fun M29 =>
  some M29)
def f_X6_expectSign (M : Mem) : Option Mem :=
  if (M.1 6 4) = 0 then
  if (M.1 6 1) = 3 then
  bnd (f_X6_nextToken M) (fun M8 =>
  some M8)
  else
  bnd (f_X6_fail (1 : Int32) M) (fun M5 =>
  some M5)
  else
  some M
def J_X6_readLine_54 (p1 : Nat) (M_54 : Mem) : Option Mem :=
  bnd (f_X6_expectSign M_54) (fun M13 =>
  if (M13.1 6 4) = 0 then
  letv (st M13 p1 0 ((M13.1 p1 0) + (1 : Int32))) (fun M15 =>
  some M15)
  else
  some M13)
def f_X6_readLine (p1 : Nat) (M : Mem) : Option Mem :=
  if (M.1 p1 0) = 0 then
  bnd (f_X6_readHead p1 M) (fun M24 =>
  J_X6_readLine_54 p1 M24)
  else
  bnd (f_X6_isWord 6 M) (fun r2 =>
  if r2 = 0 then
  bnd (f_X6_isWord 7 M) (fun r5 =>
  if r5 = 0 then
  bnd (f_X6_fail (1 : Int32) M) (fun M10 =>
  J_X6_readLine_54 p1 M10)
  else
  bnd (f_X6_readPiece p1 M) (fun M18 =>
  J_X6_readLine_54 p1 M18))
  else
  bnd (f_X6_readZone p1 M) (fun M21 =>
  J_X6_readLine_54 p1 M21))
def L_X6_readInto_21 (p1 : Nat) : (Int32 → Mem → Option Mem) → Int32 → Mem → Option Mem := fun K_21 v2_21 M_21 =>
  if (600 : Int32) ≤ v2_21 then
  some M_21
  else
  if (M_21.1 6 4) = 0 then
  if (M_21.1 6 1) = 4 then
  some M_21
  else
  bnd (f_X6_readLine p1 M_21) (fun M12 =>
  K_21 (v2_21 + 1) M12)
  else
  some M_21
def f_X6_readInto (p1 : Nat) (M : Mem) : Option Mem :=
  letv (st M 6 4 0) (fun M1 =>
  letv (st M1 6 5 (-1)) (fun M2 =>
  letv (st M2 6 3 0) (fun M3 =>
  bnd (f_X6_nextToken M3) (fun M6 =>
  lq2 (L_X6_readInto_21 p1) FU 0 M6))))
def f_X10_feed (p1 : Int32) (p2 : Int32) (p3 : Int32) (p4 : Int32) (p5 : Int32) (M : Mem) : Option (Int32 × Mem) :=
  if (f_X8_hasRoom (20 : Int32) M) = 0 then
  some ((-1), M)
  else
  bnd (f_X8_append p1 M) (fun M4 =>
  bnd (f_X8_append p2 M4) (fun M7 =>
  bnd (f_X8_append p3 M7) (fun M10 =>
  bnd (f_X8_append p4 M10) (fun M13 =>
  bnd (f_X8_append p5 M13) (fun M16 =>
  some ((M16.1 4 1), M16))))))
def f_X10_end (p1 : Int32) (M : Mem) : Option (Int32 × Mem) :=
  bnd2 (f_X8_cutTo p1 M) (fun r1 M3 =>
  if r1 = 0 then
  some ((-1), M3)
  else
  some (p1, M3))
def f_X10_lehr (M : Mem) : Option (Int32 × Mem) :=
  bnd (f_X5_clear 7 M) (fun M3 =>
  bnd (f_X6_readInto 7 M3) (fun M6 =>
  bnd2 (f_X8_cutTo (0 : Int32) M6) (fun r7 M9 =>
  if (M9.1 6 4) = 0 then
  bnd (f_X5_copyFrom 14 7 M9) (fun M13 =>
  bnd (f_X0_clear 20 M13) (fun M16 =>
  letv (st M16 0 10 0) (fun M17 =>
  some ((M17.1 14 0), M17))))
  else
  some ((-4), M9))))
def f_X10_fault (p1 : Int32) (M : Mem) : Int32 :=
  if p1 = 0 then
  (M.1 6 4)
  else
  if p1 = 1 then
  (M.1 6 5)
  else
  (-1)
def f_X10_zone (p1 : Int32) (M : Mem) : Option Int32 :=
  if (f_X5_hasZone 14 p1 M) = 0 then
  some (-2)
  else
  if oob p1 7 = true then none else
  some (M.1 15 (ix p1))
def f_X10_piece (p1 : Int32) (p2 : Int32) (M : Mem) : Option Int32 :=
  if (f_X5_hasPiece 14 p1 M) = 0 then
  some (-2)
  else
  if p2 = 0 then
  if oob p1 6 = true then none else
  some (M.1 16 (ix p1))
  else
  if p2 = 1 then
  if oob p1 6 = true then none else
  some (M.1 17 (ix p1))
  else
  if p2 = 2 then
  if oob p1 6 = true then none else
  some (M.1 18 (ix p1))
  else
  if p2 = 3 then
  if oob p1 6 = true then none else
  some (M.1 19 (ix p1))
  else
  some (-2)
def f_X10_air (p1 : Int32) (p2 : Int32) (M : Mem) : Option Int32 :=
  if (f_X5_hasZone 14 p1 M) = 0 then
  some (-2)
  else
  if (f_X5_hasStep 14 p2 M) = 0 then
  some (-2)
  else
  bnd (f_X1_airAt 13 p1 p2 (M.1 20 1) M) (fun r3 =>
  some r3)
def f_X10_where (p1 : Int32) (p2 : Int32) (M : Mem) : Option Int32 :=
  if (f_X5_hasPiece 14 p1 M) = 0 then
  some (-2)
  else
  if (f_X5_hasStep 14 p2 M) = 0 then
  some (-2)
  else
  bnd (f_X5_placeAt 14 p1 p2 M) (fun r3 =>
  some r3)
def f_X10_inside (p1 : Int32) (p2 : Int32) (M : Mem) : Option Int32 :=
  if (f_X5_hasZone 14 p1 M) = 0 then
  some (-2)
  else
  if (f_X5_hasStep 14 p2 M) = 0 then
  some (-2)
  else
  bnd (f_X5_piecesAt 14 p1 p2 M) (fun r3 =>
  some r3)
def f_X10_out (p1 : Int32) (M : Mem) : Option Int32 :=
  if (f_X5_hasStep 14 p1 M) = 0 then
  some (-2)
  else
  bnd (f_X5_piecesAt 14 (10 : Int32) p1 M) (fun r2 =>
  some r2)
def f_X10_leaves (p1 : Int32) (M : Mem) : Option Int32 :=
  if (f_X5_hasPiece 14 p1 M) = 0 then
  some (-2)
  else
  bnd (f_X5_leavingStep 14 p1 M) (fun r2 =>
  some r2)
def f_X10_followedCourse (M : Mem) : Option Mem :=
  if (M.1 0 10) = 0 then
  bnd (f_X2_follow 25 (0 : Int32) (M.1 14 1) (63 : Int32) M) (fun M4 =>
  letv (st M4 0 10 1) (fun M5 =>
  some M5))
  else
  some M
def f_X10_ofPieceAt (p1 : Int32) (p2 : Int32) (p3 : Int32) (M : Mem) : Option (Int32 × Mem) :=
  if (f_X5_hasPiece 14 p2 M) = 0 then
  some ((-2), M)
  else
  if (f_X5_hasStep 14 p3 M) = 0 then
  some ((-2), M)
  else
  bnd (f_X10_followedCourse M) (fun M5 =>
  bnd (f_X2_valueAt 25 p1 p2 p3 M5) (fun r6 =>
  some (r6, M5)))
def f_X10_skin (p1 : Int32) (p2 : Int32) (M : Mem) : Option (Int32 × Mem) :=
  bnd2 (f_X10_ofPieceAt (0 : Int32) p1 p2 M) (fun r1 M3 =>
  some (r1, M3))
def f_X10_core (p1 : Int32) (p2 : Int32) (M : Mem) : Option (Int32 × Mem) :=
  bnd2 (f_X10_ofPieceAt (1 : Int32) p1 p2 M) (fun r1 M3 =>
  some (r1, M3))
def f_X10_strain (p1 : Int32) (p2 : Int32) (M : Mem) : Option (Int32 × Mem) :=
  bnd2 (f_X10_ofPieceAt (2 : Int32) p1 p2 M) (fun r1 M3 =>
  some (r1, M3))
def f_X10_peak (p1 : Int32) (M : Mem) : Option (Int32 × Mem) :=
  if (f_X5_hasPiece 14 p1 M) = 0 then
  some ((-2), M)
  else
  bnd (f_X10_followedCourse M) (fun M4 =>
  bnd (f_X2_peakOf 25 p1 M4) (fun r5 =>
  some (r5, M4)))
def f_X10_when (p1 : Int32) (M : Mem) : Option (Int32 × Mem) :=
  if (f_X5_hasPiece 14 p1 M) = 0 then
  some ((-2), M)
  else
  bnd (f_X10_followedCourse M) (fun M4 =>
  bnd (f_X2_peakStepOf 25 p1 M4) (fun r5 =>
  some (r5, M4)))
def f_X10_frozen (p1 : Int32) (M : Mem) : Option (Int32 × Mem) :=
  if (f_X5_hasPiece 14 p1 M) = 0 then
  some ((-2), M)
  else
  bnd (f_X10_followedCourse M) (fun M4 =>
  if oob p1 6 = true then none else
  some ((M4.1 31 (ix p1)), M4))
def f_X10_sets (p1 : Int32) (M : Mem) : Option (Int32 × Mem) :=
  if (f_X5_hasPiece 14 p1 M) = 0 then
  some ((-2), M)
  else
  bnd (f_X10_followedCourse M) (fun M4 =>
  if oob p1 6 = true then none else
  some ((M4.1 32 (ix p1)), M4))
def f_X10_cracks (p1 : Int32) (M : Mem) : Option (Int32 × Mem) :=
  if (f_X5_hasPiece 14 p1 M) = 0 then
  some ((-2), M)
  else
  bnd (f_X10_followedCourse M) (fun M4 =>
  if oob p1 6 = true then none else
  some ((M4.1 29 (ix p1)), M4))
def f_X10_why (p1 : Int32) (M : Mem) : Option (Int32 × Mem) :=
  if (f_X5_hasPiece 14 p1 M) = 0 then
  some ((-2), M)
  else
  bnd (f_X10_followedCourse M) (fun M4 =>
  if oob p1 6 = true then none else
  some ((M4.1 30 (ix p1)), M4))
def f_X10_whole (p1 : Int32) (M : Mem) : Option (Int32 × Mem) :=
  if (f_X5_hasStep 14 p1 M) = 0 then
  some ((-2), M)
  else
  bnd (f_X5_comeBy 14 p1 M) (fun r2 =>
  bnd (f_X10_followedCourse M) (fun M6 =>
  bnd (f_X2_uncrackedAt 25 p1 M6) (fun r7 =>
  some ((r2 &&& r7), M6))))
def f_X10_sound (M : Mem) : Option (Int32 × Mem) :=
  if (f_X5_isTold 14 M) = 0 then
  some ((-2), M)
  else
  bnd (f_X10_followedCourse M) (fun M4 =>
  bnd (f_X2_neverCracked 25 M4) (fun r5 =>
  some (r5, M4)))
def f_X10_good (M : Mem) : Option (Int32 × Mem) :=
  if (f_X5_isTold 14 M) = 0 then
  some ((-2), M)
  else
  bnd (f_X5_piecesAt 14 (10 : Int32) (M.1 14 1) M) (fun r2 =>
  bnd (f_X10_followedCourse M) (fun M6 =>
  bnd (f_X2_neverCracked 25 M6) (fun r7 =>
  some ((r2 &&& r7), M6))))
def f_X10_tight (p1 : Int32) (M : Mem) : Option (Int32 × Mem) :=
  if (f_X5_hasStep 14 p1 M) = 0 then
  some ((-2), M)
  else
  bnd (f_X10_followedCourse M) (fun M4 =>
  bnd (f_X2_mostOf 25 (2 : Int32) p1 M4) (fun r5 =>
  some (r5, M4)))
def f_X10_hottest (p1 : Int32) (M : Mem) : Option (Int32 × Mem) :=
  if (f_X5_hasStep 14 p1 M) = 0 then
  some ((-2), M)
  else
  bnd (f_X10_followedCourse M) (fun M4 =>
  bnd (f_X2_mostOf 25 (0 : Int32) p1 M4) (fun r5 =>
  some (r5, M4)))
def f_X10_glow (p1 : Int32) (M : Mem) : Option (Int32 × Mem) :=
  if (f_X5_hasStep 14 p1 M) = 0 then
  some ((-2), M)
  else
  bnd (f_X10_followedCourse M) (fun M4 =>
  bnd (f_X2_skinsTogether 25 p1 M4) (fun r5 =>
  some (r5, M4)))
def f_X10_worst (M : Mem) : Option (Int32 × Mem) :=
  if (f_X5_isTold 14 M) = 0 then
  some ((-2), M)
  else
  bnd (f_X10_followedCourse M) (fun M4 =>
  bnd (f_X2_worstStep 25 M4) (fun r5 =>
  some (r5, M4)))
def f_X10_sore (M : Mem) : Option (Int32 × Mem) :=
  if (f_X5_isTold 14 M) = 0 then
  some ((-2), M)
  else
  bnd (f_X10_followedCourse M) (fun M4 =>
  bnd (f_X2_sorestZone 25 M4) (fun r5 =>
  some (r5, M4)))
def f_X10_tense (p1 : Int32) (M : Mem) : Option (Int32 × Mem) :=
  if (f_X5_hasPiece 14 p1 M) = 0 then
  some ((-2), M)
  else
  bnd (f_X10_followedCourse M) (fun M4 =>
  bnd (f_X2_tenseSteps 25 p1 M4) (fun r5 =>
  some (r5, M4)))
def f_X10_warms (p1 : Int32) (M : Mem) : Option (Int32 × Mem) :=
  if (f_X5_hasPiece 14 p1 M) = 0 then
  some ((-2), M)
  else
  bnd (f_X10_followedCourse M) (fun M4 =>
  bnd (f_X2_warmingSteps 25 p1 M4) (fun r5 =>
  some (r5, M4)))
def f_X10_cool (p1 : Int32) (p2 : Int32) (M : Mem) : Option (Int32 × Mem) :=
  if (f_X5_hasPiece 14 p1 M) = 0 then
  some ((-2), M)
  else
  if p2 < 0 then
  some ((-2), M)
  else
  if p2 ≤ 600 then
  bnd (f_X10_followedCourse M) (fun M6 =>
  bnd (f_X2_firstStepAtMost 25 p1 p2 M6) (fun r7 =>
  some (r7, M6)))
  else
  some ((-2), M)
def f_X10_still (p1 : Int32) (M : Mem) : Option (Int32 × Mem) :=
  if (f_X5_hasPiece 14 p1 M) = 0 then
  some ((-2), M)
  else
  bnd (f_X10_followedCourse M) (fun M4 =>
  bnd (f_X2_stillFrom 25 p1 M4) (fun r5 =>
  some (r5, M4)))
def L_X10_pairs_21 (p1 : Int32) (M : Mem) : (Int32 → Int32 → Option Int32) → Int32 → Int32 → Option Int32 := fun K_21 v2_21 v3_21 =>
  if (M.1 14 6) ≤ v3_21 then
  some v2_21
  else
  bnd (f_X5_piecesAt 14 v3_21 p1 M) (fun r3 =>
  letv (f_J6_bitCount_0f7a4 r3) (fun x5 =>
  letv (v2_21 + ((x5 * (x5 - (1 : Int32))) / 2)) (fun x6 =>
  K_21 x6 (v3_21 + 1))))
def f_X10_pairs (p1 : Int32) (M : Mem) : Option Int32 :=
  if (f_X5_hasStep 14 p1 M) = 0 then
  some (-2)
  else
  lq2 (L_X10_pairs_21 p1 M) FU 0 0
def L_X10_crowd_36 (M : Mem) (K_20 : Int32 → Int32 → Option Int32) (v2_36 : Int32) : (Int32 → Int32 → Option Int32) → Int32 → Int32 → Option Int32 := fun K_36 v1_36 v3_36 =>
  if (M.1 14 1) < v3_36 then
  K_20 v1_36 (v2_36 + 1)
  else
  bnd (f_X5_piecesAt 14 v2_36 v3_36 M) (fun r4 =>
  letv (f_max v1_36 (f_J6_bitCount_0f7a4 r4)) (fun x6 =>
  K_36 x6 (v3_36 + 1)))
def L_X10_crowd_20 (M : Mem) : (Int32 → Int32 → Option Int32) → Int32 → Int32 → Option Int32 := fun K_20 v1_20 v2_20 =>
  if (M.1 14 6) ≤ v2_20 then
  some v1_20
  else
  lq2 (L_X10_crowd_36 M K_20 v2_20) FU v1_20 0
def f_X10_crowd (M : Mem) : Option Int32 :=
  if (f_X5_isTold 14 M) = 0 then
  some (-2)
  else
  lq2 (L_X10_crowd_20 M) FU 0 0
def f_X10_airNow (p1 : Int32) (p2 : Int32) (M : Mem) : Option Int32 :=
  bnd (f_X1_airAt 13 p1 p2 (M.1 20 1) M) (fun r1 =>
  some r1)
def L_X10_oven_21 (p1 : Int32) (M : Mem) : (Int32 → Int32 → Option Int32) → Int32 → Int32 → Option Int32 := fun K_21 v2_21 v3_21 =>
  if (M.1 14 6) ≤ v3_21 then
  some v2_21
  else
  if v2_21 = (-1) then
  K_21 v3_21 (v3_21 + 1)
  else
  bnd (f_X10_airNow v3_21 p1 M) (fun r4 =>
  bnd (f_X10_airNow v2_21 p1 M) (fun r6 =>
  if r4 ≤ r6 then
  K_21 v2_21 (v3_21 + 1)
  else
  K_21 v3_21 (v3_21 + 1)))
def f_X10_oven (p1 : Int32) (M : Mem) : Option Int32 :=
  if (f_X5_hasStep 14 p1 M) = 0 then
  some (-2)
  else
  lq2 (L_X10_oven_21 p1 M) FU (-1) 0
def f_X10_airFall (p1 : Int32) (p2 : Int32) (M : Mem) : Option Int32 :=
  bnd (f_X10_airNow p1 p2 M) (fun r1 =>
  bnd (f_X10_airNow (p1 + (1 : Int32)) p2 M) (fun r3 =>
  some (r1 - r3)))
def f_X10_fall (p1 : Int32) (p2 : Int32) (M : Mem) : Option Int32 :=
  if (f_X5_hasZone 14 p1 M) = 0 then
  some (-10000)
  else
  if (f_X5_hasZone 14 (p1 + (1 : Int32)) M) = 0 then
  some (-10000)
  else
  if (f_X5_hasStep 14 p2 M) = 0 then
  some (-10000)
  else
  bnd (f_X10_airFall p1 p2 M) (fun r4 =>
  some r4)
def L_X10_cliff_21 (p1 : Int32) (M : Mem) : (Int32 → Int32 → Option Int32) → Int32 → Int32 → Option Int32 := fun K_21 v2_21 v3_21 =>
  if (M.1 14 6) ≤ (v3_21 + (1 : Int32)) then
  some v2_21
  else
  if v2_21 = (-1) then
  K_21 v3_21 (v3_21 + 1)
  else
  bnd (f_X10_airFall v3_21 p1 M) (fun r4 =>
  bnd (f_X10_airFall v2_21 p1 M) (fun r6 =>
  if r4 ≤ r6 then
  K_21 v2_21 (v3_21 + 1)
  else
  K_21 v3_21 (v3_21 + 1)))
def f_X10_cliff (p1 : Int32) (M : Mem) : Option Int32 :=
  if (f_X5_hasStep 14 p1 M) = 0 then
  some (-2)
  else
  lq2 (L_X10_cliff_21 p1 M) FU (-1) 0
def f_X10_least (p1 : Int32) (M : Mem) : Option (Int32 × Mem) :=
  if (f_X5_hasPiece 14 p1 M) = 0 then
  some ((-2), M)
  else
  bnd (f_X10_followedCourse M) (fun M4 =>
  bnd (f_X2_leastSkin 25 p1 M4) (fun r5 =>
  some (r5, M4)))
def f_X10_chill (p1 : Int32) (M : Mem) : Option (Int32 × Mem) :=
  if (f_X5_hasPiece 14 p1 M) = 0 then
  some ((-2), M)
  else
  bnd (f_X10_followedCourse M) (fun M4 =>
  bnd (f_X2_chillStep 25 p1 M4) (fun r5 =>
  some (r5, M4)))
def f_X10_drop (p1 : Int32) (p2 : Int32) (M : Mem) : Option (Int32 × Mem) :=
  if (f_X5_hasPiece 14 p1 M) = 0 then
  some ((-100000), M)
  else
  if (f_X5_hasStepAhead 14 p2 M) = 0 then
  some ((-100000), M)
  else
  bnd (f_X10_followedCourse M) (fun M5 =>
  bnd (f_X2_skinFall 25 p1 p2 M5) (fun r6 =>
  some (r6, M5)))
def f_X10_gaps (p1 : Int32) (M : Mem) : Option (Int32 × Mem) :=
  if (f_X5_hasPiece 14 p1 M) = 0 then
  some ((-2), M)
  else
  bnd (f_X10_followedCourse M) (fun M4 =>
  bnd (f_X2_strainedSteps 25 p1 M4) (fun r5 =>
  some (r5, M4)))
def f_X10_spread (p1 : Int32) (M : Mem) : Option (Int32 × Mem) :=
  if (f_X5_hasStep 14 p1 M) = 0 then
  some ((-2), M)
  else
  bnd (f_X10_followedCourse M) (fun M4 =>
  bnd (f_X2_skinSpread 25 p1 M4) (fun r5 =>
  some (r5, M4)))
def f_X10_coming (p1 : Int32) (M : Mem) : Option Int32 :=
  if (f_X5_hasStep 14 p1 M) = 0 then
  some (-2)
  else
  bnd (f_X5_comingAt 14 p1 M) (fun r2 =>
  some r2)
def f_X10_cracked (p1 : Int32) (M : Mem) : Option (Int32 × Mem) :=
  if (f_X5_hasStep 14 p1 M) = 0 then
  some ((-2), M)
  else
  bnd (f_X10_followedCourse M) (fun M4 =>
  bnd (f_X2_crackingAt 25 p1 M4) (fun r5 =>
  some (r5, M4)))
def f_X10_kernel (p1 : Int32) (M : Mem) : Option (Int32 × Mem) :=
  if (f_X5_hasStep 14 p1 M) = 0 then
  some ((-2), M)
  else
  bnd (f_X10_followedCourse M) (fun M4 =>
  bnd (f_X2_mostOf 25 (1 : Int32) p1 M4) (fun r5 =>
  some (r5, M4)))
def f_X10_tally (p1 : Int32) (M : Mem) : Option (Int32 × Mem) :=
  if (f_X5_isTold 14 M) = 0 then
  some ((-2), M)
  else
  if p1 < 0 then
  some ((-2), M)
  else
  if p1 ≤ 2 then
  bnd (f_X10_followedCourse M) (fun M6 =>
  bnd (f_X2_countOfReason 25 p1 M6) (fun r7 =>
  some (r7, M6)))
  else
  some ((-2), M)
def L_X10_last_21 (p1 : Int32) (M : Mem) : (Int32 → Int32 → Option Int32) → Int32 → Int32 → Option Int32 := fun K_21 v2_21 v3_21 =>
  if (M.1 14 1) < v3_21 then
  some v2_21
  else
  bnd (f_X5_piecesAt 14 p1 v3_21 M) (fun r3 =>
  if r3 = 0 then
  K_21 v2_21 (v3_21 + 1)
  else
  K_21 v3_21 (v3_21 + 1))
def f_X10_last (p1 : Int32) (M : Mem) : Option Int32 :=
  if (f_X5_hasZone 14 p1 M) = 0 then
  some (-2)
  else
  lq2 (L_X10_last_21 p1 M) FU (-1) 0
def f_X10_busy (p1 : Int32) (M : Mem) : Option Int32 :=
  if (f_X5_hasZone 14 p1 M) = 0 then
  some (-2)
  else
  bnd (f_X5_busySteps 14 p1 M) (fun r2 =>
  some r2)
def L_X10_idle_20 (M : Mem) : (Int32 → Int32 → Option Int32) → Int32 → Int32 → Option Int32 := fun K_20 v1_20 v2_20 =>
  if (M.1 14 6) ≤ v2_20 then
  some v1_20
  else
  bnd (f_X5_busySteps 14 v2_20 M) (fun r3 =>
  if r3 = 0 then
  letv (v1_20 ||| ((1 : Int32) <<< (v2_20 &&& 31))) (fun x6 =>
  K_20 x6 (v2_20 + 1))
  else
  K_20 v1_20 (v2_20 + 1))
def f_X10_idle (M : Mem) : Option Int32 :=
  if (f_X5_isTold 14 M) = 0 then
  some (-2)
  else
  lq2 (L_X10_idle_20 M) FU 0 0
def f_X10_stiff (p1 : Int32) (M : Mem) : Option (Int32 × Mem) :=
  if (f_X5_hasStep 14 p1 M) = 0 then
  some ((-2), M)
  else
  bnd (f_X10_followedCourse M) (fun M4 =>
  bnd (f_X2_stiffAt 25 p1 M4) (fun r5 =>
  some (r5, M4)))
def f_X10_spare (p1 : Int32) (M : Mem) : Option (Int32 × Mem) :=
  if (f_X5_hasPiece 14 p1 M) = 0 then
  some ((-2), M)
  else
  if oob p1 6 = true then none else
  bnd2 (f_X9_strengthFor p1 M) (fun r3 M5 =>
  letv ((M.1 18 (ix p1)) - r3) (fun x6 =>
  if (0 : Int32) ≤ x6 then
  some (x6, M5)
  else
  some ((-1), M5)))
def f_X10_needs (p1 : Int32) (M : Mem) : Option (Int32 × Mem) :=
  if (f_X5_hasPiece 14 p1 M) = 0 then
  some ((-2), M)
  else
  bnd2 (f_X9_strengthFor p1 M) (fun r2 M4 =>
  if r2 ≤ 300 then
  some (r2, M4)
  else
  some ((-1), M4))
def f_X10_thin (p1 : Int32) (M : Mem) : Option (Int32 × Mem) :=
  if (f_X5_hasPiece 14 p1 M) = 0 then
  some ((-2), M)
  else
  bnd2 (f_X9_greatestThick p1 M) (fun r2 M4 =>
  some (r2, M4))
def f_X10_pace (M : Mem) : Option (Int32 × Mem) :=
  if (f_X5_isTold 14 M) = 0 then
  some ((-2), M)
  else
  bnd2 (f_X9_bestPace M) (fun r2 M4 =>
  some (r2, M4))
def f_X10_paced (M : Mem) : Option (Int32 × Mem) :=
  if (f_X5_isTold 14 M) = 0 then
  some ((-2), M)
  else
  bnd2 (f_X9_bestPace M) (fun r2 M4 =>
  bnd2 (f_X9_soundByPace r2 M4) (fun r5 M7 =>
  some (r5, M7)))
def f_X10_raise (p1 : Int32) (p2 : Int32) (M : Mem) : Option (Int32 × Mem) :=
  if (f_X5_hasZone 14 p1 M) = 0 then
  some ((-2), M)
  else
  if (f_X5_hasPiece 14 p2 M) = 0 then
  some ((-2), M)
  else
  bnd2 (f_X9_leastRaise p1 p2 (200 : Int32) M) (fun r3 M5 =>
  some (r3, M5))
def f_X10_rescue (p1 : Int32) (M : Mem) : Option (Int32 × Mem) :=
  if (f_X5_hasPiece 14 p1 M) = 0 then
  some ((-2), M)
  else
  bnd2 (f_X9_bestZoneFor p1 M) (fun r2 M4 =>
  some (r2, M4))
def f_X10_swap (M : Mem) : Option (Int32 × Mem) :=
  if (f_X5_isTold 14 M) = 0 then
  some ((-2), M)
  else
  bnd2 (f_X9_bestSwap M) (fun r2 M4 =>
  some (r2, M4))
def f_X10_skip (M : Mem) : Option (Int32 × Mem) :=
  if (f_X5_isTold 14 M) = 0 then
  some ((-2), M)
  else
  bnd2 (f_X9_bestSkip M) (fun r2 M4 =>
  some (r2, M4))
def f_X10_refusalOfSeen (p1 : Int32) (p2 : Int32) (M : Mem) : Option Int32 :=
  optc (f_X10_rowOf p1 M)
  (some (-2))
  (fun k1 =>
  if p2 = 0 then
  some (-2)
  else
  if (M.1 k1 0) = 0 then
  some (-6)
  else
  bnd (f_X7_tellsSkins k1 14 M) (fun r5 =>
  if r5 = 0 then
  some (-2)
  else
  some 0))
def f_X10_airs (p1 : Int32) (p2 : Int32) (M : Mem) : Option (Int32 × Mem) :=
  bnd (f_X10_refusalOfSeen p1 (f_X5_hasZone 14 p2 M) M) (fun r1 =>
  if r1 = 0 then
  optc (f_X10_rowOf p1 M)
  (none)
  (fun k4 =>
  bnd2 (f_X9_countOfAirs k4 p2 M) (fun r6 M8 =>
  some (r6, M8)))
  else
  some (r1, M))
def f_X10_low (p1 : Int32) (p2 : Int32) (M : Mem) : Option (Int32 × Mem) :=
  bnd (f_X10_refusalOfSeen p1 (f_X5_hasZone 14 p2 M) M) (fun r1 =>
  if r1 = 0 then
  optc (f_X10_rowOf p1 M)
  (none)
  (fun k4 =>
  bnd2 (f_X9_lowestAir k4 p2 M) (fun r6 M8 =>
  some (r6, M8)))
  else
  some (r1, M))
def f_X10_high (p1 : Int32) (p2 : Int32) (M : Mem) : Option (Int32 × Mem) :=
  bnd (f_X10_refusalOfSeen p1 (f_X5_hasZone 14 p2 M) M) (fun r1 =>
  if r1 = 0 then
  optc (f_X10_rowOf p1 M)
  (none)
  (fun k4 =>
  bnd2 (f_X9_highestAir k4 p2 M) (fun r6 M8 =>
  some (r6, M8)))
  else
  some (r1, M))
def f_X10_thicks (p1 : Int32) (p2 : Int32) (M : Mem) : Option (Int32 × Mem) :=
  bnd (f_X10_refusalOfSeen p1 (f_X5_hasPiece 14 p2 M) M) (fun r1 =>
  if r1 = 0 then
  optc (f_X10_rowOf p1 M)
  (none)
  (fun k4 =>
  bnd2 (f_X9_thicksSeen k4 p2 M) (fun r6 M8 =>
  some (r6, M8)))
  else
  some (r1, M))
def f_X10_laws (p1 : Int32) (M : Mem) : Option (Int32 × Mem) :=
  bnd (f_X10_refusalOfSeen p1 (f_X5_isTold 14 M) M) (fun r1 =>
  if r1 = 0 then
  optc (f_X10_rowOf p1 M)
  (none)
  (fun k4 =>
  bnd2 (f_X9_lawsSeen k4 M) (fun r6 M8 =>
  some (r6, M8)))
  else
  some (r1, M))
def f_X10_by (p1 : Int32) (M : Mem) : Option (Int32 × Mem) :=
  if (f_X5_isTold 14 M) = 0 then
  some ((-2), M)
  else
  if p1 < 0 then
  some ((-2), M)
  else
  if p1 < 4 then
  bnd2 (f_X9_soundBitsByLaw p1 M) (fun r4 M6 =>
  some (r4, M6))
  else
  some ((-2), M)
def f_X10_law (M : Mem) : Option (Int32 × Mem) :=
  if (f_X5_isTold 14 M) = 0 then
  some ((-2), M)
  else
  bnd2 (f_X9_bestLaw M) (fun r2 M4 =>
  some (r2, M4))
def f_X10_worth (p1 : Int32) (M : Mem) : Option (Int32 × Mem) :=
  if (f_X5_isTold 14 M) = 0 then
  some ((-2), M)
  else
  if p1 < 0 then
  some ((-2), M)
  else
  if p1 < ((1 : Int32) <<< ((M.1 14 6) &&& 31)) then
  bnd2 (f_X9_worthOf p1 M) (fun r4 M6 =>
  some (r4, M6))
  else
  some ((-2), M)
def f_X10_isNoPart (p0 : Int32) (M : Mem) : Int32 :=
  if p0 = 0 then
  0
  else
  if p0 = 1 then
  0
  else
  1
def f_X10_share (p1 : Int32) (p2 : Int32) (M : Mem) : Option (Int32 × Mem) :=
  if (f_X5_hasZone 14 p1 M) = 0 then
  some ((-1000000), M)
  else
  if (f_X10_isNoPart p2 M) = 0 then
  bnd (f_X9_shareOf p1 M) (fun M5 =>
  some ((((f_X3_part 46 p2 M5) : Int64).toInt32), M5))
  else
  some ((-1000000), M)
def f_X10_isPairOfZones (p1 : Int32) (p2 : Int32) (M : Mem) : Int32 :=
  if (f_X5_hasZone 14 p1 M) = 0 then
  0
  else
  if (f_X5_hasZone 14 p2 M) = 0 then
  0
  else
  if p1 = p2 then
  0
  else
  1
def f_X10_rests (p1 : Int32) (p2 : Int32) (M : Mem) : Option (Int32 × Mem) :=
  if (f_X10_isPairOfZones p1 p2 M) = 0 then
  some ((-2), M)
  else
  bnd2 (f_X9_restingChoices p1 p2 M) (fun r2 M4 =>
  some (r2, M4))
def f_X10_gets (p1 : Int32) (p2 : Int32) (p3 : Int32) (p4 : Int32) (p5 : Int32) (M : Mem) : Option (Int32 × Mem) :=
  if (f_X10_isPairOfZones p1 p2 M) = 0 then
  some ((-1000), M)
  else
  if (f_X10_isNoPart p5 M) = 0 then
  if p3 < 0 then
  some ((-1000), M)
  else
  if (1 : Int32) < p3 then
  some ((-1000), M)
  else
  if p4 < 0 then
  some ((-1000), M)
  else
  if p4 ≤ 1 then
  bnd2 (f_X9_gain p1 p2 (p3 + ((2 : Int32) * p4)) p5 M) (fun r7 M9 =>
  some (r7, M9))
  else
  some ((-1000), M)
  else
  some ((-1000), M)
def f_X10_isChanceStep (p1 : Int32) (M : Mem) : Int32 :=
  if p1 < 1 then
  0
  else
  if (8 : Int32) < p1 then
  0
  else
  if (f_X5_hasStep 14 p1 M) = 0 then
  0
  else
  1
def f_X10_chance (p1 : Int32) (p2 : Int32) (p3 : Int32) (M : Mem) : Option (Int32 × Mem) :=
  if (f_X5_hasPiece 14 p1 M) = 0 then
  some ((-2), M)
  else
  if (f_X10_isChanceStep p2 M) = 0 then
  some ((-2), M)
  else
  if (f_X10_isNoPart p3 M) = 0 then
  bnd (f_X4_meanUncracked ((1 : Int32) <<< (p1 &&& 31)) p2 M) (fun M6 =>
  some ((((f_X3_part 58 p3 M6) : Int64).toInt32), M6))
  else
  some ((-2), M)
def f_X10_mean (p1 : Int32) (p2 : Int32) (M : Mem) : Option (Int64 × Mem) :=
  if (f_X10_isChanceStep p1 M) = 0 then
  some ((-2), M)
  else
  if (f_X10_isNoPart p2 M) = 0 then
  bnd (f_X4_meanUncracked (63 : Int32) p1 M) (fun M5 =>
  some ((f_X3_part 58 p2 M5), M5))
  else
  some ((-2), M)
def f_X10_soundNow (M : Mem) : Option (Int32 × Mem) :=
  bnd (f_X10_followedCourse M) (fun M3 =>
  bnd (f_X2_neverCracked 25 M3) (fun r4 =>
  some ((f_J6_bitCount_0f7a4 r4), M3)))
def f_X10_fires (p1 : Int32) (p2 : Int32) (p3 : Int32) (M : Mem) : Option (Int32 × Mem) :=
  if (f_X5_hasZone 14 p1 M) = 0 then
  some ((-2), M)
  else
  if p2 < 1 then
  some ((-2), M)
  else
  if (200 : Int32) < p2 then
  some ((-2), M)
  else
  if (f_X5_hasStep 14 p3 M) = 0 then
  some ((-2), M)
  else
  bnd2 (f_X0_addFire 20 p1 p2 p3 M) (fun r5 M7 =>
  if r5 = 0 then
  some ((-5), M7)
  else
  letv (st M7 0 10 0) (fun M9 =>
  bnd2 (f_X10_soundNow M9) (fun r10 M12 =>
  some (r10, M12))))
def f_X10_gusts (p1 : Int32) (M : Mem) : Option (Int32 × Mem) :=
  if (f_X5_hasStepAhead 14 p1 M) = 0 then
  some ((-2), M)
  else
  bnd2 (f_X0_addGust 20 p1 M) (fun r2 M4 =>
  if r2 = 0 then
  some ((-5), M4)
  else
  letv (st M4 0 10 0) (fun M6 =>
  bnd2 (f_X10_soundNow M6) (fun r7 M9 =>
  some (r7, M9))))
def f_X10_undo (M : Mem) : Option (Int32 × Mem) :=
  if (f_X5_isTold 14 M) = 0 then
  some ((-2), M)
  else
  bnd2 (f_X0_takeBack 20 M) (fun r2 M4 =>
  if r2 = 0 then
  some ((-5), M4)
  else
  letv (st M4 0 10 0) (fun M6 =>
  some ((M6.1 20 0), M6)))
def f_X10_anew (M : Mem) : Option (Int32 × Mem) :=
  if (f_X5_isTold 14 M) = 0 then
  some ((-2), M)
  else
  letv (M.1 20 0) (fun x2 =>
  bnd (f_X0_clear 20 M) (fun M5 =>
  letv (st M5 0 10 0) (fun M6 =>
  some (x2, M6))))
def f_X10_drawn (p1 : Int32) (p2 : Int32) (M : Mem) : Option (Int32 × Mem) :=
  if (f_X5_isTold 14 M) = 0 then
  some ((-2), M)
  else
  if p1 < 0 then
  some ((-2), M)
  else
  if (2000000000 : Int32) < p1 then
  some ((-2), M)
  else
  if (f_X10_isNoPart p2 M) = 0 then
  if p2 = 0 then
  bnd (f_X4_draughtsFrom ((p1 : Int32).toInt64) M) (fun r9 =>
  some (r9, M))
  else
  bnd2 (f_X4_soundFrom ((p1 : Int32).toInt64) M) (fun r6 M8 =>
  some (r6, M8))
  else
  some ((-2), M)
def f_X10_luck (p1 : Int32) (p2 : Int32) (p3 : Int32) (M : Mem) : Option (Int32 × Mem) :=
  if (f_X5_hasPiece 14 p3 M) = 0 then
  some ((-2), M)
  else
  if p1 < 0 then
  some ((-2), M)
  else
  if p1 ≤ 2000000000 then
  if p2 < 1 then
  some ((-2), M)
  else
  if p2 ≤ 20 then
  bnd2 (f_X4_timesSound p1 p2 p3 M) (fun r6 M8 =>
  some (r6, M8))
  else
  some ((-2), M)
  else
  some ((-2), M)
def f_X10_rate (p1 : Int32) (p2 : Int32) (M : Mem) : Option (Int32 × Mem) :=
  if (f_X5_hasPiece 14 p1 M) = 0 then
  some ((-2), M)
  else
  if p2 < 0 then
  some ((-2), M)
  else
  if p2 ≤ 300 then
  if (M.1 20 0) ≤ 0 then
  if oob p1 6 = true then none else
  letv (M.1 18 (ix p1)) (fun x6 =>
  if oob p1 6 = true then none else
  letv (st M 18 (ix p1) p2) (fun M7 =>
  letv (st M7 0 10 0) (fun M9 =>
  some (x6, M9))))
  else
  some ((-5), M)
  else
  some ((-2), M)
def L_X10_slotsWithRows_4 (M : Mem) : (Int32 → Int32 → Option Int32) → Int32 → Int32 → Option Int32 := fun K_4 v1_4 v2_4 =>
  if (4 : Int32) ≤ v2_4 then
  some v1_4
  else
  if oob v2_4 4 = true then none else
  if (M.1 (rC 3 (ix v2_4)) 0) = 0 then
  K_4 v1_4 (v2_4 + 1)
  else
  K_4 (v1_4 + 1) (v2_4 + 1)
def f_X10_slotsWithRows (M : Mem) : Option Int32 :=
  lq2 (L_X10_slotsWithRows_4 M) FU 0 0
def f_X10_count (p1 : Int32) (M : Mem) : Option Int32 :=
  if p1 = 0 then
  some (M.1 14 1)
  else
  if p1 = 1 then
  some (M.1 14 2)
  else
  if p1 = 2 then
  some (M.1 14 3)
  else
  if p1 = 3 then
  some (M.1 14 4)
  else
  if p1 = 4 then
  some (M.1 14 5)
  else
  if p1 = 5 then
  some (M.1 14 6)
  else
  if p1 = 6 then
  some (M.1 14 7)
  else
  if p1 = 7 then
  some (M.1 20 0)
  else
  if p1 = 8 then
  some (M.1 14 0)
  else
  if p1 = 9 then
  some (M.1 4 1)
  else
  if p1 = 10 then
  bnd (f_X10_slotsWithRows M) (fun r12 =>
  some r12)
  else
  some (-1)
def f_X10_hasImage (p0 : Int32) (M : Mem) : Int32 :=
  if p0 < 0 then
  0
  else
  if (3 : Int32) ≤ p0 then
  0
  else
  1
def f_X10_image (p1 : Int32) (M : Mem) : Option (Int32 × Mem) :=
  if (f_X10_hasImage p1 M) = 0 then
  some ((-2), M)
  else
  if oob p1 3 = true then none else
  bnd (f_X1_copyFrom (rC 1 (ix p1)) 13 M) (fun M5 =>
  if oob p1 3 = true then none else
  letv (st M5 2 (ix p1) (vp_nar .boolean 1)) (fun M6 =>
  some (0, M6)))
def f_X10_back (p1 : Int32) (M : Mem) : Option (Int32 × Mem) :=
  if (f_X10_hasImage p1 M) = 0 then
  some ((-2), M)
  else
  if oob p1 3 = true then none else
  if (M.1 2 (ix p1)) = 0 then
  some ((-6), M)
  else
  if oob p1 3 = true then none else
  bnd (f_X1_copyFrom 13 (rC 1 (ix p1)) M) (fun M7 =>
  letv (st M7 0 10 0) (fun M8 =>
  some (0, M8)))
def f_X10_row (p1 : Int32) (p2 : Int32) (p3 : Int32) (M : Mem) : Option (Int32 × Mem) :=
  optc (f_X10_rowOf p1 M)
  (some ((-2), M))
  (fun k1 =>
  if p2 < 0 then
  some ((-2), M)
  else
  if (4 : Int32) ≤ p2 then
  some ((-2), M)
  else
  if p3 ≤ 60 then
  if (0 : Int32) ≤ p3 then
  bnd (f_X7_make k1 p2 p3 M) (fun M9 =>
  some (0, M9))
  else
  some ((-3), M)
  else
  some ((-2), M))
def f_X10_write (p1 : Int32) (p2 : Int32) (p3 : Int64) (M : Mem) : Option (Int32 × Mem) :=
  optc (f_X10_rowOf p1 M)
  (some ((-2), M))
  (fun k1 =>
  if (M.1 k1 0) = 0 then
  some ((-6), M)
  else
  bnd2 (f_X7_put k1 p2 p3 M) (fun r4 M6 =>
  if r4 = 0 then
  some ((-7), M6)
  else
  some (0, M6)))
def f_X10_paste (p1 : Int32) (p2 : Int32) (p3 : Int32) (p4 : Int32) (p5 : Int32) (M : Mem) : Option (Int32 × Mem) :=
  optc (f_X10_rowOf p1 M)
  (optc (f_X10_rowOf p3 M)
  (some ((-2), M))
  (fun k3 =>
  some ((-2), M)))
  (fun k1 =>
  optc (f_X10_rowOf p3 M)
  (some ((-2), M))
  (fun k5 =>
  if (M.1 k1 0) = 0 then
  some ((-6), M)
  else
  if (M.1 k5 0) = 0 then
  some ((-6), M)
  else
  if (M.1 k1 1) = (M.1 k5 1) then
  if (f_X7_holds k1 p2 p5 M) = 0 then
  some ((-7), M)
  else
  if (f_X7_holds k5 p4 p5 M) = 0 then
  some ((-7), M)
  else
  if oob2 p2 p5 60 = true then none else
  if oob2 p4 p5 60 = true then none else
  letv (cpL M (rC k1 3) (ix p2) (rC k5 3) (ix p4) (ix p5)) (fun M12 =>
  some (0, M12))
  else
  some ((-8), M)))
def f_X11_in (p0 : Int64) (p2 : Int64) (p4 : Int64) (M : Mem) : Int32 :=
  if (lg_cmp p0 p2) < 0 then
  0
  else
  if (0 : Int32) < (lg_cmp p0 p4) then
  0
  else
  1
def f_X11_isSlot (p0 : Int32) (M : Mem) : Int32 :=
  (f_X11_in ((p0 : Int32).toInt64) (0 : Int64) (3 : Int64) M)
def L_X11_row_57 (p1 : Int32) (p2 : Int32) (p3 : Int32) : (Int32 → Mem → Option (Int32 × Mem)) → Int32 → Mem → Option (Int32 × Mem) := fun K_57 v4_57 M_57 =>
  if p3 ≤ v4_57 then
  some (0, M_57)
  else
  if oob (((60 : Int32) * p1) + v4_57) 240 = true then none else
  letv (stL M_57 3 (ix (((60 : Int32) * p1) + v4_57)) 0) (fun M11 =>
  K_57 (v4_57 + 1) M11)
def f_X11_row (p1 : Int32) (p2 : Int32) (p3 : Int32) (M : Mem) : Option (Int32 × Mem) :=
  letv (st M 0 0 0) (fun M1 =>
  if (f_X11_isSlot p1 M1) = 0 then
  some ((-2), M1)
  else
  if (f_X11_in ((p2 : Int32).toInt64) (0 : Int64) (3 : Int64) M1) = 0 then
  some ((-2), M1)
  else
  if p3 ≤ 60 then
  if (0 : Int32) ≤ p3 then
  if oob p1 4 = true then none else
  letv (st M1 1 (ix p1) p2) (fun M6 =>
  if oob p1 4 = true then none else
  letv (st M6 2 (ix p1) p3) (fun M8 =>
  lq2 (L_X11_row_57 p1 p2 p3) FU 0 M8))
  else
  some ((-3), M1)
  else
  some ((-2), M1))
def f_X11_cut (p0 : Int64) (p2 : Int32) (M : Mem) : Int64 :=
  if p2 = 0 then
  ((((((p0 : Int64).toInt32) : Int32).toInt8.toInt32) : Int32).toInt64)
  else
  if p2 = 1 then
  ((((((p0 : Int64).toInt32) : Int32).toInt16.toInt32) : Int32).toInt64)
  else
  if p2 = 2 then
  ((((p0 : Int64).toInt32) : Int32).toInt64)
  else
  p0
def f_X11_write (p1 : Int32) (p2 : Int32) (p3 : Int64) (M : Mem) : Option (Int32 × Mem) :=
  letv (st M 0 0 0) (fun M1 =>
  if (f_X11_isSlot p1 M1) = 0 then
  some ((-2), M1)
  else
  if oob p1 4 = true then none else
  if (M1.1 1 (ix p1)) = (-1) then
  some ((-6), M1)
  else
  if oob p1 4 = true then none else
  if (f_X11_in ((p2 : Int32).toInt64) (0 : Int64) ((((M1.1 2 (ix p1)) - (1 : Int32)) : Int32).toInt64) M1) = 0 then
  some ((-7), M1)
  else
  if oob p1 4 = true then none else
  if oob (((60 : Int32) * p1) + p2) 240 = true then none else
  letv (stL M1 3 (ix (((60 : Int32) * p1) + p2)) (f_X11_cut p3 (M1.1 1 (ix p1)) M1)) (fun M8 =>
  some (0, M8)))
def L_X11_paste_155 (p1 : Int32) (p2 : Int32) (p3 : Int32) (p4 : Int32) (p5 : Int32) : (Int32 → Mem → Option (Int32 × Mem)) → Int32 → Mem → Option (Int32 × Mem) := fun K_155 v6_155 M_155 =>
  if p5 ≤ v6_155 then
  some (0, M_155)
  else
  if oob v6_155 60 = true then none else
  if oob ((((60 : Int32) * p3) + p4) + v6_155) 240 = true then none else
  letv (stL M_155 3 (ix ((((60 : Int32) * p3) + p4) + v6_155)) (M_155.2 4 (ix v6_155))) (fun M21 =>
  K_155 (v6_155 + 1) M21)
def L_X11_paste_118 (p1 : Int32) (p2 : Int32) (p3 : Int32) (p4 : Int32) (p5 : Int32) : (Int32 → Mem → Option (Int32 × Mem)) → Int32 → Mem → Option (Int32 × Mem) := fun K_118 v6_118 M_118 =>
  if p5 ≤ v6_118 then
  lq2 (L_X11_paste_155 p1 p2 p3 p4 p5) FU 0 M_118
  else
  if oob ((((60 : Int32) * p1) + p2) + v6_118) 240 = true then none else
  if oob v6_118 60 = true then none else
  letv (stL M_118 4 (ix v6_118) (M_118.2 3 (ix ((((60 : Int32) * p1) + p2) + v6_118)))) (fun M24 =>
  K_118 (v6_118 + 1) M24)
def f_X11_paste (p1 : Int32) (p2 : Int32) (p3 : Int32) (p4 : Int32) (p5 : Int32) (M : Mem) : Option (Int32 × Mem) :=
  letv (st M 0 0 0) (fun M1 =>
  if (f_X11_isSlot p1 M1) = 0 then
  some ((-2), M1)
  else
  if (f_X11_isSlot p3 M1) = 0 then
  some ((-2), M1)
  else
  if oob p1 4 = true then none else
  if (M1.1 1 (ix p1)) = (-1) then
  some ((-6), M1)
  else
  if oob p3 4 = true then none else
  if (M1.1 1 (ix p3)) = (-1) then
  some ((-6), M1)
  else
  if oob p1 4 = true then none else
  if oob p3 4 = true then none else
  if (M1.1 1 (ix p1)) = (M1.1 1 (ix p3)) then
  if p2 < 0 then
  some ((-7), M1)
  else
  if p4 < 0 then
  some ((-7), M1)
  else
  if p5 < 0 then
  some ((-7), M1)
  else
  if oob p1 4 = true then none else
  if (0 : Int32) < (lg_cmp (((p2 : Int32).toInt64) + ((p5 : Int32).toInt64)) (((M1.1 2 (ix p1)) : Int32).toInt64)) then
  some ((-7), M1)
  else
  if oob p3 4 = true then none else
  if (lg_cmp (((p4 : Int32).toInt64) + ((p5 : Int32).toInt64)) (((M1.1 2 (ix p3)) : Int32).toInt64)) ≤ 0 then
  lq2 (L_X11_paste_118 p1 p2 p3 p4 p5) FU 0 M1
  else
  some ((-7), M1)
  else
  some ((-8), M1))
def L_X11_four_3 (p1 : Int32) : (Int32 → Mem → Option Mem) → Int32 → Mem → Option Mem := fun K_3 v2_3 M_3 =>
  if v2_3 < 0 then
  some M_3
  else
  if oob (M_3.1 0 6) 600 = true then none else
  letv (st M_3 5 (ix (M_3.1 0 6)) (vp_nar .byte (((p1 >>> (v2_3 &&& 31)) : Int32).toInt8.toInt32))) (fun M2 =>
  letv (st M2 0 6 ((M2.1 0 6) + (1 : Int32))) (fun M4 =>
  K_3 (v2_3 + (-8)) M4))
def f_X11_four (p1 : Int32) (M : Mem) : Option Mem :=
  lq2 (L_X11_four_3 p1) FU 24 M
def f_X11_feed (p1 : Int32) (p2 : Int32) (p3 : Int32) (p4 : Int32) (p5 : Int32) (M : Mem) : Option (Int32 × Mem) :=
  letv (st M 0 0 0) (fun M1 =>
  if ((M1.1 0 6) + (20 : Int32)) ≤ 600 then
  bnd (f_X11_four p1 M1) (fun M5 =>
  bnd (f_X11_four p2 M5) (fun M8 =>
  bnd (f_X11_four p3 M8) (fun M11 =>
  bnd (f_X11_four p4 M11) (fun M14 =>
  bnd (f_X11_four p5 M14) (fun M17 =>
  some ((M17.1 0 6), M17))))))
  else
  some ((-1), M1))
def f_X11_end (p1 : Int32) (M : Mem) : Option (Int32 × Mem) :=
  letv (st M 0 0 0) (fun M1 =>
  if (f_X11_in ((p1 : Int32).toInt64) (0 : Int64) (((M1.1 0 6) : Int32).toInt64) M1) = 0 then
  some ((-1), M1)
  else
  letv (st M1 0 6 p1) (fun M3 =>
  some (p1, M3)))
def f_X11_isByte (p1 : Int32) (p2 : Int32) (p3 : Int32) (M : Mem) : Option Int32 :=
  if (M.1 0 6) ≤ p1 then
  some 0
  else
  if oob p1 600 = true then none else
  if (M.1 5 (ix p1)) < p2 then
  some 0
  else
  if oob p1 600 = true then none else
  if p3 < (M.1 5 (ix p1)) then
  some 0
  else
  some 1
def L_X11_next_208 : (Mem → Option Mem) → Mem → Option Mem := fun K_208 M_208 =>
  bnd (f_X11_isByte (M_208.1 0 7) (48 : Int32) (57 : Int32) M_208) (fun r25 =>
  if r25 = 0 then
  some M_208
  else
  if (M_208.1 0 10) ≤ 100000 then
  if oob (M_208.1 0 7) 600 = true then none else
  letv (st M_208 0 10 ((((10 : Int32) * (M_208.1 0 10)) + (M_208.1 5 (ix (M_208.1 0 7)))) - (48 : Int32))) (fun M30 =>
  letv (st M30 0 7 ((M30.1 0 7) + (1 : Int32))) (fun M31 =>
  K_208 M31))
  else
  letv (st M_208 0 10 1000000) (fun M32 =>
  letv (st M32 0 7 ((M32.1 0 7) + (1 : Int32))) (fun M33 =>
  K_208 M33)))
def J_X11_next_153 (K_102 : Int32 → Mem → Option Mem) (v1_153 : Int32) (w1_153 : Int64) (M_153 : Mem) : Option Mem :=
  letv (stL M_153 0 11 w1_153) (fun M40 =>
  if v1_153 ≤ 11 then
  letv (st M40 0 7 ((M40.1 0 7) + (1 : Int32))) (fun M42 =>
  K_102 (v1_153 + 1) M42)
  else
  letv (stL M40 0 11 (-1)) (fun M43 =>
  letv (st M43 0 7 ((M43.1 0 7) + (1 : Int32))) (fun M44 =>
  K_102 (v1_153 + 1) M44)))
def L_X11_next_102 : (Int32 → Mem → Option Mem) → Int32 → Mem → Option Mem := fun K_102 v1_102 M_102 =>
  bnd (f_X11_isByte (M_102.1 0 7) (97 : Int32) (122 : Int32) M_102) (fun r35 =>
  if r35 = 0 then
  some M_102
  else
  if v1_102 ≤ 11 then
  if oob (M_102.1 0 7) 600 = true then none else
  J_X11_next_153 K_102 v1_102 ((((27 : Int64) * (M_102.2 0 11)) + (((M_102.1 5 (ix (M_102.1 0 7))) : Int32).toInt64)) - (96 : Int64)) M_102
  else
  J_X11_next_153 K_102 v1_102 (-1) M_102)
def L_X11_next_0 : (Mem → Option Mem) → Mem → Option Mem := fun K_0 M_0 =>
  bnd (f_X11_isByte (M_0.1 0 7) (32 : Int32) (32 : Int32) M_0) (fun r1 =>
  if r1 = 0 then
  bnd (f_X11_isByte (M_0.1 0 7) (10 : Int32) (10 : Int32) M_0) (fun r5 =>
  if r5 = 0 then
  letv (st M_0 0 9 (M_0.1 0 7)) (fun M8 =>
  letv (st M8 0 10 0) (fun M9 =>
  letv (stL M9 0 11 0) (fun M10 =>
  if (M10.1 0 7) = (M10.1 0 6) then
  letv (st M10 0 8 0) (fun M45 =>
  some M45)
  else
  bnd (f_X11_isByte (M10.1 0 7) (97 : Int32) (122 : Int32) M10) (fun r12 =>
  if r12 = 0 then
  bnd (f_X11_isByte (M10.1 0 7) (48 : Int32) (57 : Int32) M10) (fun r15 =>
  if r15 = 0 then
  if oob (M10.1 0 7) 600 = true then none else
  if (M10.1 5 (ix (M10.1 0 7))) = 59 then
  letv (st M10 0 8 3) (fun M22 =>
  letv (st M22 0 7 ((M22.1 0 7) + (1 : Int32))) (fun M23 =>
  some M23))
  else
  letv (st M10 0 8 4) (fun M20 =>
  letv (st M20 0 7 ((M20.1 0 7) + (1 : Int32))) (fun M21 =>
  some M21))
  else
  letv (st M10 0 8 2) (fun M24 =>
  lq1 (L_X11_next_208) FU M24))
  else
  letv (st M10 0 8 1) (fun M34 =>
  lq2 (L_X11_next_102) FU 0 M34)))))
  else
  letv (st M_0 0 7 ((M_0.1 0 7) + (1 : Int32))) (fun M46 =>
  K_0 M46))
  else
  letv (st M_0 0 7 ((M_0.1 0 7) + (1 : Int32))) (fun M4 =>
  K_0 M4))
def f_X11_next (M : Mem) : Option Mem :=
  lq1 (L_X11_next_0) FU M
def f_X11_isGood (M : Mem) : Int32 :=
  if (M.1 0 12) = 0 then
  1
  else
  0
def f_X11_fails (p1 : Int32) (M : Mem) : Option Mem :=
  if (M.1 0 12) = 0 then
  letv (st M 0 12 p1) (fun M2 =>
  letv (st M2 0 13 (M2.1 0 9)) (fun M3 =>
  some M3))
  else
  some M
def f_X11_is (p1 : Int64) (M : Mem) : Int32 :=
  if (M.1 0 12) = 0 then
  if (M.1 0 8) = 1 then
  if (lg_cmp (M.2 0 11) p1) = 0 then
  1
  else
  0
  else
  0
  else
  0
def f_X11_takesWord (p1 : Int64) (M : Mem) : Option (Int32 × Mem) :=
  if (f_X11_is p1 M) = 0 then
  some (0, M)
  else
  bnd (f_X11_next M) (fun M4 =>
  some (1, M4))
def f_X11_asks (p1 : Int64) (M : Mem) : Option Mem :=
  bnd2 (f_X11_takesWord p1 M) (fun r1 M3 =>
  if r1 = 0 then
  bnd (f_X11_fails (1 : Int32) M3) (fun M7 =>
  some M7)
  else
  some M3)
def f_X11_number (p1 : Int32) (p2 : Int32) (M : Mem) : Option (Int32 × Mem) :=
  if (M.1 0 12) = 0 then
  if (M.1 0 8) = 2 then
  if (f_X11_in (((M.1 0 10) : Int32).toInt64) ((p1 : Int32).toInt64) ((p2 : Int32).toInt64) M) = 0 then
  bnd (f_X11_fails (2 : Int32) M) (fun M10 =>
  some (p1, M10))
  else
  letv (M.1 0 10) (fun x4 =>
  bnd (f_X11_next M) (fun M7 =>
  some (x4, M7)))
  else
  bnd (f_X11_fails (1 : Int32) M) (fun M13 =>
  some (p1, M13))
  else
  some (p1, M)
def f_X11_number_ (p1 : Int64) (p3 : Int32) (p4 : Int32) (M : Mem) : Option (Int32 × Mem) :=
  bnd (f_X11_asks p1 M) (fun M3 =>
  bnd2 (f_X11_number p3 p4 M3) (fun r4 M6 =>
  some (r4, M6)))
def f_X11_ends (M : Mem) : Option Mem :=
  if (M.1 0 8) = 3 then
  if (M.1 0 12) = 0 then
  bnd (f_X11_next M) (fun M5 =>
  some M5)
  else
  some M
  else
  bnd (f_X11_fails (1 : Int32) M) (fun M8 =>
  if (M8.1 0 12) = 0 then
  bnd (f_X11_next M8) (fun M12 =>
  some M12)
  else
  some M8)
def f_X11_begins (M : Mem) : Option Mem :=
  letv (st M 0 12 0) (fun M1 =>
  letv (st M1 0 13 (-1)) (fun M2 =>
  letv (st M2 0 7 0) (fun M3 =>
  bnd (f_X11_next M3) (fun M6 =>
  some M6))))
def f_X11_isOver (M : Mem) : Option Mem :=
  letv (st M 0 6 0) (fun M1 =>
  letv (st M1 0 14 (M1.1 0 12)) (fun M2 =>
  if (M2.1 0 12) = 0 then
  letv (st M2 0 15 (-1)) (fun M5 =>
  some M5)
  else
  letv (st M2 0 15 (M2.1 0 13)) (fun M4 =>
  some M4)))
def f_X11_fault (p1 : Int32) (M : Mem) : Option (Int32 × Mem) :=
  letv (st M 0 0 0) (fun M1 =>
  if p1 = 0 then
  some ((M1.1 0 14), M1)
  else
  if p1 = 1 then
  some ((M1.1 0 15), M1)
  else
  some ((-1), M1))
def f_X11_hasRead (p1 : Int32) (M : Mem) : Option Int32 :=
  if oob ((32 : Int32) + p1) 40 = true then none else
  some (M.1 7 (ix ((32 : Int32) + p1)))
def f_X11_tells (p1 : Int32) (p2 : Int32) (M : Mem) : Option Mem :=
  if oob ((32 : Int32) + p1) 40 = true then none else
  letv (st M 7 (ix ((32 : Int32) + p1)) p2) (fun M1 =>
  some M1)
def f_X11_pieceLine (M : Mem) : Option Mem :=
  bnd (f_X11_hasRead (6 : Int32) M) (fun r1 =>
  letv ((4 : Int32) * ((24 : Int32) + r1)) (fun x3 =>
  bnd2 (f_X11_number_ (161156 : Int64) (0 : Int32) (600 : Int32) M) (fun r4 M6 =>
  if oob x3 120 = true then none else
  letv (st M6 9 (ix x3) r4) (fun M7 =>
  bnd2 (f_X11_number_ (10792937 : Int64) (1 : Int32) (9 : Int32) M7) (fun r9 M11 =>
  if oob (x3 + (1 : Int32)) 120 = true then none else
  letv (st M11 9 (ix (x3 + (1 : Int32))) r9) (fun M12 =>
  bnd2 (f_X11_number_ (1162531 : Int64) (0 : Int32) (300 : Int32) M12) (fun r14 M16 =>
  if oob (x3 + (2 : Int32)) 120 = true then none else
  letv (st M16 9 (ix (x3 + (2 : Int32))) r14) (fun M17 =>
  bnd2 (f_X11_number_ (47 : Int64) (0 : Int32) (14 : Int32) M17) (fun r19 M21 =>
  if oob (x3 + (3 : Int32)) 120 = true then none else
  letv (st M21 9 (ix (x3 + (3 : Int32))) r19) (fun M22 =>
  bnd (f_X11_hasRead (6 : Int32) M22) (fun r24 =>
  bnd (f_X11_tells (6 : Int32) (r24 + (1 : Int32)) M22) (fun M28 =>
  some M28))))))))))))
def J_X11_isRoom_33 (p1 : Int32) (p2 : Int32) (p3 : Int32) (M_33 : Mem) : Option (Int32 × Mem) :=
  if p1 = 0 then
  some (0, M_33)
  else
  if (M_33.1 0 12) = 0 then
  some (1, M_33)
  else
  some (0, M_33)
def J_X11_isRoom_18 (p1 : Int32) (p2 : Int32) (p3 : Int32) (M_18 : Mem) : Option (Int32 × Mem) :=
  if p1 = 0 then
  J_X11_isRoom_33 p1 p2 p3 M_18
  else
  if (M_18.1 0 12) = 0 then
  bnd (f_X11_next M_18) (fun M8 =>
  J_X11_isRoom_33 p1 p2 p3 M8)
  else
  J_X11_isRoom_33 p1 p2 p3 M_18
def f_X11_isRoom (p1 : Int32) (p2 : Int32) (p3 : Int32) (M : Mem) : Option (Int32 × Mem) :=
  if p1 = 0 then
  J_X11_isRoom_18 p1 p2 p3 M
  else
  bnd (f_X11_hasRead p2 M) (fun r9 =>
  if r9 = p3 then
  bnd (f_X11_fails (3 : Int32) M) (fun M14 =>
  J_X11_isRoom_18 p1 p2 p3 M14)
  else
  J_X11_isRoom_18 p1 p2 p3 M)
def f_X11_lineHere (M : Mem) : Option Mem :=
  bnd2 (f_X11_isRoom (f_X11_is (523076 : Int64) M) (5 : Int32) (7 : Int32) M) (fun r1 M3 =>
  if r1 = 0 then
  if (M3.1 0 12) = 0 then
  bnd2 (f_X11_isRoom (f_X11_is (8683934 : Int64) M3) (6 : Int32) (6 : Int32) M3) (fun r10 M12 =>
  if r10 = 0 then
  if (M12.1 0 12) = 0 then
  bnd (f_X11_fails (1 : Int32) M12) (fun M17 =>
  some M17)
  else
  some M12
  else
  bnd (f_X11_pieceLine M12) (fun M20 =>
  some M20))
  else
  if (M3.1 0 12) = 0 then
  bnd (f_X11_fails (1 : Int32) M3) (fun M9 =>
  some M9)
  else
  some M3
  else
  bnd (f_X11_hasRead (5 : Int32) M3) (fun r21 =>
  bnd2 (f_X11_number (0 : Int32) (600 : Int32) M3) (fun r23 M25 =>
  if oob ((28 : Int32) + r21) 35 = true then none else
  letv (st M25 8 (ix ((28 : Int32) + r21)) r23) (fun M26 =>
  bnd (f_X11_hasRead (5 : Int32) M26) (fun r28 =>
  bnd (f_X11_tells (5 : Int32) (r28 + (1 : Int32)) M26) (fun M32 =>
  some M32))))))
def L_X11_clears_9 : (Int32 → Mem → Option Mem) → Int32 → Mem → Option Mem := fun K_9 v1_9 M_9 =>
  if (8 : Int32) ≤ v1_9 then
  some M_9
  else
  bnd (f_X11_tells v1_9 (0 : Int32) M_9) (fun M6 =>
  K_9 (v1_9 + 1) M6)
def f_X11_clears (M : Mem) : Option Mem :=
  if oob 4 5 = true then none else
  letv (st M 6 (ix 4) 0) (fun M1 =>
  lq2 (L_X11_clears_9) FU 0 M1)
def L_X11_copyRow_3 (p0 : Nat) (p1 : Int32) (p2 : Int32) (p3 : Int32) (np0 : Nat) : (Int32 → Mem → Option Mem) → Int32 → Mem → Option Mem := fun K_3 v4_3 M_3 =>
  if p1 ≤ v4_3 then
  some M_3
  else
  if oob ((p1 * p2) + v4_3) np0 = true then none else
  if oob ((p1 * p3) + v4_3) np0 = true then none else
  letv (st M_3 p0 (ix ((p1 * p3) + v4_3)) (M_3.1 p0 (ix ((p1 * p2) + v4_3)))) (fun M3 =>
  K_3 (v4_3 + 1) M3)
def f_X11_copyRow (p0 : Nat) (p1 : Int32) (p2 : Int32) (p3 : Int32) (np0 : Nat) (M : Mem) : Option Mem :=
  lq2 (L_X11_copyRow_3 p0 p1 p2 p3 np0) FU 0 M
def f_X11_copyLehr (p1 : Int32) (p2 : Int32) (M : Mem) : Option Mem :=
  bnd (f_X11_copyRow 6 (1 : Int32) p1 p2 5 M) (fun M3 =>
  bnd (f_X11_copyRow 7 (8 : Int32) p1 p2 40 M3) (fun M6 =>
  bnd (f_X11_copyRow 8 (7 : Int32) p1 p2 35 M6) (fun M9 =>
  bnd (f_X11_copyRow 9 (24 : Int32) p1 p2 120 M9) (fun M12 =>
  bnd (f_X11_copyRow 10 (120 : Int32) p1 p2 600 M12) (fun M15 =>
  some M15)))))
def J_X11_lehr_148 (M_148 : Mem) : Option (Int32 × Mem) :=
  bnd (f_X11_isOver M_148) (fun M11 =>
  if (M11.1 0 12) = 0 then
  bnd (f_X11_copyLehr (4 : Int32) (0 : Int32) M11) (fun M15 =>
  if oob 0 5 = true then none else
  some ((M15.1 6 (ix 0)), M15))
  else
  some ((-4), M11))
def J_X11_lehr_135 (K_13 : Mem → Option (Int32 × Mem)) (M_135 : Mem) : Option (Int32 × Mem) :=
  if oob 4 5 = true then none else
  if oob 4 5 = true then none else
  letv (st M_135 6 (ix 4) ((M_135.1 6 (ix 4)) + (1 : Int32))) (fun M25 =>
  K_13 M25)
def L_X11_lehr_13 : (Mem → Option (Int32 × Mem)) → Mem → Option (Int32 × Mem) := fun K_13 M_13 =>
  if (f_X11_isGood M_13) = 0 then
  J_X11_lehr_148 M_13
  else
  if (M_13.1 0 8) = 0 then
  J_X11_lehr_148 M_13
  else
  if oob 4 5 = true then none else
  if (M_13.1 6 (ix 4)) = 0 then
  bnd (f_X11_asks (240075 : Int64) M_13) (fun M32 =>
  bnd2 (f_X11_number_ (10495135 : Int64) (1 : Int32) (14 : Int32) M32) (fun r33 M35 =>
  bnd (f_X11_tells (0 : Int32) r33 M35) (fun M38 =>
  bnd2 (f_X11_number_ (8798 : Int64) (0 : Int32) (3 : Int32) M38) (fun r39 M41 =>
  bnd (f_X11_tells (1 : Int32) r39 M41) (fun M44 =>
  bnd2 (f_X11_number_ (298288 : Int64) (0 : Int32) (10 : Int32) M44) (fun r45 M47 =>
  bnd (f_X11_tells (2 : Int32) r45 M47) (fun M50 =>
  bnd2 (f_X11_number_ (315743 : Int64) (1 : Int32) (4 : Int32) M50) (fun r51 M53 =>
  bnd (f_X11_tells (3 : Int32) r51 M53) (fun M56 =>
  bnd2 (f_X11_number_ (14006 : Int64) (0 : Int32) (600 : Int32) M56) (fun r57 M59 =>
  bnd (f_X11_tells (4 : Int32) r57 M59) (fun M62 =>
  if (f_X11_isGood M62) = 0 then
  J_X11_lehr_135 K_13 M62
  else
  bnd (f_X11_ends M62) (fun M66 =>
  J_X11_lehr_135 K_13 M66))))))))))))
  else
  bnd (f_X11_lineHere M_13) (fun M22 =>
  if (f_X11_isGood M22) = 0 then
  J_X11_lehr_135 K_13 M22
  else
  bnd (f_X11_ends M22) (fun M29 =>
  J_X11_lehr_135 K_13 M29))
def f_X11_lehr (M : Mem) : Option (Int32 × Mem) :=
  letv (st M 0 0 0) (fun M1 =>
  bnd (f_X11_clears M1) (fun M4 =>
  bnd (f_X11_begins M4) (fun M7 =>
  lq1 (L_X11_lehr_13) FU M7)))
def f_X11_isLehr (M : Mem) : Option Int32 :=
  if oob 0 5 = true then none else
  if (M.1 6 (ix 0)) ≤ 0 then
  some 0
  else
  some 1
def f_X11_steps (M : Mem) : Option Int32 :=
  if oob 0 40 = true then none else
  some (M.1 7 (ix 0))
def f_X11_pieces (M : Mem) : Option Int32 :=
  if oob 6 40 = true then none else
  some (M.1 7 (ix 6))
def f_X11_isZone (p1 : Int32) (M : Mem) : Option Int32 :=
  if oob 5 40 = true then none else
  some (f_X11_in ((p1 : Int32).toInt64) (0 : Int64) ((((M.1 7 (ix 5)) : Int32).toInt64) - (1 : Int64)) M)
def f_X11_isPiece (p1 : Int64) (M : Mem) : Option Int32 :=
  bnd (f_X11_pieces M) (fun r1 =>
  some (f_X11_in p1 (0 : Int64) (((r1 : Int32).toInt64) - (1 : Int64)) M))
def f_X11_isStep (p1 : Int64) (M : Mem) : Option Int32 :=
  bnd (f_X11_isLehr M) (fun r1 =>
  if r1 = 0 then
  some 0
  else
  bnd (f_X11_steps M) (fun r4 =>
  if (f_X11_in p1 (0 : Int64) ((r4 : Int32).toInt64) M) = 0 then
  some 0
  else
  some 1))
def f_X11_isAhead (p1 : Int32) (M : Mem) : Option Int32 :=
  bnd (f_X11_steps M) (fun r1 =>
  some (f_X11_in ((p1 : Int32).toInt64) (0 : Int64) (((r1 : Int32).toInt64) - (1 : Int64)) M))
def f_X11_isThen (p1 : Int32) (p2 : Int32) (M : Mem) : Option Int32 :=
  bnd (f_X11_isPiece ((p1 : Int32).toInt64) M) (fun r1 =>
  if r1 = 0 then
  some 0
  else
  bnd (f_X11_isStep ((p2 : Int32).toInt64) M) (fun r4 =>
  if r4 = 0 then
  some 0
  else
  some 1))
def f_X11_isHalf (p0 : Int32) (M : Mem) : Int32 :=
  (f_X11_in ((p0 : Int32).toInt64) (0 : Int64) (1 : Int64) M)
def f_X11_isBit (p0 : Int32) (p1 : Int32) (M : Mem) : Int32 :=
  if ((p0 >>> (p1 &&& 31)) &&& (1 : Int32)) = 1 then
  1
  else
  0
def L_X11_sizeOf_4 (p0 : Int32) (M : Mem) : (Int32 → Int32 → Option Int32) → Int32 → Int32 → Option Int32 := fun K_4 v1_4 v2_4 =>
  if v2_4 = 0 then
  some v1_4
  else
  letv (v2_4 &&& (v2_4 - (1 : Int32))) (fun x2 =>
  K_4 (v1_4 + 1) x2)
def f_X11_sizeOf (p0 : Int32) (M : Mem) : Option Int32 :=
  lq2 (L_X11_sizeOf_4 p0 M) FU 0 p0
def f_X11_lessOf (p0 : Int32) (p1 : Int32) (M : Mem) : Int32 :=
  if p1 ≤ p0 then
  p1
  else
  p0
def f_X11_moreOf (p0 : Int32) (p1 : Int32) (M : Mem) : Int32 :=
  if p0 ≤ p1 then
  p1
  else
  p0
def f_X11_apart (p0 : Int32) (p1 : Int32) (M : Mem) : Int32 :=
  if p1 ≤ p0 then
  (p0 - p1)
  else
  (p1 - p0)
def L_X11_lays_73 : (Int32 → Mem → Option Mem) → Int32 → Mem → Option Mem := fun K_73 v1_73 M_73 =>
  bnd (f_X11_pieces M_73) (fun r10 =>
  if r10 ≤ v1_73 then
  some M_73
  else
  if oob (((4 : Int32) * v1_73) + (1 : Int32)) 120 = true then none else
  if oob v1_73 6 = true then none else
  letv (st M_73 13 (ix v1_73) (M_73.1 9 (ix (((4 : Int32) * v1_73) + (1 : Int32))))) (fun M14 =>
  if oob (((4 : Int32) * v1_73) + (2 : Int32)) 120 = true then none else
  if oob v1_73 6 = true then none else
  letv (st M14 14 (ix v1_73) (M14.1 9 (ix (((4 : Int32) * v1_73) + (2 : Int32))))) (fun M17 =>
  K_73 (v1_73 + 1) M17)))
def L_X11_lays_45 : (Int32 → Mem → Option Mem) → Int32 → Mem → Option Mem := fun K_45 v1_45 M_45 =>
  if (M_45.1 0 25) ≤ v1_45 then
  lq2 (L_X11_lays_73) FU 0 M_45
  else
  if oob v1_45 35 = true then none else
  if oob v1_45 7 = true then none else
  letv (st M_45 12 (ix v1_45) (M_45.1 8 (ix v1_45))) (fun M20 =>
  K_45 (v1_45 + 1) M20)
def f_X11_lays (M : Mem) : Option Mem :=
  if oob 1 40 = true then none else
  letv (st M 0 22 (M.1 7 (ix 1))) (fun M2 =>
  if oob 3 40 = true then none else
  letv (st M2 0 23 (M2.1 7 (ix 3))) (fun M4 =>
  letv (st M4 0 24 0) (fun M5 =>
  if oob 5 40 = true then none else
  letv (st M5 0 25 (M5.1 7 (ix 5))) (fun M7 =>
  letv (st M7 0 26 (M7.1 0 25)) (fun M8 =>
  lq2 (L_X11_lays_45) FU 0 M8)))))
def L_X11_skips_17 (p1 : Int32) : (Int32 → Mem → Option Mem) → Int32 → Mem → Option Mem := fun K_17 v2_17 M_17 =>
  if (M_17.1 0 25) ≤ v2_17 then
  some M_17
  else
  if oob (v2_17 + (1 : Int32)) 35 = true then none else
  if oob v2_17 7 = true then none else
  letv (st M_17 12 (ix v2_17) (M_17.1 8 (ix (v2_17 + (1 : Int32))))) (fun M5 =>
  K_17 (v2_17 + 1) M5)
def f_X11_skips (p1 : Int32) (M : Mem) : Option Mem :=
  letv (st M 0 25 ((M.1 0 25) - (1 : Int32))) (fun M1 =>
  letv (st M1 0 26 p1) (fun M2 =>
  lq2 (L_X11_skips_17 p1) FU p1 M2))
def J_X11_airOf_114 (p1 : Int32) (p2 : Int32) (M : Mem) (K_20 : Int32 → Int32 → Int32 → Option Int32) (v3_114 : Int32) (v4_114 : Int32) (v5_114 : Int32) : Option Int32 :=
  if oob ((4 : Int32) * v5_114) 600 = true then none else
  if (M.1 10 (ix ((4 : Int32) * v5_114))) = 1 then
  if oob (((4 : Int32) * v5_114) + (3 : Int32)) 600 = true then none else
  if (M.1 10 (ix (((4 : Int32) * v5_114) + (3 : Int32)))) = p2 then
  letv (v4_114 ||| (1 : Int32)) (fun x18 =>
  K_20 v3_114 x18 (v5_114 + 1))
  else
  letv (v4_114 ||| (0 : Int32)) (fun x17 =>
  K_20 v3_114 x17 (v5_114 + 1))
  else
  letv (v4_114 ||| (0 : Int32)) (fun x14 =>
  K_20 v3_114 x14 (v5_114 + 1))
def J_X11_airOf_66 (p1 : Int32) (p2 : Int32) (M : Mem) (K_20 : Int32 → Int32 → Int32 → Option Int32) (v3_66 : Int32) (v4_66 : Int32) (v5_66 : Int32) (w0_66 : Int32) : Option Int32 :=
  if oob ((4 : Int32) * v5_66) 600 = true then none else
  if (M.1 10 (ix ((4 : Int32) * v5_66))) = 0 then
  if w0_66 = 0 then
  J_X11_airOf_114 p1 p2 M K_20 v3_66 v4_66 v5_66
  else
  if oob (((4 : Int32) * v5_66) + (3 : Int32)) 600 = true then none else
  if p2 < (M.1 10 (ix (((4 : Int32) * v5_66) + (3 : Int32)))) then
  J_X11_airOf_114 p1 p2 M K_20 v3_66 v4_66 v5_66
  else
  if oob (((4 : Int32) * v5_66) + (2 : Int32)) 600 = true then none else
  letv (v3_66 + (M.1 10 (ix (((4 : Int32) * v5_66) + (2 : Int32))))) (fun x23 =>
  J_X11_airOf_114 p1 p2 M K_20 x23 v4_66 v5_66)
  else
  J_X11_airOf_114 p1 p2 M K_20 v3_66 v4_66 v5_66
def L_X11_airOf_20 (p1 : Int32) (p2 : Int32) (M : Mem) : (Int32 → Int32 → Int32 → Option Int32) → Int32 → Int32 → Int32 → Option Int32 := fun K_20 v3_20 v4_20 v5_20 =>
  if oob 7 40 = true then none else
  if (M.1 7 (ix 7)) ≤ v5_20 then
  if v4_20 = 0 then
  some v3_20
  else
  some (f_X11_moreOf (0 : Int32) (v3_20 - (80 : Int32)) M)
  else
  if oob (((4 : Int32) * v5_20) + (1 : Int32)) 600 = true then none else
  if (M.1 0 26) ≤ p1 then
  if (M.1 10 (ix (((4 : Int32) * v5_20) + (1 : Int32)))) = (p1 + (1 : Int32)) then
  J_X11_airOf_66 p1 p2 M K_20 v3_20 v4_20 v5_20 1
  else
  J_X11_airOf_66 p1 p2 M K_20 v3_20 v4_20 v5_20 0
  else
  if (M.1 10 (ix (((4 : Int32) * v5_20) + (1 : Int32)))) = p1 then
  J_X11_airOf_66 p1 p2 M K_20 v3_20 v4_20 v5_20 1
  else
  J_X11_airOf_66 p1 p2 M K_20 v3_20 v4_20 v5_20 0
def f_X11_airOf (p1 : Int32) (p2 : Int32) (M : Mem) : Option Int32 :=
  if oob p1 7 = true then none else
  letv (M.1 12 (ix p1)) (fun x2 =>
  letv (f_X11_isBit (M.1 0 24) p2 M) (fun x3 =>
  lq3 (L_X11_airOf_20 p1 p2 M) FU x2 x3 0))
def f_X11_comes (p1 : Int32) (M : Mem) : Option Int32 :=
  if oob (((4 : Int32) * p1) + (3 : Int32)) 120 = true then none else
  some (M.1 9 (ix (((4 : Int32) * p1) + (3 : Int32))))
def f_X11_whereOf (p1 : Int32) (p2 : Int32) (M : Mem) : Option Int32 :=
  bnd (f_X11_comes p1 M) (fun r1 =>
  if r1 ≤ p2 then
  bnd (f_X11_comes p1 M) (fun r4 =>
  if (M.1 0 23) = 0 then none else
  letv ((p2 - r4) / (M.1 0 23)) (fun x7 =>
  if (M.1 0 25) ≤ x7 then
  some 10
  else
  some x7))
  else
  some (-1))
def f_X11_skinOf (p1 : Int32) (p2 : Int32) (M : Mem) : Option Int32 :=
  if oob (((6 : Int32) * p2) + p1) 90 = true then none else
  some (M.1 15 (ix (((6 : Int32) * p2) + p1)))
def f_X11_coreOf (p1 : Int32) (p2 : Int32) (M : Mem) : Option Int32 :=
  if oob (((6 : Int32) * p2) + p1) 90 = true then none else
  some (M.1 16 (ix (((6 : Int32) * p2) + p1)))
def f_X11_strainOf (p1 : Int32) (p2 : Int32) (M : Mem) : Option Int32 :=
  bnd (f_X11_skinOf p1 p2 M) (fun r1 =>
  bnd (f_X11_coreOf p1 p2 M) (fun r3 =>
  some (f_X11_apart r1 r3 M)))
def J_X11_pullOf_79 (p1 : Int32) (p2 : Int32) (p3 : Int32) (M : Mem) (v4_79 : Int32) : Option Int32 :=
  bnd (f_X11_skinOf p1 p2 M) (fun r4 =>
  letv (v4_79 - r4) (fun x6 =>
  if (M.1 0 22) = 3 then
  some (x6 / 3)
  else
  letv (x6 / 2) (fun x8 =>
  if (M.1 0 22) = 1 then
  some (f_X11_lessOf (60 : Int32) (f_X11_moreOf ((-60) : Int32) x8 M) M)
  else
  some x8)))
def L_X11_pullOf_22 (p1 : Int32) (p2 : Int32) (p3 : Int32) (M : Mem) : (Int32 → Int32 → Int32 → Option Int32) → Int32 → Int32 → Int32 → Option Int32 := fun K_22 v4_22 v5_22 v6_22 =>
  bnd (f_X11_pieces M) (fun r10 =>
  if r10 ≤ v6_22 then
  if v5_22 = 0 then none else
  letv (v4_22 / v5_22) (fun x14 =>
  J_X11_pullOf_79 p1 p2 p3 M x14)
  else
  if v6_22 = p1 then
  K_22 v4_22 v5_22 (v6_22 + 1)
  else
  bnd (f_X11_whereOf v6_22 p2 M) (fun r16 =>
  if r16 = p3 then
  bnd (f_X11_skinOf v6_22 p2 M) (fun r19 =>
  letv (v4_22 + r19) (fun x21 =>
  K_22 x21 (v5_22 + 1) (v6_22 + 1)))
  else
  K_22 v4_22 v5_22 (v6_22 + 1)))
def f_X11_pullOf (p1 : Int32) (p2 : Int32) (p3 : Int32) (M : Mem) : Option Int32 :=
  bnd (f_X11_airOf p3 p2 M) (fun r1 =>
  if (M.1 0 22) = 2 then
  lq3 (L_X11_pullOf_22 p1 p2 p3 M) FU r1 1 0
  else
  J_X11_pullOf_79 p1 p2 p3 M r1)
def J_X11_goesOn_247 (p1 : Int32) (p2 : Int32) (v6_247 : Int32) (M_247 : Mem) : Option Mem :=
  if oob p1 6 = true then none else
  letv (st M_247 19 (ix p1) (p2 + (1 : Int32))) (fun M40 =>
  if v6_247 = 0 then
  if oob p1 6 = true then none else
  letv (st M40 20 (ix p1) 2) (fun M43 =>
  some M43)
  else
  if oob p1 6 = true then none else
  letv (st M40 20 (ix p1) 1) (fun M45 =>
  some M45))
def J_X11_goesOn_210 (p1 : Int32) (p2 : Int32) (w0_210 : Int32) (M_210 : Mem) : Option Mem :=
  bnd (f_X11_strainOf p1 (p2 + (1 : Int32)) M_210) (fun r35 =>
  if oob p1 6 = true then none else
  if r35 ≤ (M_210.1 14 (ix p1)) then
  if (0 : Int32) = 0 then
  if w0_210 = 0 then
  some M_210
  else
  J_X11_goesOn_247 p1 p2 0 M_210
  else
  J_X11_goesOn_247 p1 p2 0 M_210
  else
  if (1 : Int32) = 0 then
  if w0_210 = 0 then
  some M_210
  else
  J_X11_goesOn_247 p1 p2 1 M_210
  else
  J_X11_goesOn_247 p1 p2 1 M_210)
def J_X11_goesOn_165 (p1 : Int32) (p2 : Int32) (M_165 : Mem) : Option Mem :=
  bnd (f_X11_whereOf p1 (p2 + (1 : Int32)) M_165) (fun r32 =>
  if r32 = 10 then
  if oob p1 6 = true then none else
  if (M_165.1 17 (ix p1)) = (-1) then
  J_X11_goesOn_210 p1 p2 0 M_165
  else
  if oob p1 6 = true then none else
  if oob p1 6 = true then none else
  if (M_165.1 17 (ix p1)) ≤ ((M_165.1 14 (ix p1)) / 2) then
  J_X11_goesOn_210 p1 p2 0 M_165
  else
  J_X11_goesOn_210 p1 p2 1 M_165
  else
  J_X11_goesOn_210 p1 p2 0 M_165)
def f_X11_goesOn (p1 : Int32) (p2 : Int32) (M : Mem) : Option Mem :=
  letv ((((6 : Int32) * p2) + (6 : Int32)) + p1) (fun x1 =>
  bnd (f_X11_skinOf p1 p2 M) (fun r2 =>
  if oob x1 90 = true then none else
  letv (st M 15 (ix x1) r2) (fun M4 =>
  bnd (f_X11_coreOf p1 p2 M4) (fun r6 =>
  if oob x1 90 = true then none else
  letv (st M4 16 (ix x1) r6) (fun M8 =>
  bnd (f_X11_whereOf p1 p2 M8) (fun r10 =>
  if r10 = (-1) then
  some M8
  else
  if r10 = 10 then
  some M8
  else
  if oob p1 6 = true then none else
  if (M8.1 19 (ix p1)) = (-1) then
  if oob x1 90 = true then none else
  bnd (f_X11_pullOf p1 p2 r10 M8) (fun r17 =>
  if oob x1 90 = true then none else
  letv (st M8 15 (ix x1) ((M8.1 15 (ix x1)) + r17)) (fun M19 =>
  if oob x1 90 = true then none else
  if oob x1 90 = true then none else
  if oob x1 90 = true then none else
  if oob p1 6 = true then none else
  if (M19.1 13 (ix p1)) = 0 then none else
  if oob x1 90 = true then none else
  letv (st M19 16 (ix x1) ((M19.1 16 (ix x1)) + (((M19.1 15 (ix x1)) - (M19.1 16 (ix x1))) / (M19.1 13 (ix p1))))) (fun M26 =>
  bnd (f_X11_coreOf p1 p2 M26) (fun r28 =>
  if oob 4 40 = true then none else
  if r28 < (M26.1 7 (ix 4)) then
  J_X11_goesOn_165 p1 p2 M26
  else
  if oob x1 90 = true then none else
  if oob 4 40 = true then none else
  if (M26.1 7 (ix 4)) ≤ (M26.1 16 (ix x1)) then
  J_X11_goesOn_165 p1 p2 M26
  else
  bnd (f_X11_strainOf p1 (p2 + (1 : Int32)) M26) (fun r58 =>
  if oob p1 6 = true then none else
  letv (st M26 17 (ix p1) r58) (fun M60 =>
  if oob p1 6 = true then none else
  letv (st M60 18 (ix p1) (p2 + (1 : Int32))) (fun M62 =>
  J_X11_goesOn_165 p1 p2 M62)))))))
  else
  some M8))))))
def L_X11_runs_84 (K_74 : Int32 → Mem → Option Mem) (v1_84 : Int32) : (Int32 → Mem → Option Mem) → Int32 → Mem → Option Mem := fun K_84 v2_84 M_84 =>
  bnd (f_X11_pieces M_84) (fun r7 =>
  if r7 ≤ v2_84 then
  K_74 (v1_84 + 1) M_84
  else
  bnd (f_X11_goesOn v2_84 v1_84 M_84) (fun M12 =>
  K_84 (v2_84 + 1) M12))
def L_X11_runs_74 : (Int32 → Mem → Option Mem) → Int32 → Mem → Option Mem := fun K_74 v1_74 M_74 =>
  bnd (f_X11_steps M_74) (fun r4 =>
  if r4 ≤ v1_74 then
  some M_74
  else
  lq2 (L_X11_runs_84 K_74 v1_74) FU 0 M_74)
def L_X11_runs_2 : (Int32 → Mem → Option Mem) → Int32 → Mem → Option Mem := fun K_2 v1_2 M_2 =>
  bnd (f_X11_pieces M_2) (fun r1 =>
  if r1 ≤ v1_2 then
  lq2 (L_X11_runs_74) FU 0 M_2
  else
  if oob ((4 : Int32) * v1_2) 120 = true then none else
  if oob v1_2 90 = true then none else
  letv (st M_2 15 (ix v1_2) (M_2.1 9 (ix ((4 : Int32) * v1_2)))) (fun M14 =>
  if oob ((4 : Int32) * v1_2) 120 = true then none else
  if oob v1_2 90 = true then none else
  letv (st M14 16 (ix v1_2) (M14.1 9 (ix ((4 : Int32) * v1_2)))) (fun M17 =>
  if oob v1_2 6 = true then none else
  letv (st M17 17 (ix v1_2) (-1)) (fun M19 =>
  if oob v1_2 6 = true then none else
  letv (st M19 18 (ix v1_2) (-1)) (fun M21 =>
  if oob v1_2 6 = true then none else
  letv (st M21 19 (ix v1_2) (-1)) (fun M23 =>
  if oob v1_2 6 = true then none else
  letv (st M23 20 (ix v1_2) 0) (fun M25 =>
  K_2 (v1_2 + 1) M25)))))))
def f_X11_runs (M : Mem) : Option Mem :=
  lq2 (L_X11_runs_2) FU 0 M
def f_X11_laysNow (M : Mem) : Option Mem :=
  bnd (f_X11_lays M) (fun M3 =>
  bnd (f_X11_runs M3) (fun M6 =>
  some M6))
def L_X11_soundNow_4 (M : Mem) : (Int32 → Int32 → Option Int32) → Int32 → Int32 → Option Int32 := fun K_4 v1_4 v2_4 =>
  bnd (f_X11_pieces M) (fun r1 =>
  if r1 ≤ v2_4 then
  some v1_4
  else
  if oob v2_4 6 = true then none else
  if (M.1 19 (ix v2_4)) = (-1) then
  letv (v1_4 ||| ((1 : Int32) <<< (v2_4 &&& 31))) (fun x7 =>
  K_4 x7 (v2_4 + 1))
  else
  letv (v1_4 ||| (0 : Int32)) (fun x6 =>
  K_4 x6 (v2_4 + 1)))
def f_X11_soundNow (M : Mem) : Option Int32 :=
  lq2 (L_X11_soundNow_4 M) FU 0 0
def f_X11_hasCome (p1 : Int32) (p2 : Int32) (M : Mem) : Option Int32 :=
  bnd (f_X11_comes p1 M) (fun r1 =>
  if p2 < r1 then
  some 0
  else
  some 1)
def f_X11_isWhole (p1 : Int32) (p2 : Int32) (M : Mem) : Option Int32 :=
  if oob p1 6 = true then none else
  if (M.1 19 (ix p1)) = (-1) then
  some 1
  else
  if oob p1 6 = true then none else
  if (M.1 19 (ix p1)) ≤ p2 then
  some 0
  else
  some 1
def f_X11_zone (p1 : Int32) (M : Mem) : Option (Int32 × Mem) :=
  letv (st M 0 0 0) (fun M1 =>
  bnd (f_X11_isZone p1 M1) (fun r2 =>
  if r2 = 0 then
  some ((-2), M1)
  else
  if oob p1 35 = true then none else
  some ((M1.1 8 (ix p1)), M1)))
def f_X11_piece (p1 : Int32) (p2 : Int32) (M : Mem) : Option (Int32 × Mem) :=
  letv (st M 0 0 0) (fun M1 =>
  bnd (f_X11_isPiece ((p1 : Int32).toInt64) M1) (fun r2 =>
  if r2 = 0 then
  some ((-2), M1)
  else
  if (f_X11_in ((p2 : Int32).toInt64) (0 : Int64) (3 : Int64) M1) = 0 then
  some ((-2), M1)
  else
  if oob (((4 : Int32) * p1) + p2) 120 = true then none else
  some ((M1.1 9 (ix (((4 : Int32) * p1) + p2))), M1)))
def f_X11_air (p1 : Int32) (p2 : Int32) (M : Mem) : Option (Int32 × Mem) :=
  letv (st M 0 0 0) (fun M1 =>
  bnd (f_X11_isZone p1 M1) (fun r2 =>
  if r2 = 0 then
  some ((-2), M1)
  else
  bnd (f_X11_isStep ((p2 : Int32).toInt64) M1) (fun r5 =>
  if r5 = 0 then
  some ((-2), M1)
  else
  bnd (f_X11_lays M1) (fun M10 =>
  bnd (f_X11_airOf p1 p2 M10) (fun r11 =>
  some (r11, M10))))))
def f_X11_where (p1 : Int32) (p2 : Int32) (M : Mem) : Option (Int32 × Mem) :=
  letv (st M 0 0 0) (fun M1 =>
  bnd (f_X11_isThen p1 p2 M1) (fun r2 =>
  if r2 = 0 then
  some ((-2), M1)
  else
  bnd (f_X11_lays M1) (fun M7 =>
  bnd (f_X11_whereOf p1 p2 M7) (fun r8 =>
  some (r8, M7)))))
def L_X11_insideOf_5 (p1 : Int32) (p2 : Int32) (M : Mem) : (Int32 → Int32 → Option Int32) → Int32 → Int32 → Option Int32 := fun K_5 v3_5 v4_5 =>
  bnd (f_X11_pieces M) (fun r1 =>
  if r1 ≤ v4_5 then
  some v3_5
  else
  bnd (f_X11_whereOf v4_5 p2 M) (fun r4 =>
  if r4 = p1 then
  letv (v3_5 ||| ((1 : Int32) <<< (v4_5 &&& 31))) (fun x8 =>
  K_5 x8 (v4_5 + 1))
  else
  letv (v3_5 ||| (0 : Int32)) (fun x7 =>
  K_5 x7 (v4_5 + 1))))
def f_X11_insideOf (p1 : Int32) (p2 : Int32) (M : Mem) : Option Int32 :=
  lq2 (L_X11_insideOf_5 p1 p2 M) FU 0 0
def f_X11_inside (p1 : Int32) (p2 : Int32) (M : Mem) : Option (Int32 × Mem) :=
  letv (st M 0 0 0) (fun M1 =>
  bnd (f_X11_isZone p1 M1) (fun r2 =>
  if r2 = 0 then
  some ((-2), M1)
  else
  bnd (f_X11_isStep ((p2 : Int32).toInt64) M1) (fun r5 =>
  if r5 = 0 then
  some ((-2), M1)
  else
  bnd (f_X11_lays M1) (fun M10 =>
  bnd (f_X11_insideOf p1 p2 M10) (fun r11 =>
  some (r11, M10))))))
def f_X11_out (p1 : Int32) (M : Mem) : Option (Int32 × Mem) :=
  letv (st M 0 0 0) (fun M1 =>
  bnd (f_X11_isStep ((p1 : Int32).toInt64) M1) (fun r2 =>
  if r2 = 0 then
  some ((-2), M1)
  else
  bnd (f_X11_lays M1) (fun M7 =>
  bnd (f_X11_insideOf (10 : Int32) p1 M7) (fun r8 =>
  some (r8, M7)))))
def L_X11_leaves_23 (p1 : Int32) : (Int32 → Mem → Option (Int32 × Mem)) → Int32 → Mem → Option (Int32 × Mem) := fun K_23 v2_23 M_23 =>
  bnd (f_X11_steps M_23) (fun r8 =>
  if r8 < v2_23 then
  some ((-1), M_23)
  else
  bnd (f_X11_whereOf p1 v2_23 M_23) (fun r11 =>
  if r11 = 10 then
  some (v2_23, M_23)
  else
  K_23 (v2_23 + 1) M_23))
def f_X11_leaves (p1 : Int32) (M : Mem) : Option (Int32 × Mem) :=
  letv (st M 0 0 0) (fun M1 =>
  bnd (f_X11_isPiece ((p1 : Int32).toInt64) M1) (fun r2 =>
  if r2 = 0 then
  some ((-2), M1)
  else
  bnd (f_X11_lays M1) (fun M7 =>
  lq2 (L_X11_leaves_23 p1) FU 0 M7)))
def f_X11_skin (p1 : Int32) (p2 : Int32) (M : Mem) : Option (Int32 × Mem) :=
  letv (st M 0 0 0) (fun M1 =>
  bnd (f_X11_isThen p1 p2 M1) (fun r2 =>
  if r2 = 0 then
  some ((-2), M1)
  else
  bnd (f_X11_laysNow M1) (fun M7 =>
  bnd (f_X11_skinOf p1 p2 M7) (fun r8 =>
  some (r8, M7)))))
def f_X11_core (p1 : Int32) (p2 : Int32) (M : Mem) : Option (Int32 × Mem) :=
  letv (st M 0 0 0) (fun M1 =>
  bnd (f_X11_isThen p1 p2 M1) (fun r2 =>
  if r2 = 0 then
  some ((-2), M1)
  else
  bnd (f_X11_laysNow M1) (fun M7 =>
  bnd (f_X11_coreOf p1 p2 M7) (fun r8 =>
  some (r8, M7)))))
def f_X11_strain (p1 : Int32) (p2 : Int32) (M : Mem) : Option (Int32 × Mem) :=
  letv (st M 0 0 0) (fun M1 =>
  bnd (f_X11_isThen p1 p2 M1) (fun r2 =>
  if r2 = 0 then
  some ((-2), M1)
  else
  bnd (f_X11_laysNow M1) (fun M7 =>
  bnd (f_X11_strainOf p1 p2 M7) (fun r8 =>
  some (r8, M7)))))
def L_X11_peakOf_4 (p1 : Int32) (M : Mem) : (Int32 → Int32 → Option Int32) → Int32 → Int32 → Option Int32 := fun K_4 v2_4 v3_4 =>
  bnd (f_X11_steps M) (fun r1 =>
  if r1 < v3_4 then
  some v2_4
  else
  bnd (f_X11_strainOf p1 v3_4 M) (fun r4 =>
  bnd (f_X11_strainOf p1 v2_4 M) (fun r6 =>
  if r4 ≤ r6 then
  K_4 v2_4 (v3_4 + 1)
  else
  K_4 v3_4 (v3_4 + 1))))
def f_X11_peakOf (p1 : Int32) (M : Mem) : Option Int32 :=
  lq2 (L_X11_peakOf_4 p1 M) FU 0 1
def f_X11_peak (p1 : Int32) (M : Mem) : Option (Int32 × Mem) :=
  letv (st M 0 0 0) (fun M1 =>
  bnd (f_X11_isPiece ((p1 : Int32).toInt64) M1) (fun r2 =>
  if r2 = 0 then
  some ((-2), M1)
  else
  bnd (f_X11_laysNow M1) (fun M7 =>
  bnd (f_X11_peakOf p1 M7) (fun r8 =>
  bnd (f_X11_strainOf p1 r8 M7) (fun r10 =>
  some (r10, M7))))))
def f_X11_when (p1 : Int32) (M : Mem) : Option (Int32 × Mem) :=
  letv (st M 0 0 0) (fun M1 =>
  bnd (f_X11_isPiece ((p1 : Int32).toInt64) M1) (fun r2 =>
  if r2 = 0 then
  some ((-2), M1)
  else
  bnd (f_X11_laysNow M1) (fun M7 =>
  bnd (f_X11_peakOf p1 M7) (fun r8 =>
  some (r8, M7)))))
def f_X11_frozen (p1 : Int32) (M : Mem) : Option (Int32 × Mem) :=
  letv (st M 0 0 0) (fun M1 =>
  bnd (f_X11_isPiece ((p1 : Int32).toInt64) M1) (fun r2 =>
  if r2 = 0 then
  some ((-2), M1)
  else
  bnd (f_X11_laysNow M1) (fun M7 =>
  if oob p1 6 = true then none else
  some ((M7.1 17 (ix p1)), M7))))
def f_X11_sets (p1 : Int32) (M : Mem) : Option (Int32 × Mem) :=
  letv (st M 0 0 0) (fun M1 =>
  bnd (f_X11_isPiece ((p1 : Int32).toInt64) M1) (fun r2 =>
  if r2 = 0 then
  some ((-2), M1)
  else
  bnd (f_X11_laysNow M1) (fun M7 =>
  if oob p1 6 = true then none else
  some ((M7.1 18 (ix p1)), M7))))
def f_X11_cracks (p1 : Int32) (M : Mem) : Option (Int32 × Mem) :=
  letv (st M 0 0 0) (fun M1 =>
  bnd (f_X11_isPiece ((p1 : Int32).toInt64) M1) (fun r2 =>
  if r2 = 0 then
  some ((-2), M1)
  else
  bnd (f_X11_laysNow M1) (fun M7 =>
  if oob p1 6 = true then none else
  some ((M7.1 19 (ix p1)), M7))))
def f_X11_why (p1 : Int32) (M : Mem) : Option (Int32 × Mem) :=
  letv (st M 0 0 0) (fun M1 =>
  bnd (f_X11_isPiece ((p1 : Int32).toInt64) M1) (fun r2 =>
  if r2 = 0 then
  some ((-2), M1)
  else
  bnd (f_X11_laysNow M1) (fun M7 =>
  if oob p1 6 = true then none else
  some ((M7.1 20 (ix p1)), M7))))
def L_X11_whole_25 (p1 : Int32) : (Int32 → Int32 → Mem → Option (Int32 × Mem)) → Int32 → Int32 → Mem → Option (Int32 × Mem) := fun K_25 v2_25 v3_25 M_25 =>
  bnd (f_X11_pieces M_25) (fun r8 =>
  if r8 ≤ v3_25 then
  some (v2_25, M_25)
  else
  bnd (f_X11_hasCome v3_25 p1 M_25) (fun r11 =>
  if r11 = 0 then
  letv (v2_25 ||| (0 : Int32)) (fun x14 =>
  K_25 x14 (v3_25 + 1) M_25)
  else
  bnd (f_X11_isWhole v3_25 p1 M_25) (fun r15 =>
  if r15 = 0 then
  letv (v2_25 ||| (0 : Int32)) (fun x18 =>
  K_25 x18 (v3_25 + 1) M_25)
  else
  letv (v2_25 ||| ((1 : Int32) <<< (v3_25 &&& 31))) (fun x19 =>
  K_25 x19 (v3_25 + 1) M_25))))
def f_X11_whole (p1 : Int32) (M : Mem) : Option (Int32 × Mem) :=
  letv (st M 0 0 0) (fun M1 =>
  bnd (f_X11_isStep ((p1 : Int32).toInt64) M1) (fun r2 =>
  if r2 = 0 then
  some ((-2), M1)
  else
  bnd (f_X11_laysNow M1) (fun M7 =>
  lq3 (L_X11_whole_25 p1) FU 0 0 M7)))
def f_X11_sound (M : Mem) : Option (Int32 × Mem) :=
  letv (st M 0 0 0) (fun M1 =>
  bnd (f_X11_isLehr M1) (fun r2 =>
  if r2 = 0 then
  some ((-2), M1)
  else
  bnd (f_X11_laysNow M1) (fun M7 =>
  bnd (f_X11_soundNow M7) (fun r8 =>
  some (r8, M7)))))
def f_X11_good (M : Mem) : Option (Int32 × Mem) :=
  letv (st M 0 0 0) (fun M1 =>
  bnd (f_X11_isLehr M1) (fun r2 =>
  if r2 = 0 then
  some ((-2), M1)
  else
  bnd (f_X11_laysNow M1) (fun M7 =>
  bnd (f_X11_steps M7) (fun r8 =>
  bnd (f_X11_insideOf (10 : Int32) r8 M7) (fun r10 =>
  bnd (f_X11_soundNow M7) (fun r12 =>
  some ((r10 &&& r12), M7)))))))
def f_X11_markOf (p1 : Int32) (p2 : Int32) (p3 : Int32) (M : Mem) : Option Int32 :=
  if p3 = 0 then
  bnd (f_X11_strainOf p1 p2 M) (fun r7 =>
  some r7)
  else
  if p3 = 1 then
  bnd (f_X11_skinOf p1 p2 M) (fun r5 =>
  some r5)
  else
  bnd (f_X11_coreOf p1 p2 M) (fun r3 =>
  some r3)
def L_X11_mostAt_5 (p1 : Int32) (p2 : Int32) (M : Mem) : (Int32 → Int32 → Option Int32) → Int32 → Int32 → Option Int32 := fun K_5 v3_5 v4_5 =>
  bnd (f_X11_pieces M) (fun r1 =>
  if r1 ≤ v4_5 then
  some v3_5
  else
  bnd (f_X11_hasCome v4_5 p1 M) (fun r4 =>
  if r4 = 0 then
  K_5 v3_5 (v4_5 + 1)
  else
  if v3_5 = (-1) then
  K_5 v4_5 (v4_5 + 1)
  else
  bnd (f_X11_markOf v4_5 p1 p2 M) (fun r8 =>
  bnd (f_X11_markOf v3_5 p1 p2 M) (fun r10 =>
  if r8 ≤ r10 then
  K_5 v3_5 (v4_5 + 1)
  else
  K_5 v4_5 (v4_5 + 1)))))
def f_X11_mostAt (p1 : Int32) (p2 : Int32) (M : Mem) : Option Int32 :=
  lq2 (L_X11_mostAt_5 p1 p2 M) FU (-1) 0
def f_X11_tight (p1 : Int32) (M : Mem) : Option (Int32 × Mem) :=
  letv (st M 0 0 0) (fun M1 =>
  bnd (f_X11_isStep ((p1 : Int32).toInt64) M1) (fun r2 =>
  if r2 = 0 then
  some ((-2), M1)
  else
  bnd (f_X11_laysNow M1) (fun M7 =>
  bnd (f_X11_mostAt p1 (0 : Int32) M7) (fun r8 =>
  some (r8, M7)))))
def f_X11_hottest (p1 : Int32) (M : Mem) : Option (Int32 × Mem) :=
  letv (st M 0 0 0) (fun M1 =>
  bnd (f_X11_isStep ((p1 : Int32).toInt64) M1) (fun r2 =>
  if r2 = 0 then
  some ((-2), M1)
  else
  bnd (f_X11_laysNow M1) (fun M7 =>
  bnd (f_X11_mostAt p1 (1 : Int32) M7) (fun r8 =>
  some (r8, M7)))))
def f_X11_kernel (p1 : Int32) (M : Mem) : Option (Int32 × Mem) :=
  letv (st M 0 0 0) (fun M1 =>
  bnd (f_X11_isStep ((p1 : Int32).toInt64) M1) (fun r2 =>
  if r2 = 0 then
  some ((-2), M1)
  else
  bnd (f_X11_laysNow M1) (fun M7 =>
  bnd (f_X11_mostAt p1 (2 : Int32) M7) (fun r8 =>
  some (r8, M7)))))
def L_X11_glow_25 (p1 : Int32) : (Int32 → Int32 → Mem → Option (Int32 × Mem)) → Int32 → Int32 → Mem → Option (Int32 × Mem) := fun K_25 v2_25 v3_25 M_25 =>
  bnd (f_X11_pieces M_25) (fun r8 =>
  if r8 ≤ v3_25 then
  some (v2_25, M_25)
  else
  bnd (f_X11_hasCome v3_25 p1 M_25) (fun r11 =>
  if r11 = 0 then
  letv (v2_25 + (0 : Int32)) (fun x14 =>
  K_25 x14 (v3_25 + 1) M_25)
  else
  bnd (f_X11_skinOf v3_25 p1 M_25) (fun r15 =>
  letv (v2_25 + r15) (fun x17 =>
  K_25 x17 (v3_25 + 1) M_25))))
def f_X11_glow (p1 : Int32) (M : Mem) : Option (Int32 × Mem) :=
  letv (st M 0 0 0) (fun M1 =>
  bnd (f_X11_isStep ((p1 : Int32).toInt64) M1) (fun r2 =>
  if r2 = 0 then
  some ((-2), M1)
  else
  bnd (f_X11_laysNow M1) (fun M7 =>
  lq3 (L_X11_glow_25 p1) FU 0 0 M7)))
def L_X11_crackedIn_4 (p1 : Int32) (M : Mem) : (Int32 → Int32 → Option Int32) → Int32 → Int32 → Option Int32 := fun K_4 v2_4 v3_4 =>
  bnd (f_X11_pieces M) (fun r1 =>
  if r1 ≤ v3_4 then
  some v2_4
  else
  if oob v3_4 6 = true then none else
  if (M.1 19 (ix v3_4)) = p1 then
  letv (v2_4 ||| ((1 : Int32) <<< (v3_4 &&& 31))) (fun x7 =>
  K_4 x7 (v3_4 + 1))
  else
  letv (v2_4 ||| (0 : Int32)) (fun x6 =>
  K_4 x6 (v3_4 + 1)))
def f_X11_crackedIn (p1 : Int32) (M : Mem) : Option Int32 :=
  lq2 (L_X11_crackedIn_4 p1 M) FU 0 0
def L_X11_worst_23 : (Int32 → Int32 → Mem → Option (Int32 × Mem)) → Int32 → Int32 → Mem → Option (Int32 × Mem) := fun K_23 v1_23 v2_23 M_23 =>
  bnd (f_X11_steps M_23) (fun r8 =>
  if r8 < v2_23 then
  some (v1_23, M_23)
  else
  bnd (f_X11_crackedIn v2_23 M_23) (fun r11 =>
  bnd (f_X11_sizeOf r11 M_23) (fun r13 =>
  if v1_23 = (-1) then
  if r13 ≤ 0 then
  K_23 v1_23 (v2_23 + 1) M_23
  else
  K_23 v2_23 (v2_23 + 1) M_23
  else
  bnd (f_X11_crackedIn v1_23 M_23) (fun r16 =>
  bnd (f_X11_sizeOf r16 M_23) (fun r18 =>
  if r13 ≤ r18 then
  K_23 v1_23 (v2_23 + 1) M_23
  else
  K_23 v2_23 (v2_23 + 1) M_23)))))
def f_X11_worst (M : Mem) : Option (Int32 × Mem) :=
  letv (st M 0 0 0) (fun M1 =>
  bnd (f_X11_isLehr M1) (fun r2 =>
  if r2 = 0 then
  some ((-2), M1)
  else
  bnd (f_X11_laysNow M1) (fun M7 =>
  lq3 (L_X11_worst_23) FU (-1) 0 M7)))
def L_X11_sore_39 (K_25 : Int32 → Int32 → Int32 → Mem → Option (Int32 × Mem)) (v1_39 : Int32) (v2_39 : Int32) (v3_39 : Int32) : (Int32 → Int32 → Mem → Option (Int32 × Mem)) → Int32 → Int32 → Mem → Option (Int32 × Mem) := fun K_39 v4_39 v5_39 M_39 =>
  bnd (f_X11_pieces M_39) (fun r9 =>
  if r9 ≤ v5_39 then
  if v2_39 < v4_39 then
  K_25 v3_39 v4_39 (v3_39 + 1) M_39
  else
  K_25 v1_39 v2_39 (v3_39 + 1) M_39
  else
  if oob v5_39 6 = true then none else
  if (M_39.1 19 (ix v5_39)) = (-1) then
  letv (v4_39 + (0 : Int32)) (fun x15 =>
  K_39 x15 (v5_39 + 1) M_39)
  else
  if oob v5_39 6 = true then none else
  bnd (f_X11_whereOf v5_39 (M_39.1 19 (ix v5_39)) M_39) (fun r17 =>
  if r17 = v3_39 then
  letv (v4_39 + (1 : Int32)) (fun x21 =>
  K_39 x21 (v5_39 + 1) M_39)
  else
  letv (v4_39 + (0 : Int32)) (fun x20 =>
  K_39 x20 (v5_39 + 1) M_39)))
def L_X11_sore_25 : (Int32 → Int32 → Int32 → Mem → Option (Int32 × Mem)) → Int32 → Int32 → Int32 → Mem → Option (Int32 × Mem) := fun K_25 v1_25 v2_25 v3_25 M_25 =>
  if (M_25.1 0 25) ≤ v3_25 then
  some (v1_25, M_25)
  else
  lq3 (L_X11_sore_39 K_25 v1_25 v2_25 v3_25) FU 0 0 M_25
def f_X11_sore (M : Mem) : Option (Int32 × Mem) :=
  letv (st M 0 0 0) (fun M1 =>
  bnd (f_X11_isLehr M1) (fun r2 =>
  if r2 = 0 then
  some ((-2), M1)
  else
  bnd (f_X11_laysNow M1) (fun M7 =>
  lq4 (L_X11_sore_25) FU (-1) 0 0 M7)))
def L_X11_tense_29 (p1 : Int32) : (Int32 → Int32 → Mem → Option (Int32 × Mem)) → Int32 → Int32 → Mem → Option (Int32 × Mem) := fun K_29 v2_29 v3_29 M_29 =>
  bnd (f_X11_steps M_29) (fun r10 =>
  if r10 < v3_29 then
  some (v2_29, M_29)
  else
  bnd (f_X11_skinOf p1 v3_29 M_29) (fun r13 =>
  bnd (f_X11_coreOf p1 v3_29 M_29) (fun r15 =>
  if r15 ≤ r13 then
  letv (v2_29 + (0 : Int32)) (fun x18 =>
  K_29 x18 (v3_29 + 1) M_29)
  else
  letv (v2_29 + (1 : Int32)) (fun x19 =>
  K_29 x19 (v3_29 + 1) M_29))))
def f_X11_tense (p1 : Int32) (M : Mem) : Option (Int32 × Mem) :=
  letv (st M 0 0 0) (fun M1 =>
  bnd (f_X11_isPiece ((p1 : Int32).toInt64) M1) (fun r2 =>
  if r2 = 0 then
  some ((-2), M1)
  else
  bnd (f_X11_laysNow M1) (fun M7 =>
  bnd (f_X11_comes p1 M7) (fun r8 =>
  lq3 (L_X11_tense_29 p1) FU 0 r8 M7))))
def L_X11_warms_25 (p1 : Int32) : (Int32 → Int32 → Mem → Option (Int32 × Mem)) → Int32 → Int32 → Mem → Option (Int32 × Mem) := fun K_25 v2_25 v3_25 M_25 =>
  bnd (f_X11_steps M_25) (fun r8 =>
  if r8 < v3_25 then
  some (v2_25, M_25)
  else
  bnd (f_X11_skinOf p1 v3_25 M_25) (fun r11 =>
  bnd (f_X11_skinOf p1 (v3_25 - (1 : Int32)) M_25) (fun r13 =>
  if r11 ≤ r13 then
  letv (v2_25 + (0 : Int32)) (fun x16 =>
  K_25 x16 (v3_25 + 1) M_25)
  else
  letv (v2_25 + (1 : Int32)) (fun x17 =>
  K_25 x17 (v3_25 + 1) M_25))))
def f_X11_warms (p1 : Int32) (M : Mem) : Option (Int32 × Mem) :=
  letv (st M 0 0 0) (fun M1 =>
  bnd (f_X11_isPiece ((p1 : Int32).toInt64) M1) (fun r2 =>
  if r2 = 0 then
  some ((-2), M1)
  else
  bnd (f_X11_laysNow M1) (fun M7 =>
  lq3 (L_X11_warms_25 p1) FU 0 1 M7)))
def L_X11_cool_39 (p1 : Int32) (p2 : Int32) : (Int32 → Mem → Option (Int32 × Mem)) → Int32 → Mem → Option (Int32 × Mem) := fun K_39 v3_39 M_39 =>
  bnd (f_X11_steps M_39) (fun r11 =>
  if r11 < v3_39 then
  some ((-1), M_39)
  else
  bnd (f_X11_skinOf p1 v3_39 M_39) (fun r14 =>
  if p2 < r14 then
  K_39 (v3_39 + 1) M_39
  else
  some (v3_39, M_39)))
def f_X11_cool (p1 : Int32) (p2 : Int32) (M : Mem) : Option (Int32 × Mem) :=
  letv (st M 0 0 0) (fun M1 =>
  bnd (f_X11_isPiece ((p1 : Int32).toInt64) M1) (fun r2 =>
  if r2 = 0 then
  some ((-2), M1)
  else
  if (f_X11_in ((p2 : Int32).toInt64) (0 : Int64) (600 : Int64) M1) = 0 then
  some ((-2), M1)
  else
  bnd (f_X11_laysNow M1) (fun M8 =>
  bnd (f_X11_comes p1 M8) (fun r9 =>
  lq2 (L_X11_cool_39 p1 p2) FU r9 M8))))
def L_X11_still_26 (p1 : Int32) : (Int32 → Mem → Option (Int32 × Mem)) → Int32 → Mem → Option (Int32 × Mem) := fun K_26 v2_26 M_26 =>
  if v2_26 ≤ 0 then
  some (v2_26, M_26)
  else
  bnd (f_X11_skinOf p1 (v2_26 - (1 : Int32)) M_26) (fun r11 =>
  bnd (f_X11_steps M_26) (fun r13 =>
  bnd (f_X11_skinOf p1 r13 M_26) (fun r15 =>
  if r11 = r15 then
  K_26 (v2_26 + (-1)) M_26
  else
  some (v2_26, M_26))))
def f_X11_still (p1 : Int32) (M : Mem) : Option (Int32 × Mem) :=
  letv (st M 0 0 0) (fun M1 =>
  bnd (f_X11_isPiece ((p1 : Int32).toInt64) M1) (fun r2 =>
  if r2 = 0 then
  some ((-2), M1)
  else
  bnd (f_X11_laysNow M1) (fun M7 =>
  bnd (f_X11_steps M7) (fun r8 =>
  lq2 (L_X11_still_26 p1) FU r8 M7))))
def L_X11_pairs_25 (p1 : Int32) : (Int32 → Int32 → Mem → Option (Int32 × Mem)) → Int32 → Int32 → Mem → Option (Int32 × Mem) := fun K_25 v2_25 v3_25 M_25 =>
  if (M_25.1 0 25) ≤ v3_25 then
  some (v2_25, M_25)
  else
  bnd (f_X11_insideOf v3_25 p1 M_25) (fun r9 =>
  bnd (f_X11_sizeOf r9 M_25) (fun r11 =>
  letv (v2_25 + ((r11 * (r11 - (1 : Int32))) / 2)) (fun x13 =>
  K_25 x13 (v3_25 + 1) M_25)))
def f_X11_pairs (p1 : Int32) (M : Mem) : Option (Int32 × Mem) :=
  letv (st M 0 0 0) (fun M1 =>
  bnd (f_X11_isStep ((p1 : Int32).toInt64) M1) (fun r2 =>
  if r2 = 0 then
  some ((-2), M1)
  else
  bnd (f_X11_lays M1) (fun M7 =>
  lq3 (L_X11_pairs_25 p1) FU 0 0 M7)))
def L_X11_crowd_33 (K_23 : Int32 → Int32 → Mem → Option (Int32 × Mem)) (v2_33 : Int32) : (Int32 → Int32 → Mem → Option (Int32 × Mem)) → Int32 → Int32 → Mem → Option (Int32 × Mem) := fun K_33 v1_33 v3_33 M_33 =>
  if (M_33.1 0 25) ≤ v3_33 then
  K_23 v1_33 (v2_33 + 1) M_33
  else
  bnd (f_X11_insideOf v3_33 v2_33 M_33) (fun r12 =>
  bnd (f_X11_sizeOf r12 M_33) (fun r14 =>
  letv (f_X11_moreOf v1_33 r14 M_33) (fun x16 =>
  K_33 x16 (v3_33 + 1) M_33)))
def L_X11_crowd_23 : (Int32 → Int32 → Mem → Option (Int32 × Mem)) → Int32 → Int32 → Mem → Option (Int32 × Mem) := fun K_23 v1_23 v2_23 M_23 =>
  bnd (f_X11_steps M_23) (fun r8 =>
  if r8 < v2_23 then
  some (v1_23, M_23)
  else
  lq3 (L_X11_crowd_33 K_23 v2_23) FU v1_23 0 M_23)
def f_X11_crowd (M : Mem) : Option (Int32 × Mem) :=
  letv (st M 0 0 0) (fun M1 =>
  bnd (f_X11_isLehr M1) (fun r2 =>
  if r2 = 0 then
  some ((-2), M1)
  else
  bnd (f_X11_lays M1) (fun M7 =>
  lq3 (L_X11_crowd_23) FU 0 0 M7)))
def L_X11_oven_25 (p1 : Int32) : (Int32 → Int32 → Mem → Option (Int32 × Mem)) → Int32 → Int32 → Mem → Option (Int32 × Mem) := fun K_25 v2_25 v3_25 M_25 =>
  if (M_25.1 0 25) ≤ v3_25 then
  some (v2_25, M_25)
  else
  if v2_25 = (-1) then
  K_25 v3_25 (v3_25 + 1) M_25
  else
  bnd (f_X11_airOf v3_25 p1 M_25) (fun r10 =>
  bnd (f_X11_airOf v2_25 p1 M_25) (fun r12 =>
  if r10 ≤ r12 then
  K_25 v2_25 (v3_25 + 1) M_25
  else
  K_25 v3_25 (v3_25 + 1) M_25))
def f_X11_oven (p1 : Int32) (M : Mem) : Option (Int32 × Mem) :=
  letv (st M 0 0 0) (fun M1 =>
  bnd (f_X11_isStep ((p1 : Int32).toInt64) M1) (fun r2 =>
  if r2 = 0 then
  some ((-2), M1)
  else
  bnd (f_X11_lays M1) (fun M7 =>
  lq3 (L_X11_oven_25 p1) FU (-1) 0 M7)))
def f_X11_fallOf (p1 : Int32) (p2 : Int32) (M : Mem) : Option Int32 :=
  bnd (f_X11_airOf p1 p2 M) (fun r1 =>
  bnd (f_X11_airOf (p1 + (1 : Int32)) p2 M) (fun r3 =>
  some (r1 - r3)))
def f_X11_fall (p1 : Int32) (p2 : Int32) (M : Mem) : Option (Int32 × Mem) :=
  letv (st M 0 0 0) (fun M1 =>
  bnd (f_X11_isZone p1 M1) (fun r2 =>
  if r2 = 0 then
  some ((-10000), M1)
  else
  if oob 5 40 = true then none else
  if p1 = ((M1.1 7 (ix 5)) - (1 : Int32)) then
  some ((-10000), M1)
  else
  bnd (f_X11_isStep ((p2 : Int32).toInt64) M1) (fun r7 =>
  if r7 = 0 then
  some ((-10000), M1)
  else
  bnd (f_X11_lays M1) (fun M12 =>
  bnd (f_X11_fallOf p1 p2 M12) (fun r13 =>
  some (r13, M12))))))
def L_X11_cliff_25 (p1 : Int32) : (Int32 → Int32 → Mem → Option (Int32 × Mem)) → Int32 → Int32 → Mem → Option (Int32 × Mem) := fun K_25 v2_25 v3_25 M_25 =>
  if (M_25.1 0 25) ≤ (v3_25 + (1 : Int32)) then
  some (v2_25, M_25)
  else
  if v2_25 = (-1) then
  K_25 v3_25 (v3_25 + 1) M_25
  else
  bnd (f_X11_fallOf v3_25 p1 M_25) (fun r10 =>
  bnd (f_X11_fallOf v2_25 p1 M_25) (fun r12 =>
  if r10 ≤ r12 then
  K_25 v2_25 (v3_25 + 1) M_25
  else
  K_25 v3_25 (v3_25 + 1) M_25))
def f_X11_cliff (p1 : Int32) (M : Mem) : Option (Int32 × Mem) :=
  letv (st M 0 0 0) (fun M1 =>
  bnd (f_X11_isStep ((p1 : Int32).toInt64) M1) (fun r2 =>
  if r2 = 0 then
  some ((-2), M1)
  else
  bnd (f_X11_lays M1) (fun M7 =>
  lq3 (L_X11_cliff_25 p1) FU (-1) 0 M7)))
def L_X11_least_29 (p1 : Int32) : (Int32 → Int32 → Mem → Option (Int32 × Mem)) → Int32 → Int32 → Mem → Option (Int32 × Mem) := fun K_29 v2_29 v3_29 M_29 =>
  bnd (f_X11_steps M_29) (fun r10 =>
  if r10 < v3_29 then
  some (v2_29, M_29)
  else
  if v2_29 = (-1) then
  bnd (f_X11_skinOf p1 v3_29 M_29) (fun r17 =>
  K_29 r17 (v3_29 + 1) M_29)
  else
  bnd (f_X11_skinOf p1 v3_29 M_29) (fun r14 =>
  letv (f_X11_lessOf v2_29 r14 M_29) (fun x16 =>
  K_29 x16 (v3_29 + 1) M_29)))
def f_X11_least (p1 : Int32) (M : Mem) : Option (Int32 × Mem) :=
  letv (st M 0 0 0) (fun M1 =>
  bnd (f_X11_isPiece ((p1 : Int32).toInt64) M1) (fun r2 =>
  if r2 = 0 then
  some ((-2), M1)
  else
  bnd (f_X11_laysNow M1) (fun M7 =>
  bnd (f_X11_comes p1 M7) (fun r8 =>
  lq3 (L_X11_least_29 p1) FU (-1) r8 M7))))
def f_X11_dropOf (p1 : Int32) (p2 : Int32) (M : Mem) : Option Int32 :=
  bnd (f_X11_skinOf p1 p2 M) (fun r1 =>
  bnd (f_X11_skinOf p1 (p2 + (1 : Int32)) M) (fun r3 =>
  some (r1 - r3)))
def L_X11_chill_25 (p1 : Int32) : (Int32 → Int32 → Mem → Option (Int32 × Mem)) → Int32 → Int32 → Mem → Option (Int32 × Mem) := fun K_25 v2_25 v3_25 M_25 =>
  bnd (f_X11_steps M_25) (fun r8 =>
  if r8 ≤ v3_25 then
  some (v2_25, M_25)
  else
  bnd (f_X11_dropOf p1 v3_25 M_25) (fun r11 =>
  if v2_25 = (-1) then
  if r11 ≤ 0 then
  K_25 v2_25 (v3_25 + 1) M_25
  else
  K_25 v3_25 (v3_25 + 1) M_25
  else
  bnd (f_X11_dropOf p1 v2_25 M_25) (fun r14 =>
  if r11 ≤ r14 then
  K_25 v2_25 (v3_25 + 1) M_25
  else
  K_25 v3_25 (v3_25 + 1) M_25)))
def f_X11_chill (p1 : Int32) (M : Mem) : Option (Int32 × Mem) :=
  letv (st M 0 0 0) (fun M1 =>
  bnd (f_X11_isPiece ((p1 : Int32).toInt64) M1) (fun r2 =>
  if r2 = 0 then
  some ((-2), M1)
  else
  bnd (f_X11_laysNow M1) (fun M7 =>
  lq3 (L_X11_chill_25 p1) FU (-1) 0 M7)))
def f_X11_drop (p1 : Int32) (p2 : Int32) (M : Mem) : Option (Int32 × Mem) :=
  letv (st M 0 0 0) (fun M1 =>
  bnd (f_X11_isPiece ((p1 : Int32).toInt64) M1) (fun r2 =>
  if r2 = 0 then
  some ((-100000), M1)
  else
  bnd (f_X11_isAhead p2 M1) (fun r5 =>
  if r5 = 0 then
  some ((-100000), M1)
  else
  bnd (f_X11_laysNow M1) (fun M10 =>
  bnd (f_X11_dropOf p1 p2 M10) (fun r11 =>
  some (r11, M10))))))
def L_X11_gaps_25 (p1 : Int32) : (Int32 → Int32 → Mem → Option (Int32 × Mem)) → Int32 → Int32 → Mem → Option (Int32 × Mem) := fun K_25 v2_25 v3_25 M_25 =>
  bnd (f_X11_steps M_25) (fun r8 =>
  if r8 < v3_25 then
  some (v2_25, M_25)
  else
  bnd (f_X11_strainOf p1 v3_25 M_25) (fun r11 =>
  if oob (((4 : Int32) * p1) + (2 : Int32)) 120 = true then none else
  if r11 ≤ ((M_25.1 9 (ix (((4 : Int32) * p1) + (2 : Int32)))) / 2) then
  letv (v2_25 + (0 : Int32)) (fun x15 =>
  K_25 x15 (v3_25 + 1) M_25)
  else
  letv (v2_25 + (1 : Int32)) (fun x16 =>
  K_25 x16 (v3_25 + 1) M_25)))
def f_X11_gaps (p1 : Int32) (M : Mem) : Option (Int32 × Mem) :=
  letv (st M 0 0 0) (fun M1 =>
  bnd (f_X11_isPiece ((p1 : Int32).toInt64) M1) (fun r2 =>
  if r2 = 0 then
  some ((-2), M1)
  else
  bnd (f_X11_laysNow M1) (fun M7 =>
  lq3 (L_X11_gaps_25 p1) FU 0 0 M7)))
def L_X11_spread_33 (p1 : Int32) (v2_33 : Int32) : (Int32 → Int32 → Mem → Option (Int32 × Mem)) → Int32 → Int32 → Mem → Option (Int32 × Mem) := fun K_33 v3_33 v4_33 M_33 =>
  bnd (f_X11_pieces M_33) (fun r10 =>
  if r10 ≤ v4_33 then
  some (v3_33, M_33)
  else
  bnd (f_X11_hasCome v4_33 p1 M_33) (fun r13 =>
  if r13 = 0 then
  K_33 v3_33 (v4_33 + 1) M_33
  else
  bnd (f_X11_skinOf v2_33 p1 M_33) (fun r16 =>
  bnd (f_X11_skinOf v4_33 p1 M_33) (fun r18 =>
  letv (f_X11_moreOf v3_33 (r16 - r18) M_33) (fun x20 =>
  K_33 x20 (v4_33 + 1) M_33)))))
def f_X11_spread (p1 : Int32) (M : Mem) : Option (Int32 × Mem) :=
  letv (st M 0 0 0) (fun M1 =>
  bnd (f_X11_isStep ((p1 : Int32).toInt64) M1) (fun r2 =>
  if r2 = 0 then
  some ((-2), M1)
  else
  bnd (f_X11_laysNow M1) (fun M7 =>
  bnd (f_X11_mostAt p1 (1 : Int32) M7) (fun r8 =>
  lq3 (L_X11_spread_33 p1 r8) FU 0 0 M7))))
def L_X11_coming_21 (p1 : Int32) : (Int32 → Int32 → Mem → Option (Int32 × Mem)) → Int32 → Int32 → Mem → Option (Int32 × Mem) := fun K_21 v2_21 v3_21 M_21 =>
  bnd (f_X11_pieces M_21) (fun r5 =>
  if r5 ≤ v3_21 then
  some (v2_21, M_21)
  else
  bnd (f_X11_comes v3_21 M_21) (fun r8 =>
  if r8 = p1 then
  letv (v2_21 ||| ((1 : Int32) <<< (v3_21 &&& 31))) (fun x12 =>
  K_21 x12 (v3_21 + 1) M_21)
  else
  letv (v2_21 ||| (0 : Int32)) (fun x11 =>
  K_21 x11 (v3_21 + 1) M_21)))
def f_X11_coming (p1 : Int32) (M : Mem) : Option (Int32 × Mem) :=
  letv (st M 0 0 0) (fun M1 =>
  bnd (f_X11_isStep ((p1 : Int32).toInt64) M1) (fun r2 =>
  if r2 = 0 then
  some ((-2), M1)
  else
  lq3 (L_X11_coming_21 p1) FU 0 0 M1))
def f_X11_cracked (p1 : Int32) (M : Mem) : Option (Int32 × Mem) :=
  letv (st M 0 0 0) (fun M1 =>
  bnd (f_X11_isStep ((p1 : Int32).toInt64) M1) (fun r2 =>
  if r2 = 0 then
  some ((-2), M1)
  else
  bnd (f_X11_laysNow M1) (fun M7 =>
  bnd (f_X11_crackedIn p1 M7) (fun r8 =>
  some (r8, M7)))))
def L_X11_tally_35 (p1 : Int32) : (Int32 → Int32 → Mem → Option (Int32 × Mem)) → Int32 → Int32 → Mem → Option (Int32 × Mem) := fun K_35 v2_35 v3_35 M_35 =>
  bnd (f_X11_pieces M_35) (fun r9 =>
  if r9 ≤ v3_35 then
  some (v2_35, M_35)
  else
  if oob v3_35 6 = true then none else
  if (M_35.1 20 (ix v3_35)) = p1 then
  letv (v2_35 + (1 : Int32)) (fun x15 =>
  K_35 x15 (v3_35 + 1) M_35)
  else
  letv (v2_35 + (0 : Int32)) (fun x14 =>
  K_35 x14 (v3_35 + 1) M_35))
def f_X11_tally (p1 : Int32) (M : Mem) : Option (Int32 × Mem) :=
  letv (st M 0 0 0) (fun M1 =>
  bnd (f_X11_isLehr M1) (fun r2 =>
  if r2 = 0 then
  some ((-2), M1)
  else
  if (f_X11_in ((p1 : Int32).toInt64) (0 : Int64) (2 : Int64) M1) = 0 then
  some ((-2), M1)
  else
  bnd (f_X11_laysNow M1) (fun M8 =>
  lq3 (L_X11_tally_35 p1) FU 0 0 M8)))
def L_X11_last_25 (p1 : Int32) : (Int32 → Mem → Option (Int32 × Mem)) → Int32 → Mem → Option (Int32 × Mem) := fun K_25 v2_25 M_25 =>
  if v2_25 < 0 then
  some ((-1), M_25)
  else
  bnd (f_X11_insideOf p1 v2_25 M_25) (fun r11 =>
  if r11 = 0 then
  K_25 (v2_25 + (-1)) M_25
  else
  some (v2_25, M_25))
def f_X11_last (p1 : Int32) (M : Mem) : Option (Int32 × Mem) :=
  letv (st M 0 0 0) (fun M1 =>
  bnd (f_X11_isZone p1 M1) (fun r2 =>
  if r2 = 0 then
  some ((-2), M1)
  else
  bnd (f_X11_lays M1) (fun M7 =>
  bnd (f_X11_steps M7) (fun r8 =>
  lq2 (L_X11_last_25 p1) FU r8 M7))))
def L_X11_busyOf_4 (p1 : Int32) (M : Mem) : (Int32 → Int32 → Option Int32) → Int32 → Int32 → Option Int32 := fun K_4 v2_4 v3_4 =>
  bnd (f_X11_steps M) (fun r1 =>
  if r1 < v3_4 then
  some v2_4
  else
  bnd (f_X11_insideOf p1 v3_4 M) (fun r4 =>
  if r4 = 0 then
  letv (v2_4 + (0 : Int32)) (fun x8 =>
  K_4 x8 (v3_4 + 1))
  else
  letv (v2_4 + (1 : Int32)) (fun x7 =>
  K_4 x7 (v3_4 + 1))))
def f_X11_busyOf (p1 : Int32) (M : Mem) : Option Int32 :=
  lq2 (L_X11_busyOf_4 p1 M) FU 0 0
def f_X11_busy (p1 : Int32) (M : Mem) : Option (Int32 × Mem) :=
  letv (st M 0 0 0) (fun M1 =>
  bnd (f_X11_isZone p1 M1) (fun r2 =>
  if r2 = 0 then
  some ((-2), M1)
  else
  bnd (f_X11_lays M1) (fun M7 =>
  bnd (f_X11_busyOf p1 M7) (fun r8 =>
  some (r8, M7)))))
def L_X11_idle_23 : (Int32 → Int32 → Mem → Option (Int32 × Mem)) → Int32 → Int32 → Mem → Option (Int32 × Mem) := fun K_23 v1_23 v2_23 M_23 =>
  if (M_23.1 0 25) ≤ v2_23 then
  some (v1_23, M_23)
  else
  bnd (f_X11_busyOf v2_23 M_23) (fun r9 =>
  if r9 = 0 then
  letv (v1_23 ||| ((1 : Int32) <<< (v2_23 &&& 31))) (fun x13 =>
  K_23 x13 (v2_23 + 1) M_23)
  else
  letv (v1_23 ||| (0 : Int32)) (fun x12 =>
  K_23 x12 (v2_23 + 1) M_23))
def f_X11_idle (M : Mem) : Option (Int32 × Mem) :=
  letv (st M 0 0 0) (fun M1 =>
  bnd (f_X11_isLehr M1) (fun r2 =>
  if r2 = 0 then
  some ((-2), M1)
  else
  bnd (f_X11_lays M1) (fun M7 =>
  lq3 (L_X11_idle_23) FU 0 0 M7)))
def L_X11_stiff_25 (p1 : Int32) : (Int32 → Int32 → Mem → Option (Int32 × Mem)) → Int32 → Int32 → Mem → Option (Int32 × Mem) := fun K_25 v2_25 v3_25 M_25 =>
  bnd (f_X11_pieces M_25) (fun r8 =>
  if r8 ≤ v3_25 then
  some (v2_25, M_25)
  else
  bnd (f_X11_hasCome v3_25 p1 M_25) (fun r11 =>
  if r11 = 0 then
  letv (v2_25 ||| (0 : Int32)) (fun x14 =>
  K_25 x14 (v3_25 + 1) M_25)
  else
  bnd (f_X11_coreOf v3_25 p1 M_25) (fun r15 =>
  if oob 4 40 = true then none else
  if (M_25.1 7 (ix 4)) ≤ r15 then
  letv (v2_25 ||| (0 : Int32)) (fun x19 =>
  K_25 x19 (v3_25 + 1) M_25)
  else
  letv (v2_25 ||| ((1 : Int32) <<< (v3_25 &&& 31))) (fun x20 =>
  K_25 x20 (v3_25 + 1) M_25))))
def f_X11_stiff (p1 : Int32) (M : Mem) : Option (Int32 × Mem) :=
  letv (st M 0 0 0) (fun M1 =>
  bnd (f_X11_isStep ((p1 : Int32).toInt64) M1) (fun r2 =>
  if r2 = 0 then
  some ((-2), M1)
  else
  bnd (f_X11_laysNow M1) (fun M7 =>
  lq3 (L_X11_stiff_25 p1) FU 0 0 M7)))
def f_X11_isSound (p1 : Int32) (M : Mem) : Option (Int32 × Mem) :=
  bnd (f_X11_runs M) (fun M3 =>
  if oob p1 6 = true then none else
  if (M3.1 19 (ix p1)) = (-1) then
  some (1, M3)
  else
  some (0, M3))
def L_X11_spare_33 (p1 : Int32) : (Int32 → Mem → Option (Int32 × Mem)) → Int32 → Mem → Option (Int32 × Mem) := fun K_33 v2_33 M_33 =>
  if oob (((4 : Int32) * p1) + (2 : Int32)) 120 = true then none else
  if (M_33.1 9 (ix (((4 : Int32) * p1) + (2 : Int32)))) ≤ v2_33 then
  some (v2_33, M_33)
  else
  if oob (((4 : Int32) * p1) + (2 : Int32)) 120 = true then none else
  if oob p1 6 = true then none else
  letv (st M_33 14 (ix p1) (((M_33.1 9 (ix (((4 : Int32) * p1) + (2 : Int32)))) - v2_33) - (1 : Int32))) (fun M15 =>
  bnd2 (f_X11_isSound p1 M15) (fun r17 M19 =>
  if r17 = 0 then
  some (v2_33, M19)
  else
  K_33 (v2_33 + 1) M19))
def f_X11_spare (p1 : Int32) (M : Mem) : Option (Int32 × Mem) :=
  letv (st M 0 0 0) (fun M1 =>
  bnd (f_X11_isPiece ((p1 : Int32).toInt64) M1) (fun r2 =>
  if r2 = 0 then
  some ((-2), M1)
  else
  bnd (f_X11_lays M1) (fun M7 =>
  bnd2 (f_X11_isSound p1 M7) (fun r8 M10 =>
  if r8 = 0 then
  some ((-1), M10)
  else
  lq2 (L_X11_spare_33 p1) FU 0 M10))))
def L_X11_needs_23 (p1 : Int32) : (Int32 → Mem → Option (Int32 × Mem)) → Int32 → Mem → Option (Int32 × Mem) := fun K_23 v2_23 M_23 =>
  if (300 : Int32) < v2_23 then
  some ((-1), M_23)
  else
  if oob p1 6 = true then none else
  letv (st M_23 14 (ix p1) v2_23) (fun M9 =>
  bnd2 (f_X11_isSound p1 M9) (fun r11 M13 =>
  if r11 = 0 then
  K_23 (v2_23 + 1) M13
  else
  some (v2_23, M13)))
def f_X11_needs (p1 : Int32) (M : Mem) : Option (Int32 × Mem) :=
  letv (st M 0 0 0) (fun M1 =>
  bnd (f_X11_isPiece ((p1 : Int32).toInt64) M1) (fun r2 =>
  if r2 = 0 then
  some ((-2), M1)
  else
  bnd (f_X11_lays M1) (fun M7 =>
  lq2 (L_X11_needs_23 p1) FU 0 M7)))
def L_X11_thin_24 (p1 : Int32) : (Int32 → Mem → Option (Int32 × Mem)) → Int32 → Mem → Option (Int32 × Mem) := fun K_24 v2_24 M_24 =>
  if v2_24 ≤ 0 then
  some ((-1), M_24)
  else
  if oob p1 6 = true then none else
  letv (st M_24 13 (ix p1) v2_24) (fun M9 =>
  bnd2 (f_X11_isSound p1 M9) (fun r11 M13 =>
  if r11 = 0 then
  K_24 (v2_24 + (-1)) M13
  else
  some (v2_24, M13)))
def f_X11_thin (p1 : Int32) (M : Mem) : Option (Int32 × Mem) :=
  letv (st M 0 0 0) (fun M1 =>
  bnd (f_X11_isPiece ((p1 : Int32).toInt64) M1) (fun r2 =>
  if r2 = 0 then
  some ((-2), M1)
  else
  bnd (f_X11_lays M1) (fun M7 =>
  lq2 (L_X11_thin_24 p1) FU 9 M7)))
def f_X11_soundBy (p1 : Int32) (M : Mem) : Option (Int32 × Mem) :=
  bnd (f_X11_lays M) (fun M3 =>
  letv (st M3 0 23 p1) (fun M4 =>
  bnd (f_X11_runs M4) (fun M7 =>
  bnd (f_X11_soundNow M7) (fun r8 =>
  bnd (f_X11_sizeOf r8 M7) (fun r10 =>
  some (r10, M7))))))
def L_X11_bestPace_4 : (Int32 → Int32 → Mem → Option (Int32 × Mem)) → Int32 → Int32 → Mem → Option (Int32 × Mem) := fun K_4 v1_4 v2_4 M_4 =>
  if (6 : Int32) < v2_4 then
  some (v1_4, M_4)
  else
  bnd2 (f_X11_soundBy v2_4 M_4) (fun r2 M4 =>
  bnd2 (f_X11_soundBy v1_4 M4) (fun r5 M7 =>
  if r2 ≤ r5 then
  K_4 v1_4 (v2_4 + 1) M7
  else
  K_4 v2_4 (v2_4 + 1) M7))
def f_X11_bestPace (M : Mem) : Option (Int32 × Mem) :=
  lq3 (L_X11_bestPace_4) FU 1 2 M
def f_X11_pace (M : Mem) : Option (Int32 × Mem) :=
  letv (st M 0 0 0) (fun M1 =>
  bnd (f_X11_isLehr M1) (fun r2 =>
  if r2 = 0 then
  some ((-2), M1)
  else
  bnd2 (f_X11_bestPace M1) (fun r5 M7 =>
  some (r5, M7))))
def f_X11_paced (M : Mem) : Option (Int32 × Mem) :=
  letv (st M 0 0 0) (fun M1 =>
  bnd (f_X11_isLehr M1) (fun r2 =>
  if r2 = 0 then
  some ((-2), M1)
  else
  bnd2 (f_X11_bestPace M1) (fun r5 M7 =>
  bnd2 (f_X11_soundBy r5 M7) (fun r8 M10 =>
  some (r8, M10)))))
def L_X11_raiseOf_2 (p1 : Int32) (p2 : Int32) : (Int32 → Mem → Option (Int32 × Mem)) → Int32 → Mem → Option (Int32 × Mem) := fun K_2 v3_2 M_2 =>
  if (200 : Int32) < v3_2 then
  some ((-1), M_2)
  else
  bnd (f_X11_lays M_2) (fun M4 =>
  if oob p1 7 = true then none else
  if oob p1 7 = true then none else
  letv (st M4 12 (ix p1) ((M4.1 12 (ix p1)) + v3_2)) (fun M6 =>
  bnd2 (f_X11_isSound p2 M6) (fun r8 M10 =>
  if r8 = 0 then
  K_2 (v3_2 + 1) M10
  else
  some (v3_2, M10))))
def f_X11_raiseOf (p1 : Int32) (p2 : Int32) (M : Mem) : Option (Int32 × Mem) :=
  lq2 (L_X11_raiseOf_2 p1 p2) FU 0 M
def f_X11_raise (p1 : Int32) (p2 : Int32) (M : Mem) : Option (Int32 × Mem) :=
  letv (st M 0 0 0) (fun M1 =>
  bnd (f_X11_isZone p1 M1) (fun r2 =>
  if r2 = 0 then
  some ((-2), M1)
  else
  bnd (f_X11_isPiece ((p2 : Int32).toInt64) M1) (fun r5 =>
  if r5 = 0 then
  some ((-2), M1)
  else
  bnd2 (f_X11_raiseOf p1 p2 M1) (fun r8 M10 =>
  some (r8, M10)))))
def L_X11_rescue_25 (p1 : Int32) : (Int32 → Int32 → Int32 → Mem → Option (Int32 × Mem)) → Int32 → Int32 → Int32 → Mem → Option (Int32 × Mem) := fun K_25 v2_25 v3_25 v4_25 M_25 =>
  if oob 5 40 = true then none else
  if (M_25.1 7 (ix 5)) ≤ v4_25 then
  some (v2_25, M_25)
  else
  bnd2 (f_X11_raiseOf v4_25 p1 M_25) (fun r7 M9 =>
  if r7 = (-1) then
  K_25 v2_25 v3_25 (v4_25 + 1) M9
  else
  if r7 < v3_25 then
  K_25 v4_25 r7 (v4_25 + 1) M9
  else
  K_25 v2_25 v3_25 (v4_25 + 1) M9)
def f_X11_rescue (p1 : Int32) (M : Mem) : Option (Int32 × Mem) :=
  letv (st M 0 0 0) (fun M1 =>
  bnd (f_X11_isPiece ((p1 : Int32).toInt64) M1) (fun r2 =>
  if r2 = 0 then
  some ((-2), M1)
  else
  lq4 (L_X11_rescue_25 p1) FU (-1) 1000000 0 M1))
def L_X11_swap_46 (K_31 : Int32 → Int32 → Int32 → Mem → Option (Int32 × Mem)) (v3_46 : Int32) : (Int32 → Int32 → Int32 → Mem → Option (Int32 × Mem)) → Int32 → Int32 → Int32 → Mem → Option (Int32 × Mem) := fun K_46 v1_46 v2_46 v4_46 M_46 =>
  if oob 5 40 = true then none else
  if (M_46.1 7 (ix 5)) ≤ v4_46 then
  K_31 v1_46 v2_46 (v3_46 + 1) M_46
  else
  bnd (f_X11_lays M_46) (fun M19 =>
  if oob v4_46 35 = true then none else
  if oob v3_46 7 = true then none else
  letv (st M19 12 (ix v3_46) (M19.1 8 (ix v4_46))) (fun M21 =>
  if oob v3_46 35 = true then none else
  if oob v4_46 7 = true then none else
  letv (st M21 12 (ix v4_46) (M21.1 8 (ix v3_46))) (fun M24 =>
  bnd (f_X11_runs M24) (fun M28 =>
  bnd (f_X11_soundNow M28) (fun r29 =>
  bnd (f_X11_sizeOf r29 M28) (fun r31 =>
  if v2_46 < r31 then
  letv (((10 : Int32) * v3_46) + v4_46) (fun x34 =>
  bnd (f_X11_soundNow M28) (fun r35 =>
  bnd (f_X11_sizeOf r35 M28) (fun r37 =>
  K_46 x34 r37 (v4_46 + 1) M28)))
  else
  K_46 v1_46 v2_46 (v4_46 + 1) M28))))))
def L_X11_swap_31 : (Int32 → Int32 → Int32 → Mem → Option (Int32 × Mem)) → Int32 → Int32 → Int32 → Mem → Option (Int32 × Mem) := fun K_31 v1_31 v2_31 v3_31 M_31 =>
  if oob 5 40 = true then none else
  if (M_31.1 7 (ix 5)) ≤ v3_31 then
  some (v1_31, M_31)
  else
  letv (v3_31 + (1 : Int32)) (fun x14 =>
  lq4 (L_X11_swap_46 K_31 v3_31) FU v1_31 v2_31 x14 M_31)
def f_X11_swap (M : Mem) : Option (Int32 × Mem) :=
  letv (st M 0 0 0) (fun M1 =>
  bnd (f_X11_isLehr M1) (fun r2 =>
  if r2 = 0 then
  some ((-2), M1)
  else
  bnd (f_X11_laysNow M1) (fun M7 =>
  bnd (f_X11_soundNow M7) (fun r8 =>
  bnd (f_X11_sizeOf r8 M7) (fun r10 =>
  lq4 (L_X11_swap_31) FU (-1) r10 0 M7)))))
def L_X11_skip_31 : (Int32 → Int32 → Int32 → Mem → Option (Int32 × Mem)) → Int32 → Int32 → Int32 → Mem → Option (Int32 × Mem) := fun K_31 v1_31 v2_31 v3_31 M_31 =>
  if oob 5 40 = true then none else
  if (M_31.1 7 (ix 5)) ≤ v3_31 then
  some (v1_31, M_31)
  else
  bnd (f_X11_lays M_31) (fun M16 =>
  bnd (f_X11_skips v3_31 M16) (fun M19 =>
  bnd (f_X11_runs M19) (fun M22 =>
  bnd (f_X11_soundNow M22) (fun r23 =>
  bnd (f_X11_sizeOf r23 M22) (fun r25 =>
  if v2_31 < r25 then
  bnd (f_X11_soundNow M22) (fun r28 =>
  bnd (f_X11_sizeOf r28 M22) (fun r30 =>
  K_31 v3_31 r30 (v3_31 + 1) M22))
  else
  K_31 v1_31 v2_31 (v3_31 + 1) M22)))))
def f_X11_skip (M : Mem) : Option (Int32 × Mem) :=
  letv (st M 0 0 0) (fun M1 =>
  bnd (f_X11_isLehr M1) (fun r2 =>
  if r2 = 0 then
  some ((-2), M1)
  else
  bnd (f_X11_laysNow M1) (fun M7 =>
  bnd (f_X11_soundNow M7) (fun r8 =>
  bnd (f_X11_sizeOf r8 M7) (fun r10 =>
  lq4 (L_X11_skip_31) FU (-1) r10 0 M7)))))
def L_X11_whyNot_50 (p1 : Int32) (p2 : Int32) (M : Mem) : (Int32 → Option Int32) → Int32 → Option Int32 := fun K_50 v3_50 =>
  if oob p1 4 = true then none else
  if (M.1 2 (ix p1)) ≤ v3_50 then
  some 0
  else
  letv (((60 : Int32) * p1) + v3_50) (fun x12 =>
  if oob x12 240 = true then none else
  bnd (f_X11_isPiece (M.2 3 (ix x12)) M) (fun r14 =>
  if r14 = 0 then
  some (-2)
  else
  if oob (x12 + (1 : Int32)) 240 = true then none else
  bnd (f_X11_isStep (M.2 3 (ix (x12 + (1 : Int32)))) M) (fun r18 =>
  if r18 = 0 then
  some (-2)
  else
  if oob (x12 + (2 : Int32)) 240 = true then none else
  if (f_X11_in (M.2 3 (ix (x12 + (2 : Int32)))) (0 : Int64) (100000 : Int64) M) = 0 then
  some (-2)
  else
  K_50 (v3_50 + 3))))
def f_X11_whyNot (p1 : Int32) (p2 : Int32) (M : Mem) : Option Int32 :=
  if (f_X11_isSlot p1 M) = 0 then
  some (-2)
  else
  bnd (f_X11_isLehr M) (fun r2 =>
  if r2 = 0 then
  some (-2)
  else
  if p2 = 0 then
  some (-2)
  else
  if oob p1 4 = true then none else
  if (M.1 1 (ix p1)) = (-1) then
  some (-6)
  else
  if oob p1 4 = true then none else
  if ((M.1 2 (ix p1)) - (M.1 2 (ix p1)) / 3 * 3) = 0 then
  lq1 (L_X11_whyNot_50 p1 p2 M) FU 0
  else
  some (-2))
def L_X11_isSo_2 (p1 : Int32) (M : Mem) : (Int32 → Option Int32) → Int32 → Option Int32 := fun K_2 v2_2 =>
  if oob p1 4 = true then none else
  if (M.1 2 (ix p1)) ≤ v2_2 then
  some 1
  else
  letv (((60 : Int32) * p1) + v2_2) (fun x3 =>
  if oob x3 240 = true then none else
  if oob (x3 + (1 : Int32)) 240 = true then none else
  bnd (f_X11_skinOf (((M.2 3 (ix x3)) : Int64).toInt32) (((M.2 3 (ix (x3 + (1 : Int32)))) : Int64).toInt32) M) (fun r6 =>
  if oob (x3 + (2 : Int32)) 240 = true then none else
  if (lg_cmp ((r6 : Int32).toInt64) (M.2 3 (ix (x3 + (2 : Int32))))) = 0 then
  K_2 (v2_2 + 3)
  else
  some 0))
def f_X11_isSo (p1 : Int32) (M : Mem) : Option Int32 :=
  lq1 (L_X11_isSo_2 p1 M) FU 0
def L_X11_laysSeen_17 (p1 : Int32) (p2 : Int32) : (Int32 → Mem → Option Mem) → Int32 → Mem → Option Mem := fun K_17 v3_17 M_17 =>
  if (600 : Int32) < v3_17 then
  some M_17
  else
  bnd (f_X11_lays M_17) (fun M7 =>
  if oob p2 7 = true then none else
  letv (st M7 12 (ix p2) v3_17) (fun M8 =>
  bnd (f_X11_runs M8) (fun M12 =>
  bnd (f_X11_isSo p1 M12) (fun r13 =>
  if r13 = 0 then
  K_17 (v3_17 + 1) M12
  else
  letv (st M12 0 36 ((M12.1 0 36) + (1 : Int32))) (fun M16 =>
  if (M16.1 0 37) = (-1) then
  letv (st M16 0 37 v3_17) (fun M20 =>
  letv (st M20 0 38 v3_17) (fun M21 =>
  K_17 (v3_17 + 1) M21))
  else
  letv (st M16 0 37 (M16.1 0 37)) (fun M18 =>
  letv (st M18 0 38 v3_17) (fun M19 =>
  K_17 (v3_17 + 1) M19)))))))
def f_X11_laysSeen (p1 : Int32) (p2 : Int32) (M : Mem) : Option Mem :=
  letv (st M 0 36 0) (fun M1 =>
  letv (st M1 0 37 (-1)) (fun M2 =>
  letv (st M2 0 38 (-1)) (fun M3 =>
  lq2 (L_X11_laysSeen_17 p1 p2) FU 0 M3)))
def f_X11_airs (p1 : Int32) (p2 : Int32) (M : Mem) : Option (Int32 × Mem) :=
  letv (st M 0 0 0) (fun M1 =>
  bnd (f_X11_isZone p2 M1) (fun r2 =>
  bnd (f_X11_whyNot p1 r2 M1) (fun r4 =>
  if r4 = 0 then
  bnd (f_X11_laysSeen p1 p2 M1) (fun M9 =>
  some ((M9.1 0 36), M9))
  else
  some (r4, M1))))
def f_X11_low (p1 : Int32) (p2 : Int32) (M : Mem) : Option (Int32 × Mem) :=
  letv (st M 0 0 0) (fun M1 =>
  bnd (f_X11_isZone p2 M1) (fun r2 =>
  bnd (f_X11_whyNot p1 r2 M1) (fun r4 =>
  if r4 = 0 then
  bnd (f_X11_laysSeen p1 p2 M1) (fun M9 =>
  some ((M9.1 0 37), M9))
  else
  some (r4, M1))))
def f_X11_high (p1 : Int32) (p2 : Int32) (M : Mem) : Option (Int32 × Mem) :=
  letv (st M 0 0 0) (fun M1 =>
  bnd (f_X11_isZone p2 M1) (fun r2 =>
  bnd (f_X11_whyNot p1 r2 M1) (fun r4 =>
  if r4 = 0 then
  bnd (f_X11_laysSeen p1 p2 M1) (fun M9 =>
  some ((M9.1 0 38), M9))
  else
  some (r4, M1))))
def L_X11_thicks_29 (p1 : Int32) (p2 : Int32) : (Int32 → Int32 → Mem → Option (Int32 × Mem)) → Int32 → Int32 → Mem → Option (Int32 × Mem) := fun K_29 v4_29 v5_29 M_29 =>
  if (9 : Int32) < v5_29 then
  some (v4_29, M_29)
  else
  bnd (f_X11_lays M_29) (fun M10 =>
  if oob p2 6 = true then none else
  letv (st M10 13 (ix p2) v5_29) (fun M11 =>
  bnd (f_X11_runs M11) (fun M15 =>
  bnd (f_X11_isSo p1 M15) (fun r16 =>
  if r16 = 0 then
  letv (v4_29 ||| (0 : Int32)) (fun x19 =>
  K_29 x19 (v5_29 + 1) M15)
  else
  letv (v4_29 ||| ((1 : Int32) <<< (v5_29 &&& 31))) (fun x20 =>
  K_29 x20 (v5_29 + 1) M15)))))
def f_X11_thicks (p1 : Int32) (p2 : Int32) (M : Mem) : Option (Int32 × Mem) :=
  letv (st M 0 0 0) (fun M1 =>
  bnd (f_X11_isPiece ((p2 : Int32).toInt64) M1) (fun r2 =>
  bnd (f_X11_whyNot p1 r2 M1) (fun r4 =>
  if r4 = 0 then
  lq3 (L_X11_thicks_29 p1 p2) FU 0 1 M1
  else
  some (r4, M1))))
def f_X11_byLaw (p1 : Int32) (M : Mem) : Option (Int32 × Mem) :=
  bnd (f_X11_lays M) (fun M3 =>
  letv (st M3 0 22 p1) (fun M4 =>
  bnd (f_X11_runs M4) (fun M7 =>
  bnd (f_X11_soundNow M7) (fun r8 =>
  some (r8, M7)))))
def L_X11_laws_23 (p1 : Int32) : (Int32 → Int32 → Mem → Option (Int32 × Mem)) → Int32 → Int32 → Mem → Option (Int32 × Mem) := fun K_23 v3_23 v4_23 M_23 =>
  if (4 : Int32) ≤ v4_23 then
  some (v3_23, M_23)
  else
  bnd2 (f_X11_byLaw v4_23 M_23) (fun r6 M8 =>
  bnd (f_X11_isSo p1 M8) (fun r9 =>
  if r9 = 0 then
  letv (v3_23 ||| (0 : Int32)) (fun x12 =>
  K_23 x12 (v4_23 + 1) M8)
  else
  letv (v3_23 ||| ((1 : Int32) <<< (v4_23 &&& 31))) (fun x13 =>
  K_23 x13 (v4_23 + 1) M8)))
def f_X11_laws (p1 : Int32) (M : Mem) : Option (Int32 × Mem) :=
  letv (st M 0 0 0) (fun M1 =>
  bnd (f_X11_whyNot p1 (1 : Int32) M1) (fun r2 =>
  if r2 = 0 then
  lq3 (L_X11_laws_23 p1) FU 0 0 M1
  else
  some (r2, M1)))
def f_X11_by (p1 : Int32) (M : Mem) : Option (Int32 × Mem) :=
  letv (st M 0 0 0) (fun M1 =>
  bnd (f_X11_isLehr M1) (fun r2 =>
  if r2 = 0 then
  some ((-2), M1)
  else
  if (f_X11_in ((p1 : Int32).toInt64) (0 : Int64) (3 : Int64) M1) = 0 then
  some ((-2), M1)
  else
  bnd2 (f_X11_byLaw p1 M1) (fun r6 M8 =>
  some (r6, M8))))
def L_X11_law_19 : (Int32 → Int32 → Mem → Option (Int32 × Mem)) → Int32 → Int32 → Mem → Option (Int32 × Mem) := fun K_19 v1_19 v2_19 M_19 =>
  if (4 : Int32) ≤ v2_19 then
  some (v1_19, M_19)
  else
  bnd2 (f_X11_byLaw v2_19 M_19) (fun r6 M8 =>
  bnd (f_X11_sizeOf r6 M8) (fun r9 =>
  bnd2 (f_X11_byLaw v1_19 M8) (fun r11 M13 =>
  bnd (f_X11_sizeOf r11 M13) (fun r14 =>
  if r9 ≤ r14 then
  K_19 v1_19 (v2_19 + 1) M13
  else
  K_19 v2_19 (v2_19 + 1) M13))))
def f_X11_law (M : Mem) : Option (Int32 × Mem) :=
  letv (st M 0 0 0) (fun M1 =>
  bnd (f_X11_isLehr M1) (fun r2 =>
  if r2 = 0 then
  some ((-2), M1)
  else
  lq3 (L_X11_law_19) FU 0 1 M1))
def L_X11_worthOf_6 (p1 : Int32) : (Int32 → Mem → Option (Int32 × Mem)) → Int32 → Mem → Option (Int32 × Mem) := fun K_6 v2_6 M_6 =>
  if (M_6.1 0 25) ≤ v2_6 then
  bnd (f_X11_runs M_6) (fun M7 =>
  bnd (f_X11_soundNow M7) (fun r8 =>
  bnd (f_X11_sizeOf r8 M7) (fun r10 =>
  some (r10, M7))))
  else
  if (f_X11_isBit p1 v2_6 M_6) = 0 then
  if oob v2_6 7 = true then none else
  letv (st M_6 12 (ix v2_6) 0) (fun M13 =>
  K_6 (v2_6 + 1) M13)
  else
  if oob v2_6 7 = true then none else
  if oob v2_6 7 = true then none else
  letv (st M_6 12 (ix v2_6) (M_6.1 12 (ix v2_6))) (fun M16 =>
  K_6 (v2_6 + 1) M16)
def f_X11_worthOf (p1 : Int32) (M : Mem) : Option (Int32 × Mem) :=
  bnd (f_X11_lays M) (fun M3 =>
  lq2 (L_X11_worthOf_6 p1) FU 0 M3)
def f_X11_worth (p1 : Int32) (M : Mem) : Option (Int32 × Mem) :=
  letv (st M 0 0 0) (fun M1 =>
  bnd (f_X11_isLehr M1) (fun r2 =>
  if r2 = 0 then
  some ((-2), M1)
  else
  if oob 5 40 = true then none else
  if (f_X11_in ((p1 : Int32).toInt64) (0 : Int64) (((((1 : Int32) <<< ((M1.1 7 (ix 5)) &&& 31)) : Int32).toInt64) - (1 : Int64)) M1) = 0 then
  some ((-2), M1)
  else
  bnd2 (f_X11_worthOf p1 M1) (fun r7 M9 =>
  some (r7, M9))))
def fr_X11_times : Nat → Int32 → Option Int32
  | 0 => fun _ => none
  | n + 1 => fun p0 =>
  if (2 : Int32) ≤ p0 then
  bnd (fr_X11_times n (p0 - (1 : Int32))) (fun r2 =>
  some (p0 * r2))
  else
  some 1
def f_X11_times (p0 : Int32) : Option Int32 := fr_X11_times 20 p0
def fr_X11_common : Nat → Int64 → Int64 → Option Int64
  | 0 => fun _ _ => none
  | n + 1 => fun p0 p2 =>
  if (lg_cmp p2 0) = 0 then
  if (0 : Int32) ≤ (lg_cmp p0 0) then
  some p0
  else
  some (-p0)
  else
  if p2 = 0 then none else
  bnd (fr_X11_common n p2 (p0 - p0 / p2 * p2)) (fun r3 =>
  some r3)
def f_X11_common (p0 : Int64) (p2 : Int64) : Option Int64 := fr_X11_common 100 p0 p2
def f_X11_partOf (p0 : Int64) (p2 : Int64) (p4 : Int32) (M : Mem) : Option Int64 :=
  if p4 = 0 then
  bnd (f_X11_common p0 p2) (fun r5 =>
  if r5 = 0 then none else
  some (p0 / r5))
  else
  bnd (f_X11_common p0 p2) (fun r2 =>
  if r2 = 0 then none else
  some (p2 / r2))
def L_X11_share_37 (p1 : Int32) (p2 : Int32) (v3_37 : Int32) : (Int32 → Int32 → Mem → Option (Int32 × Mem)) → Int32 → Int32 → Mem → Option (Int32 × Mem) := fun K_37 v4_37 v5_37 M_37 =>
  if ((1 : Int32) <<< (v3_37 &&& 31)) ≤ v5_37 then
  bnd (f_X11_times v3_37) (fun r9 =>
  bnd (f_X11_partOf ((v4_37 : Int32).toInt64) ((r9 : Int32).toInt64) p2 M_37) (fun r11 =>
  some (((r11 : Int64).toInt32), M_37)))
  else
  if (f_X11_isBit v5_37 p1 M_37) = 0 then
  bnd (f_X11_sizeOf v5_37 M_37) (fun r14 =>
  bnd (f_X11_times r14) (fun r16 =>
  bnd (f_X11_times ((v3_37 - r14) - (1 : Int32))) (fun r18 =>
  bnd2 (f_X11_worthOf (v5_37 ||| ((1 : Int32) <<< (p1 &&& 31))) M_37) (fun r20 M22 =>
  bnd2 (f_X11_worthOf v5_37 M22) (fun r23 M25 =>
  letv (v4_37 + ((r16 * r18) * (r20 - r23))) (fun x26 =>
  K_37 x26 (v5_37 + 1) M25))))))
  else
  K_37 v4_37 (v5_37 + 1) M_37
def f_X11_share (p1 : Int32) (p2 : Int32) (M : Mem) : Option (Int32 × Mem) :=
  letv (st M 0 0 0) (fun M1 =>
  bnd (f_X11_isZone p1 M1) (fun r2 =>
  if r2 = 0 then
  some ((-1000000), M1)
  else
  if (f_X11_isHalf p2 M1) = 0 then
  some ((-1000000), M1)
  else
  if oob 5 40 = true then none else
  letv (M1.1 7 (ix 5)) (fun x7 =>
  lq3 (L_X11_share_37 p1 p2 x7) FU 0 0 M1)))
def L_X11_getsBy_42 (p1 : Int32) (p2 : Int32) (p3 : Int32) (p4 : Int32) (p5 : Int32) : (Int32 → Int32 → Mem → Option (Int32 × Mem)) → Int32 → Int32 → Mem → Option (Int32 × Mem) := fun K_42 v6_42 v7_42 M_42 =>
  bnd (f_X11_pieces M_42) (fun r13 =>
  if r13 ≤ v7_42 then
  if p5 = 0 then
  some ((v6_42 - ((2 : Int32) * p3)), M_42)
  else
  some ((v6_42 - ((2 : Int32) * p4)), M_42)
  else
  if oob v7_42 6 = true then none else
  if (M_42.1 19 (ix v7_42)) = (-1) then
  letv (v6_42 + (3 : Int32)) (fun x20 =>
  K_42 x20 (v7_42 + 2) M_42)
  else
  letv (v6_42 + (0 : Int32)) (fun x19 =>
  K_42 x19 (v7_42 + 2) M_42))
def f_X11_getsBy (p1 : Int32) (p2 : Int32) (p3 : Int32) (p4 : Int32) (p5 : Int32) (M : Mem) : Option (Int32 × Mem) :=
  bnd (f_X11_lays M) (fun M3 =>
  if oob p1 7 = true then none else
  if oob p1 7 = true then none else
  letv (st M3 12 (ix p1) ((M3.1 12 (ix p1)) + ((50 : Int32) * p3))) (fun M5 =>
  if oob p2 7 = true then none else
  if oob p2 7 = true then none else
  letv (st M5 12 (ix p2) ((M5.1 12 (ix p2)) + ((50 : Int32) * p4))) (fun M8 =>
  bnd (f_X11_runs M8) (fun M12 =>
  lq3 (L_X11_getsBy_42 p1 p2 p3 p4 p5) FU 0 p5 M12))))
def f_X11_areTwo (p1 : Int32) (p2 : Int32) (M : Mem) : Option Int32 :=
  bnd (f_X11_isZone p1 M) (fun r1 =>
  if r1 = 0 then
  some 0
  else
  bnd (f_X11_isZone p2 M) (fun r4 =>
  if r4 = 0 then
  some 0
  else
  if p1 = p2 then
  some 0
  else
  some 1))
def J_X11_rests_99 (p1 : Int32) (p2 : Int32) (K_22 : Int32 → Int32 → Mem → Option (Int32 × Mem)) (v3_99 : Int32) (v4_99 : Int32) (w0_99 : Int32) (M_99 : Mem) : Option (Int32 × Mem) :=
  if w0_99 = 0 then
  letv (v3_99 ||| (0 : Int32)) (fun x16 =>
  K_22 x16 (v4_99 + 1) M_99)
  else
  letv (v3_99 ||| ((1 : Int32) <<< (v4_99 &&& 31))) (fun x17 =>
  K_22 x17 (v4_99 + 1) M_99)
def L_X11_rests_22 (p1 : Int32) (p2 : Int32) : (Int32 → Int32 → Mem → Option (Int32 × Mem)) → Int32 → Int32 → Mem → Option (Int32 × Mem) := fun K_22 v3_22 v4_22 M_22 =>
  if (4 : Int32) ≤ v4_22 then
  some (v3_22, M_22)
  else
  letv (v4_22 - v4_22 / 2 * 2) (fun x6 =>
  letv (v4_22 / 2) (fun x7 =>
  bnd2 (f_X11_getsBy p1 p2 ((1 : Int32) - x6) x7 (0 : Int32) M_22) (fun r8 M10 =>
  bnd2 (f_X11_getsBy p1 p2 x6 x7 (0 : Int32) M10) (fun r11 M13 =>
  if r11 < r8 then
  J_X11_rests_99 p1 p2 K_22 v3_22 v4_22 0 M13
  else
  bnd2 (f_X11_getsBy p1 p2 x6 ((1 : Int32) - x7) (1 : Int32) M13) (fun r18 M20 =>
  bnd2 (f_X11_getsBy p1 p2 x6 x7 (1 : Int32) M20) (fun r21 M23 =>
  if r21 < r18 then
  J_X11_rests_99 p1 p2 K_22 v3_22 v4_22 0 M23
  else
  J_X11_rests_99 p1 p2 K_22 v3_22 v4_22 1 M23))))))
def f_X11_rests (p1 : Int32) (p2 : Int32) (M : Mem) : Option (Int32 × Mem) :=
  letv (st M 0 0 0) (fun M1 =>
  bnd (f_X11_areTwo p1 p2 M1) (fun r2 =>
  if r2 = 0 then
  some ((-2), M1)
  else
  lq3 (L_X11_rests_22 p1 p2) FU 0 0 M1))
def f_X11_gets (p1 : Int32) (p2 : Int32) (p3 : Int32) (p4 : Int32) (p5 : Int32) (M : Mem) : Option (Int32 × Mem) :=
  letv (st M 0 0 0) (fun M1 =>
  bnd (f_X11_areTwo p1 p2 M1) (fun r2 =>
  if r2 = 0 then
  some ((-1000), M1)
  else
  if (f_X11_isHalf p3 M1) = 0 then
  some ((-1000), M1)
  else
  if (f_X11_isHalf p4 M1) = 0 then
  some ((-1000), M1)
  else
  if (f_X11_isHalf p5 M1) = 0 then
  some ((-1000), M1)
  else
  bnd2 (f_X11_getsBy p1 p2 p3 p4 p5 M1) (fun r8 M10 =>
  some (r8, M10))))
def fr_X11_power : Nat → Int64 → Int32 → Option Int64
  | 0 => fun _ _ => none
  | n + 1 => fun p0 p2 =>
  if p2 = 0 then
  some 1
  else
  bnd (fr_X11_power n p0 (p2 - (1 : Int32))) (fun r2 =>
  some (p0 * r2))
def f_X11_power (p0 : Int64) (p2 : Int32) : Option Int64 := fr_X11_power 20 p0 p2
def J_X11_weightOf_55 (p1 : Int32) (p2 : Int32) (v3_33 : Int64) (v5_33 : Int32) (K_9 : Int64 → Int32 → Mem → Option (Int64 × Mem)) (K_33 : Int32 → Int32 → Mem → Option (Int64 × Mem)) (v7_55 : Int32) (w0_55 : Int32) (M_55 : Mem) : Option (Int64 × Mem) :=
  bnd (f_X11_isWhole v7_55 p2 M_55) (fun r24 =>
  if r24 = 0 then
  letv (w0_55 + (0 : Int32)) (fun x27 =>
  K_33 x27 (v7_55 + 1) M_55)
  else
  letv (w0_55 + (1 : Int32)) (fun x28 =>
  K_33 x28 (v7_55 + 1) M_55))
def L_X11_weightOf_33 (p1 : Int32) (p2 : Int32) (K_9 : Int64 → Int32 → Mem → Option (Int64 × Mem)) (v3_33 : Int64) (v5_33 : Int32) : (Int32 → Int32 → Mem → Option (Int64 × Mem)) → Int32 → Int32 → Mem → Option (Int64 × Mem) := fun K_33 v6_33 v7_33 M_33 =>
  bnd (f_X11_pieces M_33) (fun r9 =>
  if r9 ≤ v7_33 then
  if oob 2 40 = true then none else
  bnd (f_X11_sizeOf v5_33 M_33) (fun r13 =>
  bnd (f_X11_power (((M_33.1 7 (ix 2)) : Int32).toInt64) r13) (fun r15 =>
  if oob 2 40 = true then none else
  bnd (f_X11_sizeOf v5_33 M_33) (fun r18 =>
  bnd (f_X11_power ((10 : Int64) - (((M_33.1 7 (ix 2)) : Int32).toInt64)) (p2 - r18)) (fun r20 =>
  letv (v3_33 + ((r15 * r20) * ((v6_33 : Int32).toInt64))) (fun x22 =>
  K_9 x22 (v5_33 + 1) M_33)))))
  else
  if p1 = (-1) then
  J_X11_weightOf_55 p1 p2 v3_33 v5_33 K_9 K_33 v7_33 v6_33 M_33
  else
  if v7_33 = p1 then
  J_X11_weightOf_55 p1 p2 v3_33 v5_33 K_9 K_33 v7_33 v6_33 M_33
  else
  letv (v6_33 + (0 : Int32)) (fun x30 =>
  K_33 x30 (v7_33 + 1) M_33))
def L_X11_weightOf_9 (p1 : Int32) (p2 : Int32) : (Int64 → Int32 → Mem → Option (Int64 × Mem)) → Int64 → Int32 → Mem → Option (Int64 × Mem) := fun K_9 v3_9 v5_9 M_9 =>
  if ((1 : Int32) <<< (p2 &&& 31)) ≤ v5_9 then
  some (v3_9, M_9)
  else
  letv (st M_9 0 24 v5_9) (fun M5 =>
  bnd (f_X11_runs M5) (fun M8 =>
  lq3 (L_X11_weightOf_33 p1 p2 K_9 v3_9 v5_9) FU 0 0 M8))
def f_X11_weightOf (p1 : Int32) (p2 : Int32) (M : Mem) : Option (Int64 × Mem) :=
  bnd (f_X11_lays M) (fun M3 =>
  lq3 (L_X11_weightOf_9 p1 p2) FU 0 0 M3)
def f_X11_isSoon (p1 : Int32) (M : Mem) : Option Int32 :=
  bnd (f_X11_isLehr M) (fun r1 =>
  if r1 = 0 then
  some 0
  else
  bnd (f_X11_steps M) (fun r4 =>
  if (f_X11_in ((p1 : Int32).toInt64) (1 : Int64) (((f_X11_lessOf (8 : Int32) r4 M) : Int32).toInt64) M) = 0 then
  some 0
  else
  some 1))
def f_X11_chance (p1 : Int32) (p2 : Int32) (p3 : Int32) (M : Mem) : Option (Int32 × Mem) :=
  letv (st M 0 0 0) (fun M1 =>
  bnd (f_X11_isPiece ((p1 : Int32).toInt64) M1) (fun r2 =>
  if r2 = 0 then
  some ((-2), M1)
  else
  bnd (f_X11_isSoon p2 M1) (fun r5 =>
  if r5 = 0 then
  some ((-2), M1)
  else
  if (f_X11_isHalf p3 M1) = 0 then
  some ((-2), M1)
  else
  bnd2 (f_X11_weightOf p1 p2 M1) (fun r9 M11 =>
  bnd (f_X11_power (10 : Int64) p2) (fun r12 =>
  bnd (f_X11_partOf r9 r12 p3 M11) (fun r14 =>
  some (((r14 : Int64).toInt32), M11)))))))
def f_X11_mean (p1 : Int32) (p2 : Int32) (M : Mem) : Option (Int64 × Mem) :=
  letv (st M 0 0 0) (fun M1 =>
  bnd (f_X11_isSoon p1 M1) (fun r2 =>
  if r2 = 0 then
  some ((-2), M1)
  else
  if (f_X11_isHalf p2 M1) = 0 then
  some ((-2), M1)
  else
  bnd2 (f_X11_weightOf ((-1) : Int32) p1 M1) (fun r6 M8 =>
  bnd (f_X11_power (10 : Int64) p1) (fun r9 =>
  bnd (f_X11_partOf r6 r9 p2 M8) (fun r11 =>
  some (r11, M8))))))
def L_X11_draws_9 (p1 : Int64) : (Int64 → Int32 → Mem → Option Mem) → Int64 → Int32 → Mem → Option Mem := fun K_9 v3_9 v5_9 M_9 =>
  bnd (f_X11_steps M_9) (fun r4 =>
  if r4 ≤ v5_9 then
  bnd (f_X11_runs M_9) (fun M9 =>
  some M9)
  else
  letv ((((1103515245 : Int64) * v3_9) + (12345 : Int64)) - (((1103515245 : Int64) * v3_9) + (12345 : Int64)) / 2147483648 * 2147483648) (fun x10 =>
  if oob 2 40 = true then none else
  if (0 : Int32) ≤ (lg_cmp ((x10 / 65536) - (x10 / 65536) / 10 * 10) (((M_9.1 7 (ix 2)) : Int32).toInt64)) then
  letv (st M_9 0 24 ((M_9.1 0 24) ||| (0 : Int32))) (fun M13 =>
  K_9 x10 (v5_9 + 1) M13)
  else
  letv (st M_9 0 24 ((M_9.1 0 24) ||| ((1 : Int32) <<< (v5_9 &&& 31)))) (fun M14 =>
  K_9 x10 (v5_9 + 1) M14)))
def f_X11_draws (p1 : Int64) (M : Mem) : Option Mem :=
  bnd (f_X11_lays M) (fun M3 =>
  lq3 (L_X11_draws_9 p1) FU p1 0 M3)
def f_X11_isSeed (p0 : Int32) (M : Mem) : Int32 :=
  (f_X11_in ((p0 : Int32).toInt64) (0 : Int64) (2000000000 : Int64) M)
def f_X11_drawn (p1 : Int32) (p2 : Int32) (M : Mem) : Option (Int32 × Mem) :=
  letv (st M 0 0 0) (fun M1 =>
  bnd (f_X11_isLehr M1) (fun r2 =>
  if r2 = 0 then
  some ((-2), M1)
  else
  if (f_X11_isSeed p1 M1) = 0 then
  some ((-2), M1)
  else
  if (f_X11_isHalf p2 M1) = 0 then
  some ((-2), M1)
  else
  bnd (f_X11_draws ((p1 : Int32).toInt64) M1) (fun M9 =>
  if p2 = 0 then
  some ((M9.1 0 24), M9)
  else
  bnd (f_X11_soundNow M9) (fun r11 =>
  some (r11, M9)))))
def L_X11_luck_42 (p1 : Int32) (p2 : Int32) (p3 : Int32) : (Int32 → Int32 → Mem → Option (Int32 × Mem)) → Int32 → Int32 → Mem → Option (Int32 × Mem) := fun K_42 v4_42 v5_42 M_42 =>
  if p2 ≤ v5_42 then
  some (v4_42, M_42)
  else
  bnd (f_X11_draws (((p1 : Int32).toInt64) + ((v5_42 : Int32).toInt64)) M_42) (fun M10 =>
  if oob p3 6 = true then none else
  if (M10.1 19 (ix p3)) = (-1) then
  letv (v4_42 + (1 : Int32)) (fun x14 =>
  K_42 x14 (v5_42 + 1) M10)
  else
  letv (v4_42 + (0 : Int32)) (fun x13 =>
  K_42 x13 (v5_42 + 1) M10))
def f_X11_luck (p1 : Int32) (p2 : Int32) (p3 : Int32) (M : Mem) : Option (Int32 × Mem) :=
  letv (st M 0 0 0) (fun M1 =>
  if (f_X11_isSeed p1 M1) = 0 then
  some ((-2), M1)
  else
  if (f_X11_in ((p2 : Int32).toInt64) (1 : Int64) (20 : Int64) M1) = 0 then
  some ((-2), M1)
  else
  bnd (f_X11_isPiece ((p3 : Int32).toInt64) M1) (fun r4 =>
  if r4 = 0 then
  some ((-2), M1)
  else
  lq3 (L_X11_luck_42 p1 p2 p3) FU 0 0 M1))
def f_X11_does (p1 : Int32) (p2 : Int32) (p3 : Int32) (p4 : Int32) (M : Mem) : Option Mem :=
  if oob 7 40 = true then none else
  letv ((4 : Int32) * (M.1 7 (ix 7))) (fun x2 =>
  if oob x2 600 = true then none else
  letv (st M 10 (ix x2) p1) (fun M3 =>
  if oob (x2 + (1 : Int32)) 600 = true then none else
  letv (st M3 10 (ix (x2 + (1 : Int32))) p2) (fun M5 =>
  if oob (x2 + (2 : Int32)) 600 = true then none else
  letv (st M5 10 (ix (x2 + (2 : Int32))) p3) (fun M7 =>
  if oob (x2 + (3 : Int32)) 600 = true then none else
  letv (st M7 10 (ix (x2 + (3 : Int32))) p4) (fun M9 =>
  if oob 7 40 = true then none else
  if oob 7 40 = true then none else
  letv (st M9 7 (ix 7) ((M9.1 7 (ix 7)) + (1 : Int32))) (fun M12 =>
  bnd (f_X11_laysNow M12) (fun M16 =>
  some M16)))))))
def f_X11_fires (p1 : Int32) (p2 : Int32) (p3 : Int32) (M : Mem) : Option (Int32 × Mem) :=
  letv (st M 0 0 0) (fun M1 =>
  bnd (f_X11_isZone p1 M1) (fun r2 =>
  if r2 = 0 then
  some ((-2), M1)
  else
  if (f_X11_in ((p2 : Int32).toInt64) (1 : Int64) (200 : Int64) M1) = 0 then
  some ((-2), M1)
  else
  bnd (f_X11_isStep ((p3 : Int32).toInt64) M1) (fun r6 =>
  if r6 = 0 then
  some ((-2), M1)
  else
  if oob 7 40 = true then none else
  if (M1.1 7 (ix 7)) = 30 then
  some ((-5), M1)
  else
  bnd (f_X11_does (0 : Int32) p1 p2 p3 M1) (fun M13 =>
  bnd (f_X11_soundNow M13) (fun r14 =>
  bnd (f_X11_sizeOf r14 M13) (fun r16 =>
  some (r16, M13)))))))
def f_X11_gusts (p1 : Int32) (M : Mem) : Option (Int32 × Mem) :=
  letv (st M 0 0 0) (fun M1 =>
  bnd (f_X11_isAhead p1 M1) (fun r2 =>
  if r2 = 0 then
  some ((-2), M1)
  else
  if oob 7 40 = true then none else
  if (M1.1 7 (ix 7)) = 30 then
  some ((-5), M1)
  else
  bnd (f_X11_does (1 : Int32) ((-1) : Int32) (0 : Int32) p1 M1) (fun M9 =>
  bnd (f_X11_soundNow M9) (fun r10 =>
  bnd (f_X11_sizeOf r10 M9) (fun r12 =>
  some (r12, M9))))))
def f_X11_undo (M : Mem) : Option (Int32 × Mem) :=
  letv (st M 0 0 0) (fun M1 =>
  bnd (f_X11_isLehr M1) (fun r2 =>
  if r2 = 0 then
  some ((-2), M1)
  else
  if oob 7 40 = true then none else
  if (M1.1 7 (ix 7)) = 0 then
  some ((-5), M1)
  else
  if oob 7 40 = true then none else
  if oob 7 40 = true then none else
  letv (st M1 7 (ix 7) ((M1.1 7 (ix 7)) - (1 : Int32))) (fun M8 =>
  if oob 7 40 = true then none else
  some ((M8.1 7 (ix 7)), M8))))
def f_X11_anew (M : Mem) : Option (Int32 × Mem) :=
  letv (st M 0 0 0) (fun M1 =>
  bnd (f_X11_isLehr M1) (fun r2 =>
  if r2 = 0 then
  some ((-2), M1)
  else
  if oob 7 40 = true then none else
  letv (M1.1 7 (ix 7)) (fun x6 =>
  if oob 7 40 = true then none else
  letv (st M1 7 (ix 7) 0) (fun M7 =>
  some (x6, M7)))))
def f_X11_rate (p1 : Int32) (p2 : Int32) (M : Mem) : Option (Int32 × Mem) :=
  letv (st M 0 0 0) (fun M1 =>
  bnd (f_X11_isPiece ((p1 : Int32).toInt64) M1) (fun r2 =>
  if r2 = 0 then
  some ((-2), M1)
  else
  if (f_X11_in ((p2 : Int32).toInt64) (0 : Int64) (300 : Int64) M1) = 0 then
  some ((-2), M1)
  else
  if oob 7 40 = true then none else
  if (M1.1 7 (ix 7)) ≤ 0 then
  if oob (((4 : Int32) * p1) + (2 : Int32)) 120 = true then none else
  letv (M1.1 9 (ix (((4 : Int32) * p1) + (2 : Int32)))) (fun x9 =>
  if oob (((4 : Int32) * p1) + (2 : Int32)) 120 = true then none else
  letv (st M1 9 (ix (((4 : Int32) * p1) + (2 : Int32))) p2) (fun M10 =>
  some (x9, M10)))
  else
  some ((-5), M1)))
def L_X11_count_66 (p1 : Int32) : (Int32 → Int32 → Mem → Option (Int32 × Mem)) → Int32 → Int32 → Mem → Option (Int32 × Mem) := fun K_66 v2_66 v3_66 M_66 =>
  if (4 : Int32) ≤ v3_66 then
  some (v2_66, M_66)
  else
  if oob v3_66 4 = true then none else
  if (M_66.1 1 (ix v3_66)) = (-1) then
  letv (v2_66 + (0 : Int32)) (fun x11 =>
  K_66 x11 (v3_66 + 1) M_66)
  else
  letv (v2_66 + (1 : Int32)) (fun x10 =>
  K_66 x10 (v3_66 + 1) M_66)
def f_X11_count (p1 : Int32) (M : Mem) : Option (Int32 × Mem) :=
  letv (st M 0 0 0) (fun M1 =>
  if (f_X11_in ((p1 : Int32).toInt64) (0 : Int64) (7 : Int64) M1) = 0 then
  if p1 = 8 then
  if oob 0 5 = true then none else
  some ((M1.1 6 (ix 0)), M1)
  else
  if p1 = 9 then
  some ((M1.1 0 6), M1)
  else
  if p1 = 10 then
  lq3 (L_X11_count_66 p1) FU 0 0 M1
  else
  some ((-1), M1)
  else
  if oob p1 40 = true then none else
  some ((M1.1 7 (ix p1)), M1))
def f_X11_image (p1 : Int32) (M : Mem) : Option (Int32 × Mem) :=
  letv (st M 0 0 0) (fun M1 =>
  if (f_X11_in ((p1 : Int32).toInt64) (0 : Int64) (2 : Int64) M1) = 0 then
  some ((-2), M1)
  else
  bnd (f_X11_copyLehr (0 : Int32) ((1 : Int32) + p1) M1) (fun M5 =>
  if oob p1 3 = true then none else
  letv (st M5 11 (ix p1) (vp_nar .boolean 1)) (fun M6 =>
  some (0, M6))))
def f_X11_back (p1 : Int32) (M : Mem) : Option (Int32 × Mem) :=
  letv (st M 0 0 0) (fun M1 =>
  if (f_X11_in ((p1 : Int32).toInt64) (0 : Int64) (2 : Int64) M1) = 0 then
  some ((-2), M1)
  else
  if oob p1 3 = true then none else
  if (M1.1 11 (ix p1)) = 0 then
  some ((-6), M1)
  else
  bnd (f_X11_copyLehr ((1 : Int32) + p1) (0 : Int32) M1) (fun M7 =>
  some (0, M7)))
