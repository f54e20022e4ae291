theorem fpX0_24 : FP "LehrBelt$Acts" 24 0 0 0 .int := ⟨(RX0, TX0, 6), rfl, inX0, by decide, List.mem_of_getElem? (i := 286) (by decide +kernel), rfl, ⟨tyX0, tyX0_ok⟩, nmX0, rfl, by decide +kernel⟩
theorem fpX0_28 : FP "LehrBelt$Acts" 28 0 1 0 .int := ⟨(RX0, TX0, 6), rfl, inX0, by decide, List.mem_of_getElem? (i := 288) (by decide +kernel), rfl, ⟨tyX0, tyX0_ok⟩, nmX0, rfl, by decide +kernel⟩
theorem flX0_21 : FL "LehrBelt$Acts" 21 0 5 2 := ⟨(RX0, TX0, 6), rfl, inX0, by decide, List.mem_of_getElem? (i := 294) (by decide +kernel), rfl⟩
theorem slX0_31 : SL "LehrBelt$Acts" 31 yJ7_fill_53178 bJ7_fill_53178 4 (none) 2 := ⟨List.mem_of_getElem? (i := 642) (by decide +kernel), List.mem_of_getElem? (i := 643) (by decide +kernel), List.mem_of_getElem? (i := 122) (by decide +kernel), List.mem_of_getElem? (i := 644) (by decide +kernel), by decide +kernel, by decide +kernel, by decide +kernel⟩
theorem flX0_24 : FL "LehrBelt$Acts" 24 0 0 0 := ⟨(RX0, TX0, 6), rfl, inX0, by decide, List.mem_of_getElem? (i := 286) (by decide +kernel), rfl⟩
theorem flX0_28 : FL "LehrBelt$Acts" 28 0 1 0 := ⟨(RX0, TX0, 6), rfl, inX0, by decide, List.mem_of_getElem? (i := 288) (by decide +kernel), rfl⟩
theorem flX0_9 : FL "LehrBelt$Acts" 9 0 2 2 := ⟨(RX0, TX0, 6), rfl, inX0, by decide, List.mem_of_getElem? (i := 291) (by decide +kernel), rfl⟩
theorem alX0_37 : AL "LehrBelt$Acts" 37 := ⟨List.mem_of_getElem? (i := 1071) (by decide +kernel), List.mem_of_getElem? (i := 637) (by decide +kernel), List.mem_of_getElem? (i := 636) (by decide +kernel), List.mem_of_getElem? (i := 121) (by decide +kernel)⟩
theorem flX0_15 : FL "LehrBelt$Acts" 15 0 3 2 := ⟨(RX0, TX0, 6), rfl, inX0, by decide, List.mem_of_getElem? (i := 292) (by decide +kernel), rfl⟩
theorem flX0_18 : FL "LehrBelt$Acts" 18 0 4 2 := ⟨(RX0, TX0, 6), rfl, inX0, by decide, List.mem_of_getElem? (i := 293) (by decide +kernel), rfl⟩
theorem vlX0_43 : VL "LehrBelt$Acts" 43 yX0_addAct bX0_addAct 4 ((some .boolean)) 3 := ⟨List.mem_of_getElem? (i := 1359) (by decide +kernel), List.mem_of_getElem? (i := 1361) (by decide +kernel), List.mem_of_getElem? (i := 31) (by decide +kernel), List.mem_of_getElem? (i := 109) (by decide +kernel), List.mem_of_getElem? (i := 1362) (by decide +kernel), by decide +kernel, by decide +kernel, by decide +kernel⟩
theorem vlX0_47 : VL "LehrBelt$Acts" 47 yX0_heatUp bX0_heatUp 5 (none) 3 := ⟨List.mem_of_getElem? (i := 1363) (by decide +kernel), List.mem_of_getElem? (i := 1365) (by decide +kernel), List.mem_of_getElem? (i := 32) (by decide +kernel), List.mem_of_getElem? (i := 109) (by decide +kernel), List.mem_of_getElem? (i := 1366) (by decide +kernel), by decide +kernel, by decide +kernel, by decide +kernel⟩
theorem vlX0_51 : VL "LehrBelt$Acts" 51 yX0_gatherGusts bX0_gatherGusts 2 (none) 0 := ⟨List.mem_of_getElem? (i := 1387) (by decide +kernel), List.mem_of_getElem? (i := 1389) (by decide +kernel), List.mem_of_getElem? (i := 34) (by decide +kernel), List.mem_of_getElem? (i := 109) (by decide +kernel), List.mem_of_getElem? (i := 1390) (by decide +kernel), by decide +kernel, by decide +kernel, by decide +kernel⟩
theorem flX1_12 : FL "LehrBelt$Belt" 12 1 0 2 := ⟨(RX1, TX1, 2), rfl, inX1, by decide, List.mem_of_getElem? (i := 309) (by decide +kernel), rfl⟩
theorem vlX1_25 : VL "LehrBelt$Belt" 25 yX5_copyFrom bX5_copyFrom 2 (none) 1 := ⟨List.mem_of_getElem? (i := 1066) (by decide +kernel), List.mem_of_getElem? (i := 632) (by decide +kernel), List.mem_of_getElem? (i := 633) (by decide +kernel), List.mem_of_getElem? (i := 107) (by decide +kernel), List.mem_of_getElem? (i := 634) (by decide +kernel), by decide +kernel, by decide +kernel, by decide +kernel⟩
theorem flX1_21 : FL "LehrBelt$Belt" 21 1 1 2 := ⟨(RX1, TX1, 2), rfl, inX1, by decide, List.mem_of_getElem? (i := 314) (by decide +kernel), rfl⟩
theorem vlX1_29 : VL "LehrBelt$Belt" 29 yX0_copyFrom bX0_copyFrom 2 (none) 1 := ⟨List.mem_of_getElem? (i := 1067) (by decide +kernel), List.mem_of_getElem? (i := 1068) (by decide +kernel), List.mem_of_getElem? (i := 1069) (by decide +kernel), List.mem_of_getElem? (i := 109) (by decide +kernel), List.mem_of_getElem? (i := 1070) (by decide +kernel), by decide +kernel, by decide +kernel, by decide +kernel⟩
theorem flX1_32 : FL "LehrBelt$Belt" 32 5 8 2 := ⟨(RX5, TX5, 13), rfl, inX5, by decide, List.mem_of_getElem? (i := 224) (by decide +kernel), rfl⟩
theorem flX1_36 : FL "LehrBelt$Belt" 36 0 5 2 := ⟨(RX0, TX0, 6), rfl, inX0, by decide, List.mem_of_getElem? (i := 295) (by decide +kernel), rfl⟩
theorem mlX1_39 : ML "LehrBelt$Belt" 39 Lib.Math.max.name Lib.Math.max.code 2 (some .int) := ⟨List.mem_of_getElem? (i := 681) (by decide +kernel), List.mem_of_getElem? (i := 682) (by decide +kernel), List.mem_of_getElem? (i := 120) (by decide +kernel), List.mem_of_getElem? (i := 683) (by decide +kernel)⟩
theorem vlX1_45 : VL "LehrBelt$Belt" 45 yX0_leaveOut bX0_leaveOut 3 (none) 1 := ⟨List.mem_of_getElem? (i := 1160) (by decide +kernel), List.mem_of_getElem? (i := 1161) (by decide +kernel), List.mem_of_getElem? (i := 1162) (by decide +kernel), List.mem_of_getElem? (i := 109) (by decide +kernel), List.mem_of_getElem? (i := 1163) (by decide +kernel), by decide +kernel, by decide +kernel, by decide +kernel⟩
theorem vlX1_49 : VL "LehrBelt$Belt" 49 yX5_leaveOut bX5_leaveOut 2 (none) 1 := ⟨List.mem_of_getElem? (i := 1164) (by decide +kernel), List.mem_of_getElem? (i := 1165) (by decide +kernel), List.mem_of_getElem? (i := 1166) (by decide +kernel), List.mem_of_getElem? (i := 107) (by decide +kernel), List.mem_of_getElem? (i := 1167) (by decide +kernel), by decide +kernel, by decide +kernel, by decide +kernel⟩
theorem mlX3_16 : ML "LehrBelt$Fraction" 16 Lib.MathLoose.abs_long.x Lib.MathLoose.abs_long.code 2 (some .long) := ⟨List.mem_of_getElem? (i := 1293) (by decide +kernel), List.mem_of_getElem? (i := 1294) (by decide +kernel), List.mem_of_getElem? (i := 120) (by decide +kernel), List.mem_of_getElem? (i := 1295) (by decide +kernel)⟩
theorem slX3_22 : SL "LehrBelt$Fraction" 22 yX3_commonDivisor bX3_commonDivisor 11 ((some .long)) 2 := ⟨List.mem_of_getElem? (i := 1296) (by decide +kernel), List.mem_of_getElem? (i := 1297) (by decide +kernel), List.mem_of_getElem? (i := 112) (by decide +kernel), List.mem_of_getElem? (i := 1298) (by decide +kernel), by decide +kernel, by decide +kernel, by decide +kernel⟩
theorem fpX3_7 : FP "LehrBelt$Fraction" 7 3 0 1 .long := ⟨(RX3, TX3, 2), rfl, inX3, by decide, List.mem_of_getElem? (i := 378) (by decide +kernel), rfl, ⟨tyX3, tyX3_ok⟩, nmX3, rfl, by decide +kernel⟩
theorem fpX3_13 : FP "LehrBelt$Fraction" 13 3 1 1 .long := ⟨(RX3, TX3, 2), rfl, inX3, by decide, List.mem_of_getElem? (i := 379) (by decide +kernel), rfl, ⟨tyX3, tyX3_ok⟩, nmX3, rfl, by decide +kernel⟩
theorem flX3_13 : FL "LehrBelt$Fraction" 13 3 1 1 := ⟨(RX3, TX3, 2), rfl, inX3, by decide, List.mem_of_getElem? (i := 379) (by decide +kernel), rfl⟩
theorem flX3_7 : FL "LehrBelt$Fraction" 7 3 0 1 := ⟨(RX3, TX3, 2), rfl, inX3, by decide, List.mem_of_getElem? (i := 378) (by decide +kernel), rfl⟩
theorem flX8_15 : FL "LehrBelt$Tape" 15 8 1 0 := ⟨(RX8, TX8, 2), rfl, inX8, by decide, List.mem_of_getElem? (i := 143) (by decide +kernel), rfl⟩
theorem flX8_9 : FL "LehrBelt$Tape" 9 8 0 2 := ⟨(RX8, TX8, 2), rfl, inX8, by decide, List.mem_of_getElem? (i := 142) (by decide +kernel), rfl⟩
theorem fpX8_15 : FP "LehrBelt$Tape" 15 8 1 0 .int := ⟨(RX8, TX8, 2), rfl, inX8, by decide, List.mem_of_getElem? (i := 143) (by decide +kernel), rfl, ⟨tyX8, tyX8_ok⟩, nmX8, rfl, by decide +kernel⟩
set_option maxRecDepth 100000 in
set_option maxHeartbeats 4000000 in
theorem c_X0_clear {l : Launch} {P : Wp} {E : State → Heap → Prop} (hW : Wok shC P E) {o : Nat} {M : Mem} {M' : Mem} (ho : shC.1[o]? = some (0, 0)) (h : f_X0_clear o M = some M') : CT l shC P E yX0_clear bX0_clear 1 (none) 1 23 [.ref (P.2.2.1 o)] none M M' := by
  refine ct_of hW (by decide) (Nat.le_of_ble_eq_true rfl) (fun p e s m args below meth c C ls hl hw => ?_)
  have hx := C.1
  have hb := C.2.1
  replace hl : lv_has ls 1 [(0, .ref (P.2.2.1 o))] := hl
  refine lv_aload_n hx hb dX0_clear_0 rfl (lv_at hl 0 rfl) ?_
  refine lv_iconst (v := 0) hx hb dX0_clear_1 (by decide) ?_
  refine wputI C hw fpX0_24 ho dX0_clear_2 (fun M1 eM1 H locs hw => ?_)
  replace h := letv_at eM1 h
  refine lv_aload_n hx hb dX0_clear_5 rfl (lv_at hl 0 rfl) ?_
  refine lv_iconst (v := 0) hx hb dX0_clear_6 (by decide) ?_
  refine wputI C hw fpX0_28 ho dX0_clear_7 (fun M2 eM2 H locs hw => ?_)
  replace h := letv_at eM2 h
  refine lv_aload_n hx hb dX0_clear_10 rfl (lv_at hl 0 rfl) ?_
  refine wgetR (t := (rC o 5)) C hw flX0_21 ho rfl dX0_clear_11 ?_
  refine lv_iconst (v := 0) hx hb dX0_clear_14 (by decide) ?_
  obtain ⟨M5, e4, h⟩ := bnd_some h
  refine wcallS0 (As := [.ref (P.2.2.1 (rC o 5)), .int 0]) (rest := []) C hw (c_J7_fill_53178 hW (refC (k := 5) ho rfl : _ = some (1, 105)) e4) slX0_31 ⟨Nat.le_of_ble_eq_true rfl, Nat.le_of_ble_eq_true rfl⟩ rfl rfl hl.1 (Nat.le_of_ble_eq_true rfl) dX0_clear_15 ⟨Nat.zero_le _, Nat.zero_le _⟩ (fun H locs hw => ?_)
  exact wretV_W C hw h dX0_clear_18
set_option maxRecDepth 100000 in
set_option maxHeartbeats 4000000 in
theorem c_X0_copyFrom {l : Launch} {P : Wp} {E : State → Heap → Prop} (hW : Wok shC P E) {o : Nat} {p1 : Nat} {M : Mem} {M' : Mem} (ho : shC.1[o]? = some (0, 0)) (hp1 : shC.1[p1]? = some (0, 0)) (h : f_X0_copyFrom o p1 M = some M') : CT l shC P E yX0_copyFrom bX0_copyFrom 2 (none) 1 64 [.ref (P.2.2.1 o), .ref (P.2.2.1 p1)] none M M' := by
  refine ct_of hW (by decide) (Nat.le_of_ble_eq_true rfl) (fun p e s m args below meth c C ls hl hw => ?_)
  have hx := C.1
  have hb := C.2.1
  replace hl : lv_has ls 2 [(0, .ref (P.2.2.1 o)), (1, .ref (P.2.2.1 p1))] := hl
  refine lv_aload_n hx hb dX0_copyFrom_0 rfl (lv_at hl 0 rfl) ?_
  refine lv_aload_n hx hb dX0_copyFrom_1 rfl (lv_at hl 1 rfl) ?_
  refine wgetI C hw flX0_24 hp1 dX0_copyFrom_2 ?_
  refine wputI C hw fpX0_24 ho dX0_copyFrom_5 (fun M1 eM1 H locs hw => ?_)
  replace h := letv_at eM1 h
  refine lv_aload_n hx hb dX0_copyFrom_8 rfl (lv_at hl 0 rfl) ?_
  refine lv_aload_n hx hb dX0_copyFrom_9 rfl (lv_at hl 1 rfl) ?_
  refine wgetI C hw flX0_28 hp1 dX0_copyFrom_10 ?_
  refine wputI C hw fpX0_28 ho dX0_copyFrom_13 (fun M2 eM2 H locs hw => ?_)
  replace h := letv_at eM2 h
  refine lv_aload_n hx hb dX0_copyFrom_16 rfl (lv_at hl 1 rfl) ?_
  refine wgetR (t := (rC p1 2)) C hw flX0_9 hp1 rfl dX0_copyFrom_17 ?_
  refine lv_iconst (v := 0) hx hb dX0_copyFrom_20 (by decide) ?_
  refine lv_aload_n hx hb dX0_copyFrom_21 rfl (lv_at hl 0 rfl) ?_
  refine wgetR (t := (rC o 2)) C hw flX0_9 ho rfl dX0_copyFrom_22 ?_
  refine lv_iconst (v := 0) hx hb dX0_copyFrom_25 (by decide) ?_
  refine lv_bipush (v := 30) hx hb dX0_copyFrom_26 (by decide) ?_
  obtain ⟨g4, h⟩ := grd h
  obtain ⟨g5, h⟩ := grd h
  refine wcopyI C hw (refC (k := 2) hp1 rfl : _ = some (1, 30)) (refC (k := 2) ho rfl : _ = some (1, 30)) alX0_37 g4 g5 hl.1 (Nat.le_of_ble_eq_true rfl) (Nat.le_of_ble_eq_true rfl) dX0_copyFrom_28 (fun M3 eM3 H locs hw => ?_)
  replace h := letv_at eM3 h
  refine lv_aload_n hx hb dX0_copyFrom_31 rfl (lv_at hl 1 rfl) ?_
  refine wgetR (t := (rC p1 3)) C hw flX0_15 hp1 rfl dX0_copyFrom_32 ?_
  refine lv_iconst (v := 0) hx hb dX0_copyFrom_35 (by decide) ?_
  refine lv_aload_n hx hb dX0_copyFrom_36 rfl (lv_at hl 0 rfl) ?_
  refine wgetR (t := (rC o 3)) C hw flX0_15 ho rfl dX0_copyFrom_37 ?_
  refine lv_iconst (v := 0) hx hb dX0_copyFrom_40 (by decide) ?_
  refine lv_bipush (v := 30) hx hb dX0_copyFrom_41 (by decide) ?_
  obtain ⟨g7, h⟩ := grd h
  obtain ⟨g8, h⟩ := grd h
  refine wcopyI C hw (refC (k := 3) hp1 rfl : _ = some (1, 30)) (refC (k := 3) ho rfl : _ = some (1, 30)) alX0_37 g7 g8 hl.1 (Nat.le_of_ble_eq_true rfl) (Nat.le_of_ble_eq_true rfl) dX0_copyFrom_43 (fun M6 eM6 H locs hw => ?_)
  replace h := letv_at eM6 h
  refine lv_aload_n hx hb dX0_copyFrom_46 rfl (lv_at hl 1 rfl) ?_
  refine wgetR (t := (rC p1 4)) C hw flX0_18 hp1 rfl dX0_copyFrom_47 ?_
  refine lv_iconst (v := 0) hx hb dX0_copyFrom_50 (by decide) ?_
  refine lv_aload_n hx hb dX0_copyFrom_51 rfl (lv_at hl 0 rfl) ?_
  refine wgetR (t := (rC o 4)) C hw flX0_18 ho rfl dX0_copyFrom_52 ?_
  refine lv_iconst (v := 0) hx hb dX0_copyFrom_55 (by decide) ?_
  refine lv_bipush (v := 30) hx hb dX0_copyFrom_56 (by decide) ?_
  obtain ⟨g10, h⟩ := grd h
  obtain ⟨g11, h⟩ := grd h
  refine wcopyI C hw (refC (k := 4) hp1 rfl : _ = some (1, 30)) (refC (k := 4) ho rfl : _ = some (1, 30)) alX0_37 g10 g11 hl.1 (Nat.le_of_ble_eq_true rfl) (Nat.le_of_ble_eq_true rfl) dX0_copyFrom_58 (fun M9 eM9 H locs hw => ?_)
  replace h := letv_at eM9 h
  refine lv_aload_n hx hb dX0_copyFrom_61 rfl (lv_at hl 1 rfl) ?_
  refine wgetR (t := (rC p1 5)) C hw flX0_21 hp1 rfl dX0_copyFrom_62 ?_
  refine lv_iconst (v := 0) hx hb dX0_copyFrom_65 (by decide) ?_
  refine lv_aload_n hx hb dX0_copyFrom_66 rfl (lv_at hl 0 rfl) ?_
  refine wgetR (t := (rC o 5)) C hw flX0_21 ho rfl dX0_copyFrom_67 ?_
  refine lv_iconst (v := 0) hx hb dX0_copyFrom_70 (by decide) ?_
  refine lv_bipush (v := 105) hx hb dX0_copyFrom_71 (by decide) ?_
  obtain ⟨g13, h⟩ := grd h
  obtain ⟨g14, h⟩ := grd h
  refine wcopyI C hw (refC (k := 5) hp1 rfl : _ = some (1, 105)) (refC (k := 5) ho rfl : _ = some (1, 105)) alX0_37 g13 g14 hl.1 (Nat.le_of_ble_eq_true rfl) (Nat.le_of_ble_eq_true rfl) dX0_copyFrom_73 (fun M12 eM12 H locs hw => ?_)
  replace h := letv_at eM12 h
  exact wretV_W C hw h dX0_copyFrom_76
set_option maxRecDepth 100000 in
set_option maxHeartbeats 4000000 in
theorem c_X0_addAct {l : Launch} {P : Wp} {E : State → Heap → Prop} (hW : Wok shC P E) {o : Nat} {p1 : Int32} {p2 : Int32} {p3 : Int32} {M : Mem} {r : Int32} {M' : Mem} (ho : shC.1[o]? = some (0, 0)) (h : f_X0_addAct o p1 p2 p3 M = some (r, M')) : CT l shC P E yX0_addAct bX0_addAct 4 ((some .boolean)) 0 0 [.ref (P.2.2.1 o), .int p1, .int p2, .int p3] (some (.int r)) M M' := by
  refine ct_of hW (by decide) (Nat.le_of_ble_eq_true rfl) (fun p e s m args below meth c C ls hl hw => ?_)
  have hx := C.1
  have hb := C.2.1
  replace hl : lv_has ls 4 [(0, .ref (P.2.2.1 o)), (1, .int p1), (2, .int p2), (3, .int p3)] := hl
  refine lv_aload_n hx hb dX0_addAct_0 rfl (lv_at hl 0 rfl) ?_
  refine wgetI C hw flX0_24 ho dX0_addAct_1 ?_
  refine lv_if_lt (tgt := 16) hx hb dX0_addAct_4 (by decide) (fun c1 => ?_) (fun c1 => ?_)
  · replace h := (if_pos c1).symm.trans h
    refine lv_iconst (v := 0) hx hb dX0_addAct_16 (by decide) ?_
    exact wretZ_W C hw (Or.inl rfl) h dX0_addAct_17
  · replace h := (if_neg c1).symm.trans h
    refine lv_aload_n hx hb dX0_addAct_7 rfl (lv_at hl 0 rfl) ?_
    refine wgetI C hw flX0_24 ho dX0_addAct_8 ?_
    refine lv_bipush (v := 30) hx hb dX0_addAct_11 (by decide) ?_
    refine lv_icmp_lt (tgt := 18) hx hb dX0_addAct_13 (by decide) (fun c2 => ?_) (fun c2 => ?_)
    · replace h := (if_pos c2).symm.trans h
      refine lv_aload_n hx hb dX0_addAct_18 rfl (lv_at hl 0 rfl) ?_
      refine wgetR (t := (rC o 2)) C hw flX0_9 ho rfl dX0_addAct_19 ?_
      refine lv_aload_n hx hb dX0_addAct_22 rfl (lv_at hl 0 rfl) ?_
      refine wgetI C hw flX0_24 ho dX0_addAct_23 ?_
      refine lv_iload_n hx hb dX0_addAct_26 rfl (lv_at hl 1 rfl) ?_
      obtain ⟨g4, h⟩ := grd h
      refine wast C hw (refC (k := 2) ho rfl : _ = some (1, 30)) g4 dX0_addAct_27 (fun M3 eM3 H locs hw => ?_)
      replace h := letv_at eM3 h
      refine lv_aload_n hx hb dX0_addAct_28 rfl (lv_at hl 0 rfl) ?_
      refine wgetR (t := (rC o 3)) C hw flX0_15 ho rfl dX0_addAct_29 ?_
      refine lv_aload_n hx hb dX0_addAct_32 rfl (lv_at hl 0 rfl) ?_
      refine wgetI C hw flX0_24 ho dX0_addAct_33 ?_
      refine lv_iload_n hx hb dX0_addAct_36 rfl (lv_at hl 2 rfl) ?_
      obtain ⟨g6, h⟩ := grd h
      refine wast C hw (refC (k := 3) ho rfl : _ = some (1, 30)) g6 dX0_addAct_37 (fun M5 eM5 H locs hw => ?_)
      replace h := letv_at eM5 h
      refine lv_aload_n hx hb dX0_addAct_38 rfl (lv_at hl 0 rfl) ?_
      refine wgetR (t := (rC o 4)) C hw flX0_18 ho rfl dX0_addAct_39 ?_
      refine lv_aload_n hx hb dX0_addAct_42 rfl (lv_at hl 0 rfl) ?_
      refine wgetI C hw flX0_24 ho dX0_addAct_43 ?_
      refine lv_iload_n hx hb dX0_addAct_46 rfl (lv_at hl 3 rfl) ?_
      obtain ⟨g8, h⟩ := grd h
      refine wast C hw (refC (k := 4) ho rfl : _ = some (1, 30)) g8 dX0_addAct_47 (fun M7 eM7 H locs hw => ?_)
      replace h := letv_at eM7 h
      refine lv_aload_n hx hb dX0_addAct_48 rfl (lv_at hl 0 rfl) ?_
      refine lv_dup hx hb dX0_addAct_49 rfl ?_
      refine wgetI C hw flX0_24 ho dX0_addAct_50 ?_
      refine lv_iconst (v := 1) hx hb dX0_addAct_53 (by decide) ?_
      refine lv_iadd hx hb dX0_addAct_54 ?_
      refine wputI C hw fpX0_24 ho dX0_addAct_55 (fun M9 eM9 H locs hw => ?_)
      replace h := letv_at eM9 h
      refine lv_iconst (v := 1) hx hb dX0_addAct_58 (by decide) ?_
      exact wretZ_W C hw (Or.inr rfl) h dX0_addAct_59
    · replace h := (if_neg c2).symm.trans h
      refine lv_iconst (v := 0) hx hb dX0_addAct_16 (by decide) ?_
      exact wretZ_W C hw (Or.inl rfl) h dX0_addAct_17
set_option maxRecDepth 100000 in
set_option maxHeartbeats 4000000 in
theorem c_X0_heatUp {l : Launch} {P : Wp} {E : State → Heap → Prop} (hW : Wok shC P E) {o : Nat} {p1 : Int32} {p2 : Int32} {p3 : Int32} {M : Mem} {M' : Mem} (ho : shC.1[o]? = some (0, 0)) (h : f_X0_heatUp o p1 p2 p3 M = some M') : CT l shC P E yX0_heatUp bX0_heatUp 5 (none) 0 0 [.ref (P.2.2.1 o), .int p1, .int p2, .int p3] none M M' := by
  refine ct_of hW (by decide) (Nat.le_of_ble_eq_true rfl) (fun p e s m args below meth c C ls hl hw => ?_)
  have hx := C.1
  have hb := C.2.1
  replace hl : lv_has ls 5 [(0, .ref (P.2.2.1 o)), (1, .int p1), (2, .int p2), (3, .int p3)] := hl
  have cut_18 : ∀ (n_18 : Nat) (v4_18 : Int32) (M_18 : Mem) (ls : Array Slot) (H : Heap) (locs : List Loc), lv_has ls 5 [(0, .ref (P.2.2.1 o)), (1, .int p1), (2, .int p2), (4, .int v4_18)] → Hw shC P M_18 s H locs → lq2 (L_X0_heatUp_18 o p1 p2 p3) n_18 v4_18 M_18 = some M' → W p l e { frames := 0, cells := 0, slots := 0, locals := 0 } s m args below meth c H locs 0 0 (MQ below (CQ shC P E none M') args s 0 0 (wA shC P)) (F0 m 18 ls []) := by
    intro n_18
    induction n_18 with
    | zero => intro v4_18 M_18 ls H locs hl hw h; cases h
    | succ n_18 ih_18 =>
      intro v4_18 M_18 ls H locs hl hw h
      replace h := lq2_succ h
      refine lv_iload hx hb dX0_heatUp_18 (lv_at hl 3 rfl) ?_
      refine lv_bipush (v := 15) hx hb dX0_heatUp_20 (by decide) ?_
      refine lv_icmp_ge (tgt := 47) hx hb dX0_heatUp_22 (by decide) (fun c4 => ?_) (fun c4 => ?_)
      · replace h := (if_pos c4).symm.trans h
        exact wretV_W C hw h dX0_heatUp_47
      · replace h := (if_neg c4).symm.trans h
        refine lv_aload_n hx hb dX0_heatUp_25 rfl (lv_at hl 0 rfl) ?_
        refine wgetR (t := (rC o 5)) C hw flX0_21 ho rfl dX0_heatUp_26 ?_
        refine lv_iload_n hx hb dX0_heatUp_29 rfl (lv_at hl 1 rfl) ?_
        refine lv_bipush (v := 15) hx hb dX0_heatUp_30 (by decide) ?_
        refine lv_imul hx hb dX0_heatUp_32 ?_
        refine lv_iload hx hb dX0_heatUp_33 (lv_at hl 3 rfl) ?_
        refine lv_iadd hx hb dX0_heatUp_35 ?_
        refine lv_dup2_11 hx hb dX0_heatUp_36 rfl rfl ?_
        obtain ⟨g5, h⟩ := grd h
        refine wald C hw (refC (k := 5) ho rfl : _ = some (1, 105)) g5 dX0_heatUp_37 ?_
        refine lv_iload_n hx hb dX0_heatUp_38 rfl (lv_at hl 2 rfl) ?_
        refine lv_iadd hx hb dX0_heatUp_39 ?_
        obtain ⟨g7, h⟩ := grd h
        refine wast C hw (refC (k := 5) ho rfl : _ = some (1, 105)) g7 dX0_heatUp_40 (fun M6 eM6 H locs hw => ?_)
        replace h := letv_at eM6 h
        refine lv_iinc (v := (v4_18 + 1)) (lv' := [(4, .int (v4_18 + 1)), (0, .ref (P.2.2.1 o)), (1, .int p1), (2, .int p2)]) (k := 3) hx hb dX0_heatUp_41 hl rfl (congrArg (fun z => v4_18 + z) (by decide)) (by decide) rfl (fun ls hl => ?_)
        refine lv_goto (tgt := 18) hx hb dX0_heatUp_44 (by decide) ?_
        exact ih_18 (v4_18 + 1) M6 ls _ _ (lv_sub hl [1, 2, 3, 0] rfl) hw h
  refine lv_iload_n hx hb dX0_heatUp_0 rfl (lv_at hl 1 rfl) ?_
  refine lv_if_lt (tgt := 14) hx hb dX0_heatUp_1 (by decide) (fun c1 => ?_) (fun c1 => ?_)
  · replace h := (if_pos c1).symm.trans h
    exact wretV_W C hw h dX0_heatUp_14
  · replace h := (if_neg c1).symm.trans h
    refine lv_iload_n hx hb dX0_heatUp_4 rfl (lv_at hl 1 rfl) ?_
    refine lv_bipush (v := 7) hx hb dX0_heatUp_5 (by decide) ?_
    refine lv_icmp_ge (tgt := 14) hx hb dX0_heatUp_7 (by decide) (fun c2 => ?_) (fun c2 => ?_)
    · replace h := (if_pos c2).symm.trans h
      exact wretV_W C hw h dX0_heatUp_14
    · replace h := (if_neg c2).symm.trans h
      refine lv_iload_n hx hb dX0_heatUp_10 rfl (lv_at hl 3 rfl) ?_
      refine lv_if_ge (tgt := 15) hx hb dX0_heatUp_11 (by decide) (fun c3 => ?_) (fun c3 => ?_)
      · replace h := (if_pos c3).symm.trans h
        refine lv_iload_n hx hb dX0_heatUp_15 rfl (lv_at hl 3 rfl) ?_
        refine lv_istore (lv' := [(4, .int p3), (0, .ref (P.2.2.1 o)), (1, .int p1), (2, .int p2), (3, .int p3)]) hx hb dX0_heatUp_16 hl (by decide) rfl (fun ls hl => ?_)
        exact cut_18 FU p3 M ls _ _ (lv_sub hl [1, 2, 3, 0] rfl) hw h
      · replace h := (if_neg c3).symm.trans h
        exact wretV_W C hw h dX0_heatUp_14
set_option maxRecDepth 100000 in
set_option maxHeartbeats 4000000 in
theorem c_X0_addFire {l : Launch} {P : Wp} {E : State → Heap → Prop} (hW : Wok shC P E) {o : Nat} {p1 : Int32} {p2 : Int32} {p3 : Int32} {M : Mem} {r : Int32} {M' : Mem} (ho : shC.1[o]? = some (0, 0)) (h : f_X0_addFire o p1 p2 p3 M = some (r, M')) : CT l shC P E yX0_addFire bX0_addFire 4 ((some .boolean)) 1 24 [.ref (P.2.2.1 o), .int p1, .int p2, .int p3] (some (.int r)) M M' := by
  refine ct_of hW (by decide) (Nat.le_of_ble_eq_true rfl) (fun p e s m args below meth c C ls hl hw => ?_)
  have hx := C.1
  have hb := C.2.1
  replace hl : lv_has ls 4 [(0, .ref (P.2.2.1 o)), (1, .int p1), (2, .int p2), (3, .int p3)] := hl
  refine lv_aload_n hx hb dX0_addFire_0 rfl (lv_at hl 0 rfl) ?_
  refine lv_iload_n hx hb dX0_addFire_1 rfl (lv_at hl 1 rfl) ?_
  refine lv_iload_n hx hb dX0_addFire_2 rfl (lv_at hl 2 rfl) ?_
  refine lv_iload_n hx hb dX0_addFire_3 rfl (lv_at hl 3 rfl) ?_
  obtain ⟨r1, M3, e2, h⟩ := bnd2_some h
  refine wcallV1 (As := [.int p1, .int p2, .int p3]) (rest := []) C hw (c_X0_addAct hW ho e2) vlX0_43 ⟨Nat.le_of_ble_eq_true rfl, Nat.le_of_ble_eq_true rfl⟩ ho rfl rfl rfl hl.1 (Nat.le_of_ble_eq_true rfl) dX0_addFire_4 ⟨Nat.zero_le _, Nat.zero_le _⟩ (fun H locs hw => ?_)
  refine lv_if_ne (tgt := 12) hx hb dX0_addFire_7 (by decide) (fun c4 => ?_) (fun c4 => ?_)
  · replace h := (if_neg c4).symm.trans h
    refine lv_aload_n hx hb dX0_addFire_12 rfl (lv_at hl 0 rfl) ?_
    refine lv_iload_n hx hb dX0_addFire_13 rfl (lv_at hl 1 rfl) ?_
    refine lv_iload_n hx hb dX0_addFire_14 rfl (lv_at hl 2 rfl) ?_
    refine lv_iload_n hx hb dX0_addFire_15 rfl (lv_at hl 3 rfl) ?_
    obtain ⟨M7, e6, h⟩ := bnd_some h
    refine wcallV0 (As := [.int p1, .int p2, .int p3]) (rest := []) C hw (c_X0_heatUp hW ho e6) vlX0_47 ⟨Nat.le_of_ble_eq_true rfl, Nat.le_of_ble_eq_true rfl⟩ ho rfl rfl rfl hl.1 (Nat.le_of_ble_eq_true rfl) dX0_addFire_16 ⟨Nat.zero_le _, Nat.zero_le _⟩ (fun H locs hw => ?_)
    refine lv_iconst (v := 1) hx hb dX0_addFire_19 (by decide) ?_
    exact wretZ_W C hw (Or.inr rfl) h dX0_addFire_20
  · replace h := (if_pos c4).symm.trans h
    refine lv_iconst (v := 0) hx hb dX0_addFire_10 (by decide) ?_
    exact wretZ_W C hw (Or.inl rfl) h dX0_addFire_11
set_option maxRecDepth 100000 in
set_option maxHeartbeats 4000000 in
theorem c_X0_addGust {l : Launch} {P : Wp} {E : State → Heap → Prop} (hW : Wok shC P E) {o : Nat} {p1 : Int32} {M : Mem} {r : Int32} {M' : Mem} (ho : shC.1[o]? = some (0, 0)) (h : f_X0_addGust o p1 M = some (r, M')) : CT l shC P E yX0_addGust bX0_addGust 2 ((some .boolean)) 1 23 [.ref (P.2.2.1 o), .int p1] (some (.int r)) M M' := by
  refine ct_of hW (by decide) (Nat.le_of_ble_eq_true rfl) (fun p e s m args below meth c C ls hl hw => ?_)
  have hx := C.1
  have hb := C.2.1
  replace hl : lv_has ls 2 [(0, .ref (P.2.2.1 o)), (1, .int p1)] := hl
  refine lv_aload_n hx hb dX0_addGust_0 rfl (lv_at hl 0 rfl) ?_
  refine lv_iconst (v := (-1)) hx hb dX0_addGust_1 (by decide) ?_
  refine lv_iconst (v := 0) hx hb dX0_addGust_2 (by decide) ?_
  refine lv_iload_n hx hb dX0_addGust_3 rfl (lv_at hl 1 rfl) ?_
  obtain ⟨r1, M3, e2, h⟩ := bnd2_some h
  refine wcallV1 (As := [.int (-1), .int 0, .int p1]) (rest := []) C hw (c_X0_addAct hW ho e2) vlX0_43 ⟨Nat.le_of_ble_eq_true rfl, Nat.le_of_ble_eq_true rfl⟩ ho rfl rfl rfl hl.1 (Nat.le_of_ble_eq_true rfl) dX0_addGust_4 ⟨Nat.zero_le _, Nat.zero_le _⟩ (fun H locs hw => ?_)
  refine lv_if_ne (tgt := 12) hx hb dX0_addGust_7 (by decide) (fun c4 => ?_) (fun c4 => ?_)
  · replace h := (if_neg c4).symm.trans h
    refine lv_aload_n hx hb dX0_addGust_12 rfl (lv_at hl 0 rfl) ?_
    refine lv_dup hx hb dX0_addGust_13 rfl ?_
    refine wgetI C hw flX0_28 ho dX0_addGust_14 ?_
    refine lv_iconst (v := 1) hx hb dX0_addGust_17 (by decide) ?_
    refine lv_iload_n hx hb dX0_addGust_18 rfl (lv_at hl 1 rfl) ?_
    refine lv_ishl hx hb dX0_addGust_19 ?_
    refine lv_ior hx hb dX0_addGust_20 ?_
    refine wputI C hw fpX0_28 ho dX0_addGust_21 (fun M5 eM5 H locs hw => ?_)
    replace h := letv_at eM5 h
    refine lv_iconst (v := 1) hx hb dX0_addGust_24 (by decide) ?_
    exact wretZ_W C hw (Or.inr rfl) h dX0_addGust_25
  · replace h := (if_pos c4).symm.trans h
    refine lv_iconst (v := 0) hx hb dX0_addGust_10 (by decide) ?_
    exact wretZ_W C hw (Or.inl rfl) h dX0_addGust_11
set_option maxRecDepth 100000 in
set_option maxHeartbeats 4000000 in
theorem c_X0_gatherGusts {l : Launch} {P : Wp} {E : State → Heap → Prop} (hW : Wok shC P E) {o : Nat} {M : Mem} {M' : Mem} (ho : shC.1[o]? = some (0, 0)) (h : f_X0_gatherGusts o M = some M') : CT l shC P E yX0_gatherGusts bX0_gatherGusts 2 (none) 0 0 [.ref (P.2.2.1 o)] none M M' := by
  refine ct_of hW (by decide) (Nat.le_of_ble_eq_true rfl) (fun p e s m args below meth c C ls hl hw => ?_)
  have hx := C.1
  have hb := C.2.1
  replace hl : lv_has ls 2 [(0, .ref (P.2.2.1 o))] := hl
  have cut_7 : ∀ (n_7 : Nat) (v1_7 : Int32) (M_7 : Mem) (ls : Array Slot) (H : Heap) (locs : List Loc), lv_has ls 2 [(0, .ref (P.2.2.1 o)), (1, .int v1_7)] → Hw shC P M_7 s H locs → lq2 (L_X0_gatherGusts_7 o) n_7 v1_7 M_7 = some M' → W p l e { frames := 0, cells := 0, slots := 0, locals := 0 } s m args below meth c H locs 0 0 (MQ below (CQ shC P E none M') args s 0 0 (wA shC P)) (F0 m 7 ls []) := by
    intro n_7
    induction n_7 with
    | zero => intro v1_7 M_7 ls H locs hl hw h; cases h
    | succ n_7 ih_7 =>
      intro v1_7 M_7 ls H locs hl hw h
      replace h := lq2_succ h
      refine lv_iload_n hx hb dX0_gatherGusts_7 rfl (lv_at hl 1 rfl) ?_
      refine lv_aload_n hx hb dX0_gatherGusts_8 rfl (lv_at hl 0 rfl) ?_
      refine wgetI C hw flX0_24 ho dX0_gatherGusts_9 ?_
      refine lv_icmp_ge (tgt := 54) hx hb dX0_gatherGusts_12 (by decide) (fun c2 => ?_) (fun c2 => ?_)
      · replace h := (if_pos c2).symm.trans h
        exact wretV_W C hw h dX0_gatherGusts_54
      · replace h := (if_neg c2).symm.trans h
        refine lv_iload_n hx hb dX0_gatherGusts_15 rfl (lv_at hl 1 rfl) ?_
        refine lv_bipush (v := 30) hx hb dX0_gatherGusts_16 (by decide) ?_
        refine lv_icmp_ge (tgt := 54) hx hb dX0_gatherGusts_18 (by decide) (fun c3 => ?_) (fun c3 => ?_)
        · replace h := (if_pos c3).symm.trans h
          exact wretV_W C hw h dX0_gatherGusts_54
        · replace h := (if_neg c3).symm.trans h
          refine lv_aload_n hx hb dX0_gatherGusts_21 rfl (lv_at hl 0 rfl) ?_
          refine wgetR (t := (rC o 2)) C hw flX0_9 ho rfl dX0_gatherGusts_22 ?_
          refine lv_iload_n hx hb dX0_gatherGusts_25 rfl (lv_at hl 1 rfl) ?_
          obtain ⟨g4, h⟩ := grd h
          refine wald C hw (refC (k := 2) ho rfl : _ = some (1, 30)) g4 dX0_gatherGusts_26 ?_
          refine lv_iconst (v := (-1)) hx hb dX0_gatherGusts_27 (by decide) ?_
          refine lv_icmp_ne (tgt := 48) hx hb dX0_gatherGusts_28 (by decide) (fun c5 => ?_) (fun c5 => ?_)
          · replace h := (if_neg c5).symm.trans h
            refine lv_iinc (v := (v1_7 + 1)) (lv' := [(1, .int (v1_7 + 1)), (0, .ref (P.2.2.1 o))]) (k := 1) hx hb dX0_gatherGusts_48 hl rfl (congrArg (fun z => v1_7 + z) (by decide)) (by decide) rfl (fun ls hl => ?_)
            refine lv_goto (tgt := 7) hx hb dX0_gatherGusts_51 (by decide) ?_
            exact ih_7 (v1_7 + 1) M_7 ls _ _ (lv_sub hl [1, 0] rfl) hw h
          · replace h := (if_pos c5).symm.trans h
            refine lv_aload_n hx hb dX0_gatherGusts_31 rfl (lv_at hl 0 rfl) ?_
            refine lv_dup hx hb dX0_gatherGusts_32 rfl ?_
            refine wgetI C hw flX0_28 ho dX0_gatherGusts_33 ?_
            refine lv_iconst (v := 1) hx hb dX0_gatherGusts_36 (by decide) ?_
            refine lv_aload_n hx hb dX0_gatherGusts_37 rfl (lv_at hl 0 rfl) ?_
            refine wgetR (t := (rC o 4)) C hw flX0_18 ho rfl dX0_gatherGusts_38 ?_
            refine lv_iload_n hx hb dX0_gatherGusts_41 rfl (lv_at hl 1 rfl) ?_
            obtain ⟨g6, h⟩ := grd h
            refine wald C hw (refC (k := 4) ho rfl : _ = some (1, 30)) g6 dX0_gatherGusts_42 ?_
            refine lv_ishl hx hb dX0_gatherGusts_43 ?_
            refine lv_ior hx hb dX0_gatherGusts_44 ?_
            refine wputI C hw fpX0_28 ho dX0_gatherGusts_45 (fun M7 eM7 H locs hw => ?_)
            replace h := letv_at eM7 h
            refine lv_iinc (v := (v1_7 + 1)) (lv' := [(1, .int (v1_7 + 1)), (0, .ref (P.2.2.1 o))]) (k := 1) hx hb dX0_gatherGusts_48 hl rfl (congrArg (fun z => v1_7 + z) (by decide)) (by decide) rfl (fun ls hl => ?_)
            refine lv_goto (tgt := 7) hx hb dX0_gatherGusts_51 (by decide) ?_
            exact ih_7 (v1_7 + 1) M7 ls _ _ (lv_sub hl [1, 0] rfl) hw h
  refine lv_aload_n hx hb dX0_gatherGusts_0 rfl (lv_at hl 0 rfl) ?_
  refine lv_iconst (v := 0) hx hb dX0_gatherGusts_1 (by decide) ?_
  refine wputI C hw fpX0_28 ho dX0_gatherGusts_2 (fun M1 eM1 H locs hw => ?_)
  replace h := letv_at eM1 h
  refine lv_iconst (v := 0) hx hb dX0_gatherGusts_5 (by decide) ?_
  refine lv_istore_n (lv' := [(1, .int 0), (0, .ref (P.2.2.1 o))]) hx hb dX0_gatherGusts_6 rfl hl (by decide) rfl (fun ls hl => ?_)
  exact cut_7 FU 0 M1 ls _ _ (lv_sub hl [1, 0] rfl) hw h
set_option maxRecDepth 100000 in
set_option maxHeartbeats 4000000 in
theorem c_X0_takeBack {l : Launch} {P : Wp} {E : State → Heap → Prop} (hW : Wok shC P E) {o : Nat} {M : Mem} {r : Int32} {M' : Mem} (ho : shC.1[o]? = some (0, 0)) (h : f_X0_takeBack o M = some (r, M')) : CT l shC P E yX0_takeBack bX0_takeBack 1 ((some .boolean)) 1 24 [.ref (P.2.2.1 o)] (some (.int r)) M M' := by
  refine ct_of hW (by decide) (Nat.le_of_ble_eq_true rfl) (fun p e s m args below meth c C ls hl hw => ?_)
  have hx := C.1
  have hb := C.2.1
  replace hl : lv_has ls 1 [(0, .ref (P.2.2.1 o))] := hl
  refine lv_aload_n hx hb dX0_takeBack_0 rfl (lv_at hl 0 rfl) ?_
  refine wgetI C hw flX0_24 ho dX0_takeBack_1 ?_
  refine lv_iconst (v := 1) hx hb dX0_takeBack_4 (by decide) ?_
  refine lv_icmp_lt (tgt := 17) hx hb dX0_takeBack_5 (by decide) (fun c1 => ?_) (fun c1 => ?_)
  · replace h := (if_pos c1).symm.trans h
    refine lv_iconst (v := 0) hx hb dX0_takeBack_17 (by decide) ?_
    exact wretZ_W C hw (Or.inl rfl) h dX0_takeBack_18
  · replace h := (if_neg c1).symm.trans h
    refine lv_aload_n hx hb dX0_takeBack_8 rfl (lv_at hl 0 rfl) ?_
    refine wgetI C hw flX0_24 ho dX0_takeBack_9 ?_
    refine lv_bipush (v := 30) hx hb dX0_takeBack_12 (by decide) ?_
    refine lv_icmp_le (tgt := 19) hx hb dX0_takeBack_14 (by decide) (fun c2 => ?_) (fun c2 => ?_)
    · replace h := (if_pos c2).symm.trans h
      refine lv_aload_n hx hb dX0_takeBack_19 rfl (lv_at hl 0 rfl) ?_
      refine lv_dup hx hb dX0_takeBack_20 rfl ?_
      refine wgetI C hw flX0_24 ho dX0_takeBack_21 ?_
      refine lv_iconst (v := 1) hx hb dX0_takeBack_24 (by decide) ?_
      refine lv_isub hx hb dX0_takeBack_25 ?_
      refine wputI C hw fpX0_24 ho dX0_takeBack_26 (fun M3 eM3 H locs hw => ?_)
      replace h := letv_at eM3 h
      refine lv_aload_n hx hb dX0_takeBack_29 rfl (lv_at hl 0 rfl) ?_
      refine wgetR (t := (rC o 2)) C hw flX0_9 ho rfl dX0_takeBack_30 ?_
      refine lv_aload_n hx hb dX0_takeBack_33 rfl (lv_at hl 0 rfl) ?_
      refine wgetI C hw flX0_24 ho dX0_takeBack_34 ?_
      obtain ⟨g4, h⟩ := grd h
      refine wald C hw (refC (k := 2) ho rfl : _ = some (1, 30)) g4 dX0_takeBack_37 ?_
      refine lv_iconst (v := (-1)) hx hb dX0_takeBack_38 (by decide) ?_
      refine lv_icmp_ne (tgt := 49) hx hb dX0_takeBack_39 (by decide) (fun c5 => ?_) (fun c5 => ?_)
      · replace h := (if_neg c5).symm.trans h
        refine lv_aload_n hx hb dX0_takeBack_49 rfl (lv_at hl 0 rfl) ?_
        refine lv_aload_n hx hb dX0_takeBack_50 rfl (lv_at hl 0 rfl) ?_
        refine wgetR (t := (rC o 2)) C hw flX0_9 ho rfl dX0_takeBack_51 ?_
        refine lv_aload_n hx hb dX0_takeBack_54 rfl (lv_at hl 0 rfl) ?_
        refine wgetI C hw flX0_24 ho dX0_takeBack_55 ?_
        obtain ⟨g6, h⟩ := grd h
        refine wald C hw (refC (k := 2) ho rfl : _ = some (1, 30)) g6 dX0_takeBack_58 ?_
        refine lv_aload_n hx hb dX0_takeBack_59 rfl (lv_at hl 0 rfl) ?_
        refine wgetR (t := (rC o 3)) C hw flX0_15 ho rfl dX0_takeBack_60 ?_
        refine lv_aload_n hx hb dX0_takeBack_63 rfl (lv_at hl 0 rfl) ?_
        refine wgetI C hw flX0_24 ho dX0_takeBack_64 ?_
        obtain ⟨g7, h⟩ := grd h
        refine wald C hw (refC (k := 3) ho rfl : _ = some (1, 30)) g7 dX0_takeBack_67 ?_
        refine lv_ineg hx hb dX0_takeBack_68 ?_
        refine lv_aload_n hx hb dX0_takeBack_69 rfl (lv_at hl 0 rfl) ?_
        refine wgetR (t := (rC o 4)) C hw flX0_18 ho rfl dX0_takeBack_70 ?_
        refine lv_aload_n hx hb dX0_takeBack_73 rfl (lv_at hl 0 rfl) ?_
        refine wgetI C hw flX0_24 ho dX0_takeBack_74 ?_
        obtain ⟨g8, h⟩ := grd h
        refine wald C hw (refC (k := 4) ho rfl : _ = some (1, 30)) g8 dX0_takeBack_77 ?_
        obtain ⟨M11, e10, h⟩ := bnd_some h
        refine wcallV0 (As := [.int (M3.1 (rC o 2) (ix (M3.1 o 0))), .int (-(M3.1 (rC o 3) (ix (M3.1 o 0)))), .int (M3.1 (rC o 4) (ix (M3.1 o 0)))]) (rest := []) C hw (c_X0_heatUp hW ho e10) vlX0_47 ⟨Nat.le_of_ble_eq_true rfl, Nat.le_of_ble_eq_true rfl⟩ ho rfl rfl rfl hl.1 (Nat.le_of_ble_eq_true rfl) dX0_takeBack_78 ⟨Nat.zero_le _, Nat.zero_le _⟩ (fun H locs hw => ?_)
        refine lv_iconst (v := 1) hx hb dX0_takeBack_81 (by decide) ?_
        exact wretZ_W C hw (Or.inr rfl) h dX0_takeBack_82
      · replace h := (if_pos c5).symm.trans h
        refine lv_aload_n hx hb dX0_takeBack_42 rfl (lv_at hl 0 rfl) ?_
        obtain ⟨M14, e13, h⟩ := bnd_some h
        refine wcallV0 (As := []) (rest := []) C hw (c_X0_gatherGusts hW ho e13) vlX0_51 ⟨Nat.le_of_ble_eq_true rfl, Nat.le_of_ble_eq_true rfl⟩ ho rfl rfl rfl hl.1 (Nat.le_of_ble_eq_true rfl) dX0_takeBack_43 ⟨Nat.zero_le _, Nat.zero_le _⟩ (fun H locs hw => ?_)
        refine lv_goto (tgt := 81) hx hb dX0_takeBack_46 (by decide) ?_
        refine lv_iconst (v := 1) hx hb dX0_takeBack_81 (by decide) ?_
        exact wretZ_W C hw (Or.inr rfl) h dX0_takeBack_82
    · replace h := (if_neg c2).symm.trans h
      refine lv_iconst (v := 0) hx hb dX0_takeBack_17 (by decide) ?_
      exact wretZ_W C hw (Or.inl rfl) h dX0_takeBack_18
set_option maxRecDepth 100000 in
set_option maxHeartbeats 4000000 in
theorem c_X0_leaveOut {l : Launch} {P : Wp} {E : State → Heap → Prop} (hW : Wok shC P E) {o : Nat} {p1 : Int32} {M : Mem} {M' : Mem} (ho : shC.1[o]? = some (0, 0)) (h : f_X0_leaveOut o p1 M = some M') : CT l shC P E yX0_leaveOut bX0_leaveOut 3 (none) 1 64 [.ref (P.2.2.1 o), .int p1] none M M' := by
  refine ct_of hW (by decide) (Nat.le_of_ble_eq_true rfl) (fun p e s m args below meth c C ls hl hw => ?_)
  have hx := C.1
  have hb := C.2.1
  replace hl : lv_has ls 3 [(0, .ref (P.2.2.1 o)), (1, .int p1)] := hl
  refine lv_iload_n hx hb dX0_leaveOut_0 rfl (lv_at hl 1 rfl) ?_
  refine lv_if_lt (tgt := 37) hx hb dX0_leaveOut_1 (by decide) (fun c1 => ?_) (fun c1 => ?_)
  · replace h := (if_pos c1).symm.trans h
    exact wretV_W C hw h dX0_leaveOut_37
  · replace h := (if_neg c1).symm.trans h
    refine lv_iload_n hx hb dX0_leaveOut_4 rfl (lv_at hl 1 rfl) ?_
    refine lv_bipush (v := 7) hx hb dX0_leaveOut_5 (by decide) ?_
    refine lv_icmp_ge (tgt := 37) hx hb dX0_leaveOut_7 (by decide) (fun c2 => ?_) (fun c2 => ?_)
    · replace h := (if_pos c2).symm.trans h
      exact wretV_W C hw h dX0_leaveOut_37
    · replace h := (if_neg c2).symm.trans h
      refine lv_iload_n hx hb dX0_leaveOut_10 rfl (lv_at hl 1 rfl) ?_
      refine lv_iconst (v := 1) hx hb dX0_leaveOut_11 (by decide) ?_
      refine lv_iadd hx hb dX0_leaveOut_12 ?_
      refine lv_bipush (v := 15) hx hb dX0_leaveOut_13 (by decide) ?_
      refine lv_imul hx hb dX0_leaveOut_15 ?_
      refine lv_topi (fun x3 ex3 => ?_)
      replace h := letv_at ex3 h
      refine lv_istore_n (lv' := [(2, .int x3), (0, .ref (P.2.2.1 o)), (1, .int p1)]) hx hb dX0_leaveOut_16 rfl hl (by decide) rfl (fun ls hl => ?_)
      refine lv_aload_n hx hb dX0_leaveOut_17 rfl (lv_at hl 1 rfl) ?_
      refine wgetR (t := (rC o 5)) C hw flX0_21 ho rfl dX0_leaveOut_18 ?_
      refine lv_iload_n hx hb dX0_leaveOut_21 rfl (lv_at hl 0 rfl) ?_
      refine lv_aload_n hx hb dX0_leaveOut_22 rfl (lv_at hl 1 rfl) ?_
      refine wgetR (t := (rC o 5)) C hw flX0_21 ho rfl dX0_leaveOut_23 ?_
      refine lv_iload_n hx hb dX0_leaveOut_26 rfl (lv_at hl 2 rfl) ?_
      refine lv_bipush (v := 15) hx hb dX0_leaveOut_27 (by decide) ?_
      refine lv_imul hx hb dX0_leaveOut_29 ?_
      refine lv_bipush (v := 105) hx hb dX0_leaveOut_30 (by decide) ?_
      refine lv_iload_n hx hb dX0_leaveOut_32 rfl (lv_at hl 0 rfl) ?_
      refine lv_isub hx hb dX0_leaveOut_33 ?_
      obtain ⟨g5, h⟩ := grd h
      obtain ⟨g6, h⟩ := grd h
      refine wcopyI C hw (refC (k := 5) ho rfl : _ = some (1, 105)) (refC (k := 5) ho rfl : _ = some (1, 105)) alX0_37 g5 g6 hl.1 (Nat.le_of_ble_eq_true rfl) (Nat.le_of_ble_eq_true rfl) dX0_leaveOut_34 (fun M4 eM4 H locs hw => ?_)
      replace h := letv_at eM4 h
      exact wretV_W C hw h dX0_leaveOut_37
set_option maxRecDepth 100000 in
set_option maxHeartbeats 4000000 in
theorem c_X1_copyFrom {l : Launch} {P : Wp} {E : State → Heap → Prop} (hW : Wok shC P E) {o : Nat} {p1 : Nat} {M : Mem} {M' : Mem} (ho : shC.1[o]? = some (0, 1)) (hp1 : shC.1[p1]? = some (0, 1)) (h : f_X1_copyFrom o p1 M = some M') : CT l shC P E yX1_copyFrom bX1_copyFrom 2 (none) 2 85 [.ref (P.2.2.1 o), .ref (P.2.2.1 p1)] none M M' := by
  refine ct_of hW (by decide) (Nat.le_of_ble_eq_true rfl) (fun p e s m args below meth c C ls hl hw => ?_)
  have hx := C.1
  have hb := C.2.1
  replace hl : lv_has ls 2 [(0, .ref (P.2.2.1 o)), (1, .ref (P.2.2.1 p1))] := hl
  refine lv_aload_n hx hb dX1_copyFrom_0 rfl (lv_at hl 0 rfl) ?_
  refine wgetR (t := (rC o 0)) C hw flX1_12 ho rfl dX1_copyFrom_1 ?_
  refine lv_aload_n hx hb dX1_copyFrom_4 rfl (lv_at hl 1 rfl) ?_
  refine wgetR (t := (rC p1 0)) C hw flX1_12 hp1 rfl dX1_copyFrom_5 ?_
  obtain ⟨M3, e2, h⟩ := bnd_some h
  refine wcallV0 (As := [.ref (P.2.2.1 (rC p1 0))]) (rest := []) C hw (c_X5_copyFrom hW (refC (k := 0) ho rfl : _ = some (0, 5)) (refC (k := 0) hp1 rfl : _ = some (0, 5)) e2) vlX1_25 ⟨Nat.le_of_ble_eq_true rfl, Nat.le_of_ble_eq_true rfl⟩ (refC (k := 0) ho rfl : _ = some (0, 5)) rfl rfl rfl hl.1 (Nat.le_of_ble_eq_true rfl) dX1_copyFrom_8 ⟨Nat.zero_le _, Nat.zero_le _⟩ (fun H locs hw => ?_)
  refine lv_aload_n hx hb dX1_copyFrom_11 rfl (lv_at hl 0 rfl) ?_
  refine wgetR (t := (rC o 1)) C hw flX1_21 ho rfl dX1_copyFrom_12 ?_
  refine lv_aload_n hx hb dX1_copyFrom_15 rfl (lv_at hl 1 rfl) ?_
  refine wgetR (t := (rC p1 1)) C hw flX1_21 hp1 rfl dX1_copyFrom_16 ?_
  obtain ⟨M6, e5, h⟩ := bnd_some h
  refine wcallV0 (As := [.ref (P.2.2.1 (rC p1 1))]) (rest := []) C hw (c_X0_copyFrom hW (refC (k := 1) ho rfl : _ = some (0, 0)) (refC (k := 1) hp1 rfl : _ = some (0, 0)) e5) vlX1_29 ⟨Nat.le_of_ble_eq_true rfl, Nat.le_of_ble_eq_true rfl⟩ (refC (k := 1) ho rfl : _ = some (0, 0)) rfl rfl rfl hl.1 (Nat.le_of_ble_eq_true rfl) dX1_copyFrom_19 ⟨Nat.zero_le _, Nat.zero_le _⟩ (fun H locs hw => ?_)
  exact wretV_W C hw h dX1_copyFrom_22
set_option maxRecDepth 100000 in
set_option maxHeartbeats 4000000 in
theorem c_X1_airAt {l : Launch} {P : Wp} {E : State → Heap → Prop} (hW : Wok shC P E) {o : Nat} {p1 : Int32} {p2 : Int32} {p3 : Int32} {M : Mem} {r : Int32} (ho : shC.1[o]? = some (0, 1)) (h : f_X1_airAt o p1 p2 p3 M = some r) : CT l shC P E yX1_airAt bX1_airAt 6 ((some .int)) 1 40 [.ref (P.2.2.1 o), .int p1, .int p2, .int p3] (some (.int r)) M M := by
  refine ct_of hW (by decide) (Nat.le_of_ble_eq_true rfl) (fun p e s m args below meth c C ls hl hw => ?_)
  have hx := C.1
  have hb := C.2.1
  replace hl : lv_has ls 6 [(0, .ref (P.2.2.1 o)), (1, .int p1), (2, .int p2), (3, .int p3)] := hl
  have cut_61 : ∀ (v4_61 : Int32) (w0_61 : Int32) (ls : Array Slot) (H : Heap) (locs : List Loc), lv_has ls 6 [(4, .int v4_61)] → Hw shC P M s H locs → J_X1_airAt_61 o p1 p2 p3 M v4_61 w0_61 = some r → W p l e { frames := 1, cells := 0, slots := 0, locals := 40 } s m args below meth c H locs 0 0 (MQ below (CQ shC P E (some (.int r)) M) args s 0 0 (wA shC P)) (F0 m 61 ls [.int w0_61]) := by
    intro v4_61 w0_61 ls H locs hl hw h
    refine lv_istore (lv' := [(5, .int w0_61), (4, .int v4_61)]) hx hb dX1_airAt_61 hl (by decide) rfl (fun ls hl => ?_)
    refine lv_iload hx hb dX1_airAt_63 (lv_at hl 0 rfl) ?_
    refine lv_if_eq (tgt := 80) hx hb dX1_airAt_65 (by decide) (fun c9 => ?_) (fun c9 => ?_)
    · replace h := (if_pos c9).symm.trans h
      refine lv_iload hx hb dX1_airAt_80 (lv_at hl 1 rfl) ?_
      exact wretI_R C hw h dX1_airAt_82
    · replace h := (if_neg c9).symm.trans h
      refine lv_iload hx hb dX1_airAt_68 (lv_at hl 1 rfl) ?_
      refine lv_bipush (v := 80) hx hb dX1_airAt_70 (by decide) ?_
      refine lv_isub hx hb dX1_airAt_72 ?_
      refine lv_iconst (v := 0) hx hb dX1_airAt_73 (by decide) ?_
      refine wmax C mlX1_39 hl.1 (Nat.le_of_ble_eq_true rfl) (Nat.le_of_ble_eq_true rfl) (Nat.zero_le _) (Nat.zero_le _) dX1_airAt_74 ?_
      refine lv_goto (tgt := 82) hx hb dX1_airAt_77 (by decide) ?_
      exact wretI_R C hw h dX1_airAt_82
  refine lv_iload_n hx hb dX1_airAt_0 rfl (lv_at hl 1 rfl) ?_
  refine lv_if_lt (tgt := 20) hx hb dX1_airAt_1 (by decide) (fun c1 => ?_) (fun c1 => ?_)
  · replace h := (if_pos c1).symm.trans h
    refine lv_iconst (v := 0) hx hb dX1_airAt_20 (by decide) ?_
    exact wretI_R C hw h dX1_airAt_21
  · replace h := (if_neg c1).symm.trans h
    refine lv_iload_n hx hb dX1_airAt_4 rfl (lv_at hl 1 rfl) ?_
    refine lv_bipush (v := 7) hx hb dX1_airAt_5 (by decide) ?_
    refine lv_icmp_ge (tgt := 20) hx hb dX1_airAt_7 (by decide) (fun c2 => ?_) (fun c2 => ?_)
    · replace h := (if_pos c2).symm.trans h
      refine lv_iconst (v := 0) hx hb dX1_airAt_20 (by decide) ?_
      exact wretI_R C hw h dX1_airAt_21
    · replace h := (if_neg c2).symm.trans h
      refine lv_iload_n hx hb dX1_airAt_10 rfl (lv_at hl 2 rfl) ?_
      refine lv_if_lt (tgt := 20) hx hb dX1_airAt_11 (by decide) (fun c3 => ?_) (fun c3 => ?_)
      · replace h := (if_pos c3).symm.trans h
        refine lv_iconst (v := 0) hx hb dX1_airAt_20 (by decide) ?_
        exact wretI_R C hw h dX1_airAt_21
      · replace h := (if_neg c3).symm.trans h
        refine lv_iload_n hx hb dX1_airAt_14 rfl (lv_at hl 2 rfl) ?_
        refine lv_bipush (v := 15) hx hb dX1_airAt_15 (by decide) ?_
        refine lv_icmp_lt (tgt := 22) hx hb dX1_airAt_17 (by decide) (fun c4 => ?_) (fun c4 => ?_)
        · replace h := (if_pos c4).symm.trans h
          refine lv_aload_n hx hb dX1_airAt_22 rfl (lv_at hl 0 rfl) ?_
          refine wgetR (t := (rC o 0)) C hw flX1_12 ho rfl dX1_airAt_23 ?_
          refine wgetR (t := (rC (rC o 0) 8)) C hw flX1_32 (refC (k := 0) ho rfl : _ = some (0, 5)) rfl dX1_airAt_26 ?_
          refine lv_iload_n hx hb dX1_airAt_29 rfl (lv_at hl 1 rfl) ?_
          obtain ⟨g5, h⟩ := grd h
          refine wald C hw (refC (k := 8) (refC (k := 0) ho rfl : _ = some (0, 5)) rfl : _ = some (1, 7)) g5 dX1_airAt_30 ?_
          refine lv_aload_n hx hb dX1_airAt_31 rfl (lv_at hl 0 rfl) ?_
          refine wgetR (t := (rC o 1)) C hw flX1_21 ho rfl dX1_airAt_32 ?_
          refine wgetR (t := (rC (rC o 1) 5)) C hw flX1_36 (refC (k := 1) ho rfl : _ = some (0, 0)) rfl dX1_airAt_35 ?_
          refine lv_iload_n hx hb dX1_airAt_38 rfl (lv_at hl 1 rfl) ?_
          refine lv_bipush (v := 15) hx hb dX1_airAt_39 (by decide) ?_
          refine lv_imul hx hb dX1_airAt_41 ?_
          refine lv_iload_n hx hb dX1_airAt_42 rfl (lv_at hl 2 rfl) ?_
          refine lv_iadd hx hb dX1_airAt_43 ?_
          obtain ⟨g6, h⟩ := grd h
          refine wald C hw (refC (k := 5) (refC (k := 1) ho rfl : _ = some (0, 0)) rfl : _ = some (1, 105)) g6 dX1_airAt_44 ?_
          refine lv_iadd hx hb dX1_airAt_45 ?_
          refine lv_topi (fun x7 ex7 => ?_)
          replace h := letv_at ex7 h
          refine lv_istore (lv' := [(4, .int x7), (0, .ref (P.2.2.1 o)), (1, .int p1), (2, .int p2), (3, .int p3)]) hx hb dX1_airAt_46 hl (by decide) rfl (fun ls hl => ?_)
          refine lv_iload_n hx hb dX1_airAt_48 rfl (lv_at hl 4 rfl) ?_
          refine lv_iload_n hx hb dX1_airAt_49 rfl (lv_at hl 3 rfl) ?_
          refine lv_ishr hx hb dX1_airAt_50 ?_
          refine lv_iconst (v := 1) hx hb dX1_airAt_51 (by decide) ?_
          refine lv_iand hx hb dX1_airAt_52 ?_
          refine lv_if_eq (tgt := 60) hx hb dX1_airAt_53 (by decide) (fun c8 => ?_) (fun c8 => ?_)
          · replace h := (if_pos c8).symm.trans h
            refine lv_iconst (v := 0) hx hb dX1_airAt_60 (by decide) ?_
            exact cut_61 x7 0 ls _ _ (lv_sub hl [0] rfl) hw h
          · replace h := (if_neg c8).symm.trans h
            refine lv_iconst (v := 1) hx hb dX1_airAt_56 (by decide) ?_
            refine lv_goto (tgt := 61) hx hb dX1_airAt_57 (by decide) ?_
            exact cut_61 x7 1 ls _ _ (lv_sub hl [0] rfl) hw h
        · replace h := (if_neg c4).symm.trans h
          refine lv_iconst (v := 0) hx hb dX1_airAt_20 (by decide) ?_
          exact wretI_R C hw h dX1_airAt_21
set_option maxRecDepth 100000 in
set_option maxHeartbeats 4000000 in
theorem c_X1_leaveOut {l : Launch} {P : Wp} {E : State → Heap → Prop} (hW : Wok shC P E) {o : Nat} {p1 : Int32} {M : Mem} {M' : Mem} (ho : shC.1[o]? = some (0, 1)) (h : f_X1_leaveOut o p1 M = some M') : CT l shC P E yX1_leaveOut bX1_leaveOut 2 (none) 2 86 [.ref (P.2.2.1 o), .int p1] none M M' := by
  refine ct_of hW (by decide) (Nat.le_of_ble_eq_true rfl) (fun p e s m args below meth c C ls hl hw => ?_)
  have hx := C.1
  have hb := C.2.1
  replace hl : lv_has ls 2 [(0, .ref (P.2.2.1 o)), (1, .int p1)] := hl
  refine lv_aload_n hx hb dX1_leaveOut_0 rfl (lv_at hl 0 rfl) ?_
  refine wgetR (t := (rC o 1)) C hw flX1_21 ho rfl dX1_leaveOut_1 ?_
  refine lv_iload_n hx hb dX1_leaveOut_4 rfl (lv_at hl 1 rfl) ?_
  obtain ⟨M3, e2, h⟩ := bnd_some h
  refine wcallV0 (As := [.int p1]) (rest := []) C hw (c_X0_leaveOut hW (refC (k := 1) ho rfl : _ = some (0, 0)) e2) vlX1_45 ⟨Nat.le_of_ble_eq_true rfl, Nat.le_of_ble_eq_true rfl⟩ (refC (k := 1) ho rfl : _ = some (0, 0)) rfl rfl rfl hl.1 (Nat.le_of_ble_eq_true rfl) dX1_leaveOut_5 ⟨Nat.zero_le _, Nat.zero_le _⟩ (fun H locs hw => ?_)
  refine lv_aload_n hx hb dX1_leaveOut_8 rfl (lv_at hl 0 rfl) ?_
  refine wgetR (t := (rC o 0)) C hw flX1_12 ho rfl dX1_leaveOut_9 ?_
  refine lv_iload_n hx hb dX1_leaveOut_12 rfl (lv_at hl 1 rfl) ?_
  obtain ⟨M6, e5, h⟩ := bnd_some h
  refine wcallV0 (As := [.int p1]) (rest := []) C hw (c_X5_leaveOut hW (refC (k := 0) ho rfl : _ = some (0, 5)) e5) vlX1_49 ⟨Nat.le_of_ble_eq_true rfl, Nat.le_of_ble_eq_true rfl⟩ (refC (k := 0) ho rfl : _ = some (0, 5)) rfl rfl rfl hl.1 (Nat.le_of_ble_eq_true rfl) dX1_leaveOut_13 ⟨Nat.zero_le _, Nat.zero_le _⟩ (fun H locs hw => ?_)
  exact wretV_W C hw h dX1_leaveOut_16
set_option maxRecDepth 100000 in
set_option maxHeartbeats 4000000 in
theorem c_X3_commonDivisor {l : Launch} {P : Wp} {E : State → Heap → Prop} (hW : Wok shC P E) {p0 : Int64} {p2 : Int64} {M : Mem} {r : Int64} (h : f_X3_commonDivisor p0 p2 M = some r) : CT l shC P E yX3_commonDivisor bX3_commonDivisor 11 ((some .long)) 0 0 [.long p0, .long p2] (some (.long r)) M M := by
  refine ct_of hW (by decide) (Nat.le_of_ble_eq_true rfl) (fun p e s m args below meth c C ls hl hw => ?_)
  have hx := C.1
  have hb := C.2.1
  replace hl : lv_has ls 11 [(0, .long p0), (2, .long p2)] := hl
  have cut_9 : ∀ (n_9 : Nat) (v4_9 : Int64) (v6_9 : Int64) (v8_9 : Int32) (ls : Array Slot) (H : Heap) (locs : List Loc), lv_has ls 11 [(4, .long v4_9), (6, .long v6_9), (8, .int v8_9)] → Hw shC P M s H locs → lq3 (L_X3_commonDivisor_9 p0 p2 M) n_9 v4_9 v6_9 v8_9 = some r → W p l e { frames := 0, cells := 0, slots := 0, locals := 0 } s m args below meth c H locs 0 0 (MQ below (CQ shC P E (some (.long r)) M) args s 0 0 (wA shC P)) (F0 m 9 ls []) := by
    intro n_9
    induction n_9 with
    | zero => intro v4_9 v6_9 v8_9 ls H locs hl hw h; cases h
    | succ n_9 ih_9 =>
      intro v4_9 v6_9 v8_9 ls H locs hl hw h
      replace h := lq3_succ h
      refine lv_iload hx hb dX3_commonDivisor_9 (lv_at hl 2 rfl) ?_
      refine lv_sipush (v := 1000) hx hb dX3_commonDivisor_11 (by decide) ?_
      refine lv_icmp_ge (tgt := 45) hx hb dX3_commonDivisor_14 (by decide) (fun c1 => ?_) (fun c1 => ?_)
      · replace h := (if_pos c1).symm.trans h
        refine lv_lload hx hb dX3_commonDivisor_45 (lv_at hl 0 rfl) ?_
        exact wretJ_R C hw h dX3_commonDivisor_47
      · replace h := (if_neg c1).symm.trans h
        refine lv_lload hx hb dX3_commonDivisor_17 (lv_at hl 1 rfl) ?_
        refine lv_lconst (v := 0) hx hb dX3_commonDivisor_19 (by decide) ?_
        refine W.lcmp hx hb dX3_commonDivisor_20 ?_
        refine lv_if_eq (tgt := 45) hx hb dX3_commonDivisor_21 (by decide) (fun c2 => ?_) (fun c2 => ?_)
        · replace h := (if_pos c2).symm.trans h
          refine lv_lload hx hb dX3_commonDivisor_45 (lv_at hl 0 rfl) ?_
          exact wretJ_R C hw h dX3_commonDivisor_47
        · replace h := (if_neg c2).symm.trans h
          refine lv_lload hx hb dX3_commonDivisor_24 (lv_at hl 0 rfl) ?_
          refine lv_lload hx hb dX3_commonDivisor_26 (lv_at hl 1 rfl) ?_
          obtain ⟨g3, h⟩ := grdL h
          refine lv_lrem hx hb dX3_commonDivisor_28 g3 ?_
          refine lv_topl (fun x4 ex4 => ?_)
          replace h := letv_at ex4 h
          refine lv_lstore (lv' := [(9, .long x4), (4, .long v4_9), (6, .long v6_9), (8, .int v8_9)]) hx hb dX3_commonDivisor_29 hl (by decide) rfl (fun ls hl => ?_)
          refine lv_lload hx hb dX3_commonDivisor_31 (lv_at hl 2 rfl) ?_
          refine lv_lstore (lv' := [(4, .long v6_9), (9, .long x4), (6, .long v6_9), (8, .int v8_9)]) hx hb dX3_commonDivisor_33 hl (by decide) rfl (fun ls hl => ?_)
          refine lv_lload hx hb dX3_commonDivisor_35 (lv_at hl 1 rfl) ?_
          refine lv_lstore (lv' := [(6, .long x4), (4, .long v6_9), (9, .long x4), (8, .int v8_9)]) hx hb dX3_commonDivisor_37 hl (by decide) rfl (fun ls hl => ?_)
          refine lv_iinc (v := (v8_9 + 1)) (lv' := [(8, .int (v8_9 + 1)), (6, .long x4), (4, .long v6_9), (9, .long x4)]) (k := 3) hx hb dX3_commonDivisor_39 hl rfl (congrArg (fun z => v8_9 + z) (by decide)) (by decide) rfl (fun ls hl => ?_)
          refine lv_goto (tgt := 9) hx hb dX3_commonDivisor_42 (by decide) ?_
          exact ih_9 v6_9 x4 (v8_9 + 1) ls _ _ (lv_sub hl [2, 1, 0] rfl) hw h
  refine lv_lload_n hx hb dX3_commonDivisor_0 rfl (lv_at hl 0 rfl) ?_
  refine lv_lstore (lv' := [(4, .long p0), (0, .long p0), (2, .long p2)]) hx hb dX3_commonDivisor_1 hl (by decide) rfl (fun ls hl => ?_)
  refine lv_lload_n hx hb dX3_commonDivisor_3 rfl (lv_at hl 2 rfl) ?_
  refine lv_lstore (lv' := [(6, .long p2), (4, .long p0), (0, .long p0), (2, .long p2)]) hx hb dX3_commonDivisor_4 hl (by decide) rfl (fun ls hl => ?_)
  refine lv_iconst (v := 0) hx hb dX3_commonDivisor_6 (by decide) ?_
  refine lv_istore (lv' := [(8, .int 0), (6, .long p2), (4, .long p0), (0, .long p0), (2, .long p2)]) hx hb dX3_commonDivisor_7 hl (by decide) rfl (fun ls hl => ?_)
  exact cut_9 FU p0 p2 0 ls _ _ (lv_sub hl [2, 1, 0] rfl) hw h
set_option maxRecDepth 100000 in
set_option maxHeartbeats 4000000 in
theorem c_X3_put {l : Launch} {P : Wp} {E : State → Heap → Prop} (hW : Wok shC P E) {o : Nat} {p1 : Int64} {p3 : Int64} {M : Mem} {M' : Mem} (ho : shC.1[o]? = some (0, 3)) (h : f_X3_put o p1 p3 M = some M') : CT l shC P E yX3_put bX3_put 7 (none) 1 40 [.ref (P.2.2.1 o), .long p1, .long p3] none M M' := by
  refine ct_of hW (by decide) (Nat.le_of_ble_eq_true rfl) (fun p e s m args below meth c C ls hl hw => ?_)
  have hx := C.1
  have hb := C.2.1
  replace hl : lv_has ls 7 [(0, .ref (P.2.2.1 o)), (1, .long p1), (3, .long p3)] := hl
  have cut_26 : ∀ (v5_26 : Int64) (w1_26 : Int64) (M_26 : Mem) (ls : Array Slot) (H : Heap) (locs : List Loc), lv_has ls 7 [(0, .ref (P.2.2.1 o)), (3, .long p3), (5, .long v5_26)] → Hw shC P M_26 s H locs → J_X3_put_26 o p1 p3 v5_26 w1_26 M_26 = some M' → W p l e { frames := 1, cells := 0, slots := 0, locals := 40 } s m args below meth c H locs 0 0 (MQ below (CQ shC P E none M') args s 0 0 (wA shC P)) (F0 m 26 ls [.long w1_26, .ref (P.2.2.1 o)]) := by
    intro v5_26 w1_26 M_26 ls H locs hl hw h
    refine wputJ C hw fpX3_7 ho dX3_put_26 (fun M4 eM4 H locs hw => ?_)
    replace h := letv_at eM4 h
    refine lv_aload_n hx hb dX3_put_29 rfl (lv_at hl 0 rfl) ?_
    refine lv_lload hx hb dX3_put_30 (lv_at hl 2 rfl) ?_
    refine lv_lconst (v := 0) hx hb dX3_put_32 (by decide) ?_
    refine W.lcmp hx hb dX3_put_33 ?_
    refine lv_if_le (tgt := 44) hx hb dX3_put_34 (by decide) (fun c5 => ?_) (fun c5 => ?_)
    · replace h := (if_pos c5).symm.trans h
      refine lv_lload_n hx hb dX3_put_44 rfl (lv_at hl 1 rfl) ?_
      refine wputJ C hw fpX3_13 ho dX3_put_45 (fun M6 eM6 H locs hw => ?_)
      replace h := letv_at eM6 h
      exact wretV_W C hw h dX3_put_48
    · replace h := (if_neg c5).symm.trans h
      refine lv_lload_n hx hb dX3_put_37 rfl (lv_at hl 1 rfl) ?_
      refine lv_lload hx hb dX3_put_38 (lv_at hl 2 rfl) ?_
      obtain ⟨g7, h⟩ := grdL h
      refine lv_ldiv hx hb dX3_put_40 g7 ?_
      refine lv_goto (tgt := 45) hx hb dX3_put_41 (by decide) ?_
      refine wputJ C hw fpX3_13 ho dX3_put_45 (fun M8 eM8 H locs hw => ?_)
      replace h := letv_at eM8 h
      exact wretV_W C hw h dX3_put_48
  refine lv_lload_n hx hb dX3_put_0 rfl (lv_at hl 1 rfl) ?_
  refine wabsL C mlX3_16 hl.1 (Nat.le_of_ble_eq_true rfl) (Nat.le_of_ble_eq_true rfl) (Nat.zero_le _) (Nat.zero_le _) dX3_put_1 ?_
  refine lv_lload_n hx hb dX3_put_4 rfl (lv_at hl 2 rfl) ?_
  obtain ⟨r1, e2, h⟩ := bnd_some h
  refine wcallS1 (As := [.long (f_absL p1), .long p3]) (rest := []) C hw (c_X3_commonDivisor hW  e2) slX3_22 ⟨Nat.le_of_ble_eq_true rfl, Nat.le_of_ble_eq_true rfl⟩ rfl rfl hl.1 (Nat.le_of_ble_eq_true rfl) dX3_put_5 ⟨Nat.zero_le _, Nat.zero_le _⟩ (fun H locs hw => ?_)
  refine lv_lstore (lv' := [(5, .long r1), (0, .ref (P.2.2.1 o)), (1, .long p1), (3, .long p3)]) hx hb dX3_put_8 hl (by decide) rfl (fun ls hl => ?_)
  refine lv_aload_n hx hb dX3_put_10 rfl (lv_at hl 1 rfl) ?_
  refine lv_lload hx hb dX3_put_11 (lv_at hl 0 rfl) ?_
  refine lv_lconst (v := 0) hx hb dX3_put_13 (by decide) ?_
  refine W.lcmp hx hb dX3_put_14 ?_
  refine lv_if_le (tgt := 25) hx hb dX3_put_15 (by decide) (fun c3 => ?_) (fun c3 => ?_)
  · replace h := (if_pos c3).symm.trans h
    refine lv_lload_n hx hb dX3_put_25 rfl (lv_at hl 2 rfl) ?_
    exact cut_26 r1 p1 M ls _ _ (lv_sub hl [1, 3, 0] rfl) hw h
  · replace h := (if_neg c3).symm.trans h
    refine lv_lload_n hx hb dX3_put_18 rfl (lv_at hl 2 rfl) ?_
    refine lv_lload hx hb dX3_put_19 (lv_at hl 0 rfl) ?_
    obtain ⟨g9, h⟩ := grdL h
    refine lv_ldiv hx hb dX3_put_21 g9 ?_
    refine lv_goto (tgt := 26) hx hb dX3_put_22 (by decide) ?_
    exact cut_26 r1 (p1 / r1) M ls _ _ (lv_sub hl [1, 3, 0] rfl) hw h
set_option maxRecDepth 100000 in
set_option maxHeartbeats 4000000 in
theorem c_X3_part {l : Launch} {P : Wp} {E : State → Heap → Prop} (hW : Wok shC P E) {o : Nat} {p1 : Int32} {M : Mem} {r : Int64} (ho : shC.1[o]? = some (0, 3)) (h : f_X3_part o p1 M = r) : CT l shC P E yX3_part bX3_part 2 ((some .long)) 0 0 [.ref (P.2.2.1 o), .int p1] (some (.long r)) M M := by
  refine ct_of hW (by decide) (Nat.le_of_ble_eq_true rfl) (fun p e s m args below meth c C ls hl hw => ?_)
  have hx := C.1
  have hb := C.2.1
  replace hl : lv_has ls 2 [(0, .ref (P.2.2.1 o)), (1, .int p1)] := hl
  refine lv_iload_n hx hb dX3_part_0 rfl (lv_at hl 1 rfl) ?_
  refine lv_if_ne (tgt := 11) hx hb dX3_part_1 (by decide) (fun c1 => ?_) (fun c1 => ?_)
  · replace h := (if_neg c1).symm.trans h
    refine lv_aload_n hx hb dX3_part_11 rfl (lv_at hl 0 rfl) ?_
    refine wgetJ C hw flX3_13 ho dX3_part_12 ?_
    exact wretJ_T C hw h dX3_part_15
  · replace h := (if_pos c1).symm.trans h
    refine lv_aload_n hx hb dX3_part_4 rfl (lv_at hl 0 rfl) ?_
    refine wgetJ C hw flX3_7 ho dX3_part_5 ?_
    refine lv_goto (tgt := 15) hx hb dX3_part_8 (by decide) ?_
    exact wretJ_T C hw h dX3_part_15
theorem z_X8_hasRoom {p1 : Int32} {M : Mem} : f_X8_hasRoom p1 M = 0 ∨ f_X8_hasRoom p1 M = 1 := by
  unfold f_X8_hasRoom
  repeat' split
  all_goals first | exact Or.inl rfl | exact Or.inr rfl
set_option maxRecDepth 100000 in
set_option maxHeartbeats 4000000 in
theorem c_X8_hasRoom {l : Launch} {P : Wp} {E : State → Heap → Prop} (hW : Wok shC P E) {p1 : Int32} {M : Mem} {r : Int32} (h : f_X8_hasRoom p1 M = r) : CT l shC P E yX8_hasRoom bX8_hasRoom 2 ((some .boolean)) 0 0 [.ref (P.2.2.1 4), .int p1] (some (.int r)) M M := by
  refine ct_of hW (by decide) (Nat.le_of_ble_eq_true rfl) (fun p e s m args below meth c C ls hl hw => ?_)
  have hx := C.1
  have hb := C.2.1
  replace hl : lv_has ls 2 [(0, .ref (P.2.2.1 4)), (1, .int p1)] := hl
  refine lv_aload_n hx hb dX8_hasRoom_0 rfl (lv_at hl 0 rfl) ?_
  refine wgetI C hw flX8_15 (rfl : _ = some (0, 8)) dX8_hasRoom_1 ?_
  refine lv_iload_n hx hb dX8_hasRoom_4 rfl (lv_at hl 1 rfl) ?_
  refine lv_iadd hx hb dX8_hasRoom_5 ?_
  refine lv_sipush (v := 600) hx hb dX8_hasRoom_6 (by decide) ?_
  refine lv_icmp_gt (tgt := 16) hx hb dX8_hasRoom_9 (by decide) (fun c1 => ?_) (fun c1 => ?_)
  · replace h := (if_pos c1).symm.trans h
    refine lv_iconst (v := 0) hx hb dX8_hasRoom_16 (by decide) ?_
    exact wretZ_T C hw (Or.inl rfl) h dX8_hasRoom_17
  · replace h := (if_neg c1).symm.trans h
    refine lv_iconst (v := 1) hx hb dX8_hasRoom_12 (by decide) ?_
    refine lv_goto (tgt := 17) hx hb dX8_hasRoom_13 (by decide) ?_
    exact wretZ_T C hw (Or.inr rfl) h dX8_hasRoom_17
set_option maxRecDepth 100000 in
set_option maxHeartbeats 4000000 in
theorem c_X8_append {l : Launch} {P : Wp} {E : State → Heap → Prop} (hW : Wok shC P E) {p1 : Int32} {M : Mem} {M' : Mem} (h : f_X8_append p1 M = some M') : CT l shC P E yX8_append bX8_append 3 (none) 0 0 [.ref (P.2.2.1 4), .int p1] none M M' := by
  refine ct_of hW (by decide) (Nat.le_of_ble_eq_true rfl) (fun p e s m args below meth c C ls hl hw => ?_)
  have hx := C.1
  have hb := C.2.1
  replace hl : lv_has ls 3 [(0, .ref (P.2.2.1 4)), (1, .int p1)] := hl
  have cut_3 : ∀ (n_3 : Nat) (v2_3 : Int32) (M_3 : Mem) (ls : Array Slot) (H : Heap) (locs : List Loc), lv_has ls 3 [(0, .ref (P.2.2.1 4)), (1, .int p1), (2, .int v2_3)] → Hw shC P M_3 s H locs → lq2 (L_X8_append_3 p1) n_3 v2_3 M_3 = some M' → W p l e { frames := 0, cells := 0, slots := 0, locals := 0 } s m args below meth c H locs 0 0 (MQ below (CQ shC P E none M') args s 0 0 (wA shC P)) (F0 m 3 ls []) := by
    intro n_3
    induction n_3 with
    | zero => intro v2_3 M_3 ls H locs hl hw h; cases h
    | succ n_3 ih_3 =>
      intro v2_3 M_3 ls H locs hl hw h
      replace h := lq2_succ h
      refine lv_iload_n hx hb dX8_append_3 rfl (lv_at hl 2 rfl) ?_
      refine lv_if_lt (tgt := 48) hx hb dX8_append_4 (by decide) (fun c1 => ?_) (fun c1 => ?_)
      · replace h := (if_pos c1).symm.trans h
        exact wretV_W C hw h dX8_append_48
      · replace h := (if_neg c1).symm.trans h
        refine lv_aload_n hx hb dX8_append_7 rfl (lv_at hl 0 rfl) ?_
        refine wgetI C hw flX8_15 (rfl : _ = some (0, 8)) dX8_append_8 ?_
        refine lv_aload_n hx hb dX8_append_11 rfl (lv_at hl 0 rfl) ?_
        refine wgetR (t := 5) C hw flX8_9 (rfl : _ = some (0, 8)) rfl dX8_append_12 ?_
        refine walen C hw (rfl : _ = some (2, 600)) (by decide) (by rfl) dX8_append_15 ?_
        refine lv_icmp_ge (tgt := 48) hx hb dX8_append_16 (by decide) (fun c2 => ?_) (fun c2 => ?_)
        · replace h := (if_pos c2).symm.trans h
          exact wretV_W C hw h dX8_append_48
        · replace h := (if_neg c2).symm.trans h
          refine lv_aload_n hx hb dX8_append_19 rfl (lv_at hl 0 rfl) ?_
          refine wgetR (t := 5) C hw flX8_9 (rfl : _ = some (0, 8)) rfl dX8_append_20 ?_
          refine lv_aload_n hx hb dX8_append_23 rfl (lv_at hl 0 rfl) ?_
          refine wgetI C hw flX8_15 (rfl : _ = some (0, 8)) dX8_append_24 ?_
          refine lv_iload_n hx hb dX8_append_27 rfl (lv_at hl 1 rfl) ?_
          refine lv_iload_n hx hb dX8_append_28 rfl (lv_at hl 2 rfl) ?_
          refine lv_ishr hx hb dX8_append_29 ?_
          refine lv_i2b hx hb dX8_append_30 rfl ?_
          obtain ⟨g4, h⟩ := grd h
          refine wbast C hw (rfl : _ = some (2, 600)) g4 dX8_append_31 (fun M3 eM3 H locs hw => ?_)
          replace h := letv_at eM3 h
          refine lv_aload_n hx hb dX8_append_32 rfl (lv_at hl 0 rfl) ?_
          refine lv_dup hx hb dX8_append_33 rfl ?_
          refine wgetI C hw flX8_15 (rfl : _ = some (0, 8)) dX8_append_34 ?_
          refine lv_iconst (v := 1) hx hb dX8_append_37 (by decide) ?_
          refine lv_iadd hx hb dX8_append_38 ?_
          refine wputI C hw fpX8_15 (rfl : _ = some (0, 8)) dX8_append_39 (fun M5 eM5 H locs hw => ?_)
          replace h := letv_at eM5 h
          refine lv_iinc (v := (v2_3 + (-8))) (lv' := [(2, .int (v2_3 + (-8))), (0, .ref (P.2.2.1 4)), (1, .int p1)]) (k := 2) hx hb dX8_append_42 hl rfl (congrArg (fun z => v2_3 + z) (by decide)) (by decide) rfl (fun ls hl => ?_)
          refine lv_goto (tgt := 3) hx hb dX8_append_45 (by decide) ?_
          exact ih_3 (v2_3 + (-8)) M5 ls _ _ (lv_sub hl [1, 2, 0] rfl) hw h
  refine lv_bipush (v := 24) hx hb dX8_append_0 (by decide) ?_
  refine lv_istore_n (lv' := [(2, .int 24), (0, .ref (P.2.2.1 4)), (1, .int p1)]) hx hb dX8_append_2 rfl hl (by decide) rfl (fun ls hl => ?_)
  exact cut_3 FU 24 M ls _ _ (lv_sub hl [1, 2, 0] rfl) hw h
set_option maxRecDepth 100000 in
set_option maxHeartbeats 4000000 in
theorem c_X8_cutTo {l : Launch} {P : Wp} {E : State → Heap → Prop} (hW : Wok shC P E) {p1 : Int32} {M : Mem} {r : Int32} {M' : Mem} (h : f_X8_cutTo p1 M = some (r, M')) : CT l shC P E yX8_cutTo bX8_cutTo 2 ((some .boolean)) 0 0 [.ref (P.2.2.1 4), .int p1] (some (.int r)) M M' := by
  refine ct_of hW (by decide) (Nat.le_of_ble_eq_true rfl) (fun p e s m args below meth c C ls hl hw => ?_)
  have hx := C.1
  have hb := C.2.1
  replace hl : lv_has ls 2 [(0, .ref (P.2.2.1 4)), (1, .int p1)] := hl
  refine lv_iload_n hx hb dX8_cutTo_0 rfl (lv_at hl 1 rfl) ?_
  refine lv_if_lt (tgt := 12) hx hb dX8_cutTo_1 (by decide) (fun c1 => ?_) (fun c1 => ?_)
  · replace h := (if_pos c1).symm.trans h
    refine lv_iconst (v := 0) hx hb dX8_cutTo_12 (by decide) ?_
    exact wretZ_W C hw (Or.inl rfl) h dX8_cutTo_13
  · replace h := (if_neg c1).symm.trans h
    refine lv_iload_n hx hb dX8_cutTo_4 rfl (lv_at hl 1 rfl) ?_
    refine lv_aload_n hx hb dX8_cutTo_5 rfl (lv_at hl 0 rfl) ?_
    refine wgetI C hw flX8_15 (rfl : _ = some (0, 8)) dX8_cutTo_6 ?_
    refine lv_icmp_le (tgt := 14) hx hb dX8_cutTo_9 (by decide) (fun c2 => ?_) (fun c2 => ?_)
    · replace h := (if_pos c2).symm.trans h
      refine lv_aload_n hx hb dX8_cutTo_14 rfl (lv_at hl 0 rfl) ?_
      refine lv_iload_n hx hb dX8_cutTo_15 rfl (lv_at hl 1 rfl) ?_
      refine wputI C hw fpX8_15 (rfl : _ = some (0, 8)) dX8_cutTo_16 (fun M3 eM3 H locs hw => ?_)
      replace h := letv_at eM3 h
      refine lv_iconst (v := 1) hx hb dX8_cutTo_19 (by decide) ?_
      exact wretZ_W C hw (Or.inr rfl) h dX8_cutTo_20
    · replace h := (if_neg c2).symm.trans h
      refine lv_iconst (v := 0) hx hb dX8_cutTo_12 (by decide) ?_
      exact wretZ_W C hw (Or.inl rfl) h dX8_cutTo_13
set_option maxRecDepth 100000 in
set_option maxHeartbeats 4000000 in
theorem c_X8_byteAt {l : Launch} {P : Wp} {E : State → Heap → Prop} (hW : Wok shC P E) {p1 : Int32} {M : Mem} {r : Int32} (h : f_X8_byteAt p1 M = some r) : CT l shC P E yX8_byteAt bX8_byteAt 2 ((some .int)) 0 0 [.ref (P.2.2.1 4), .int p1] (some (.int r)) M M := by
  refine ct_of hW (by decide) (Nat.le_of_ble_eq_true rfl) (fun p e s m args below meth c C ls hl hw => ?_)
  have hx := C.1
  have hb := C.2.1
  replace hl : lv_has ls 2 [(0, .ref (P.2.2.1 4)), (1, .int p1)] := hl
  refine lv_iload_n hx hb dX8_byteAt_0 rfl (lv_at hl 1 rfl) ?_
  refine lv_if_lt (tgt := 30) hx hb dX8_byteAt_1 (by decide) (fun c1 => ?_) (fun c1 => ?_)
  · replace h := (if_pos c1).symm.trans h
    refine lv_bipush (v := 32) hx hb dX8_byteAt_30 (by decide) ?_
    exact wretI_R C hw h dX8_byteAt_32
  · replace h := (if_neg c1).symm.trans h
    refine lv_iload_n hx hb dX8_byteAt_4 rfl (lv_at hl 1 rfl) ?_
    refine lv_aload_n hx hb dX8_byteAt_5 rfl (lv_at hl 0 rfl) ?_
    refine wgetI C hw flX8_15 (rfl : _ = some (0, 8)) dX8_byteAt_6 ?_
    refine lv_icmp_ge (tgt := 30) hx hb dX8_byteAt_9 (by decide) (fun c2 => ?_) (fun c2 => ?_)
    · replace h := (if_pos c2).symm.trans h
      refine lv_bipush (v := 32) hx hb dX8_byteAt_30 (by decide) ?_
      exact wretI_R C hw h dX8_byteAt_32
    · replace h := (if_neg c2).symm.trans h
      refine lv_iload_n hx hb dX8_byteAt_12 rfl (lv_at hl 1 rfl) ?_
      refine lv_aload_n hx hb dX8_byteAt_13 rfl (lv_at hl 0 rfl) ?_
      refine wgetR (t := 5) C hw flX8_9 (rfl : _ = some (0, 8)) rfl dX8_byteAt_14 ?_
      refine walen C hw (rfl : _ = some (2, 600)) (by decide) (by rfl) dX8_byteAt_17 ?_
      refine lv_icmp_ge (tgt := 30) hx hb dX8_byteAt_18 (by decide) (fun c3 => ?_) (fun c3 => ?_)
      · replace h := (if_pos c3).symm.trans h
        refine lv_bipush (v := 32) hx hb dX8_byteAt_30 (by decide) ?_
        exact wretI_R C hw h dX8_byteAt_32
      · replace h := (if_neg c3).symm.trans h
        refine lv_aload_n hx hb dX8_byteAt_21 rfl (lv_at hl 0 rfl) ?_
        refine wgetR (t := 5) C hw flX8_9 (rfl : _ = some (0, 8)) rfl dX8_byteAt_22 ?_
        refine lv_iload_n hx hb dX8_byteAt_25 rfl (lv_at hl 1 rfl) ?_
        obtain ⟨g4, h⟩ := grd h
        refine wbald C hw (rfl : _ = some (2, 600)) g4 dX8_byteAt_26 ?_
        refine lv_goto (tgt := 32) hx hb dX8_byteAt_27 (by decide) ?_
        exact wretI_R C hw h dX8_byteAt_32
