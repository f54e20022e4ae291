theorem fpX5_27 : FP "LehrBelt$Plan" 27 5 0 0 .int := ⟨(RX5, TX5, 13), rfl, inX5, by decide, List.mem_of_getElem? (i := 186) (by decide +kernel), rfl, ⟨tyX5, tyX5_ok⟩, nmX5, rfl, by decide +kernel⟩
theorem fpX5_31 : FP "LehrBelt$Plan" 31 5 1 0 .int := ⟨(RX5, TX5, 13), rfl, inX5, by decide, List.mem_of_getElem? (i := 189) (by decide +kernel), rfl, ⟨tyX5, tyX5_ok⟩, nmX5, rfl, by decide +kernel⟩
theorem fpX5_34 : FP "LehrBelt$Plan" 34 5 2 0 .int := ⟨(RX5, TX5, 13), rfl, inX5, by decide, List.mem_of_getElem? (i := 196) (by decide +kernel), rfl, ⟨tyX5, tyX5_ok⟩, nmX5, rfl, by decide +kernel⟩
theorem fpX5_37 : FP "LehrBelt$Plan" 37 5 3 0 .int := ⟨(RX5, TX5, 13), rfl, inX5, by decide, List.mem_of_getElem? (i := 201) (by decide +kernel), rfl, ⟨tyX5, tyX5_ok⟩, nmX5, rfl, by decide +kernel⟩
theorem fpX5_40 : FP "LehrBelt$Plan" 40 5 4 0 .int := ⟨(RX5, TX5, 13), rfl, inX5, by decide, List.mem_of_getElem? (i := 205) (by decide +kernel), rfl, ⟨tyX5, tyX5_ok⟩, nmX5, rfl, by decide +kernel⟩
theorem fpX5_43 : FP "LehrBelt$Plan" 43 5 5 0 .int := ⟨(RX5, TX5, 13), rfl, inX5, by decide, List.mem_of_getElem? (i := 209) (by decide +kernel), rfl, ⟨tyX5, tyX5_ok⟩, nmX5, rfl, by decide +kernel⟩
theorem fpX5_46 : FP "LehrBelt$Plan" 46 5 6 0 .int := ⟨(RX5, TX5, 13), rfl, inX5, by decide, List.mem_of_getElem? (i := 213) (by decide +kernel), rfl, ⟨tyX5, tyX5_ok⟩, nmX5, rfl, by decide +kernel⟩
theorem fpX5_49 : FP "LehrBelt$Plan" 49 5 7 0 .int := ⟨(RX5, TX5, 13), rfl, inX5, by decide, List.mem_of_getElem? (i := 218) (by decide +kernel), rfl, ⟨tyX5, tyX5_ok⟩, nmX5, rfl, by decide +kernel⟩
theorem flX5_27 : FL "LehrBelt$Plan" 27 5 0 0 := ⟨(RX5, TX5, 13), rfl, inX5, by decide, List.mem_of_getElem? (i := 186) (by decide +kernel), rfl⟩
theorem flX5_31 : FL "LehrBelt$Plan" 31 5 1 0 := ⟨(RX5, TX5, 13), rfl, inX5, by decide, List.mem_of_getElem? (i := 189) (by decide +kernel), rfl⟩
theorem flX5_34 : FL "LehrBelt$Plan" 34 5 2 0 := ⟨(RX5, TX5, 13), rfl, inX5, by decide, List.mem_of_getElem? (i := 196) (by decide +kernel), rfl⟩
theorem flX5_37 : FL "LehrBelt$Plan" 37 5 3 0 := ⟨(RX5, TX5, 13), rfl, inX5, by decide, List.mem_of_getElem? (i := 201) (by decide +kernel), rfl⟩
theorem flX5_40 : FL "LehrBelt$Plan" 40 5 4 0 := ⟨(RX5, TX5, 13), rfl, inX5, by decide, List.mem_of_getElem? (i := 205) (by decide +kernel), rfl⟩
theorem flX5_43 : FL "LehrBelt$Plan" 43 5 5 0 := ⟨(RX5, TX5, 13), rfl, inX5, by decide, List.mem_of_getElem? (i := 209) (by decide +kernel), rfl⟩
theorem flX5_46 : FL "LehrBelt$Plan" 46 5 6 0 := ⟨(RX5, TX5, 13), rfl, inX5, by decide, List.mem_of_getElem? (i := 213) (by decide +kernel), rfl⟩
theorem flX5_49 : FL "LehrBelt$Plan" 49 5 7 0 := ⟨(RX5, TX5, 13), rfl, inX5, by decide, List.mem_of_getElem? (i := 218) (by decide +kernel), rfl⟩
theorem flX5_9 : FL "LehrBelt$Plan" 9 5 8 2 := ⟨(RX5, TX5, 13), rfl, inX5, by decide, List.mem_of_getElem? (i := 223) (by decide +kernel), rfl⟩
theorem alX5_52 : AL "LehrBelt$Plan" 52 := ⟨List.mem_of_getElem? (i := 635) (by decide +kernel), List.mem_of_getElem? (i := 637) (by decide +kernel), List.mem_of_getElem? (i := 636) (by decide +kernel), List.mem_of_getElem? (i := 121) (by decide +kernel)⟩
theorem flX5_15 : FL "LehrBelt$Plan" 15 5 9 2 := ⟨(RX5, TX5, 13), rfl, inX5, by decide, List.mem_of_getElem? (i := 228) (by decide +kernel), rfl⟩
theorem flX5_18 : FL "LehrBelt$Plan" 18 5 10 2 := ⟨(RX5, TX5, 13), rfl, inX5, by decide, List.mem_of_getElem? (i := 232) (by decide +kernel), rfl⟩
theorem flX5_21 : FL "LehrBelt$Plan" 21 5 11 2 := ⟨(RX5, TX5, 13), rfl, inX5, by decide, List.mem_of_getElem? (i := 237) (by decide +kernel), rfl⟩
theorem flX5_24 : FL "LehrBelt$Plan" 24 5 12 2 := ⟨(RX5, TX5, 13), rfl, inX5, by decide, List.mem_of_getElem? (i := 242) (by decide +kernel), rfl⟩
theorem vlX5_58 : VL "LehrBelt$Plan" 58 yX5_isTold bX5_isTold 1 ((some .boolean)) 0 := ⟨List.mem_of_getElem? (i := 673) (by decide +kernel), List.mem_of_getElem? (i := 674) (by decide +kernel), List.mem_of_getElem? (i := 675) (by decide +kernel), List.mem_of_getElem? (i := 107) (by decide +kernel), List.mem_of_getElem? (i := 676) (by decide +kernel), by decide +kernel, by decide +kernel, by decide +kernel⟩
theorem vlX5_62 : VL "LehrBelt$Plan" 62 yX5_hasStep bX5_hasStep 2 ((some .boolean)) 1 := ⟨List.mem_of_getElem? (i := 983) (by decide +kernel), List.mem_of_getElem? (i := 670) (by decide +kernel), List.mem_of_getElem? (i := 671) (by decide +kernel), List.mem_of_getElem? (i := 107) (by decide +kernel), List.mem_of_getElem? (i := 672) (by decide +kernel), by decide +kernel, by decide +kernel, by decide +kernel⟩
theorem vlX5_66 : VL "LehrBelt$Plan" 66 yX5_hasPiece bX5_hasPiece 2 ((some .boolean)) 1 := ⟨List.mem_of_getElem? (i := 713) (by decide +kernel), List.mem_of_getElem? (i := 662) (by decide +kernel), List.mem_of_getElem? (i := 663) (by decide +kernel), List.mem_of_getElem? (i := 107) (by decide +kernel), List.mem_of_getElem? (i := 664) (by decide +kernel), by decide +kernel, by decide +kernel, by decide +kernel⟩
theorem vlX5_69 : VL "LehrBelt$Plan" 69 yX5_placeAt bX5_placeAt 4 ((some .int)) 2 := ⟨List.mem_of_getElem? (i := 700) (by decide +kernel), List.mem_of_getElem? (i := 689) (by decide +kernel), List.mem_of_getElem? (i := 690) (by decide +kernel), List.mem_of_getElem? (i := 107) (by decide +kernel), List.mem_of_getElem? (i := 691) (by decide +kernel), by decide +kernel, by decide +kernel, by decide +kernel⟩
theorem vlX5_73 : VL "LehrBelt$Plan" 73 yX5_hasCome bX5_hasCome 3 ((some .boolean)) 2 := ⟨List.mem_of_getElem? (i := 816) (by decide +kernel), List.mem_of_getElem? (i := 817) (by decide +kernel), List.mem_of_getElem? (i := 818) (by decide +kernel), List.mem_of_getElem? (i := 107) (by decide +kernel), List.mem_of_getElem? (i := 819) (by decide +kernel), by decide +kernel, by decide +kernel, by decide +kernel⟩
theorem vlX5_77 : VL "LehrBelt$Plan" 77 yX5_comeBy bX5_comeBy 4 ((some .int)) 1 := ⟨List.mem_of_getElem? (i := 1011) (by decide +kernel), List.mem_of_getElem? (i := 813) (by decide +kernel), List.mem_of_getElem? (i := 814) (by decide +kernel), List.mem_of_getElem? (i := 107) (by decide +kernel), List.mem_of_getElem? (i := 815) (by decide +kernel), by decide +kernel, by decide +kernel, by decide +kernel⟩
theorem vlX5_81 : VL "LehrBelt$Plan" 81 yX5_piecesAt bX5_piecesAt 5 ((some .int)) 2 := ⟨List.mem_of_getElem? (i := 1041) (by decide +kernel), List.mem_of_getElem? (i := 697) (by decide +kernel), List.mem_of_getElem? (i := 698) (by decide +kernel), List.mem_of_getElem? (i := 107) (by decide +kernel), List.mem_of_getElem? (i := 699) (by decide +kernel), by decide +kernel, by decide +kernel, by decide +kernel⟩
theorem vlX5_84 : VL "LehrBelt$Plan" 84 yX5_hasZone bX5_hasZone 2 ((some .boolean)) 1 := ⟨List.mem_of_getElem? (i := 1147) (by decide +kernel), List.mem_of_getElem? (i := 654) (by decide +kernel), List.mem_of_getElem? (i := 655) (by decide +kernel), List.mem_of_getElem? (i := 107) (by decide +kernel), List.mem_of_getElem? (i := 656) (by decide +kernel), by decide +kernel, by decide +kernel, by decide +kernel⟩
set_option maxRecDepth 100000 in
set_option maxHeartbeats 4000000 in
theorem c_X5_clear {l : Launch} {P : Wp} {E : State → Heap → Prop} (hW : Wok shC P E) {o : Nat} {M : Mem} {M' : Mem} (ho : shC.1[o]? = some (0, 5)) (h : f_X5_clear o M = some M') : CT l shC P E yX5_clear bX5_clear 1 (none) 0 0 [.ref (P.2.2.1 o)] none M M' := by
  refine ct_of hW (by decide) (Nat.le_of_ble_eq_true rfl) (fun p e s m args below meth c C ls hl hw => ?_)
  have hx := C.1
  have hb := C.2.1
  replace hl : lv_has ls 1 [(0, .ref (P.2.2.1 o))] := hl
  refine lv_aload_n hx hb dX5_clear_0 rfl (lv_at hl 0 rfl) ?_
  refine lv_iconst (v := 0) hx hb dX5_clear_1 (by decide) ?_
  refine wputI C hw fpX5_27 ho dX5_clear_2 (fun M1 eM1 H locs hw => ?_)
  replace h := letv_at eM1 h
  refine lv_aload_n hx hb dX5_clear_5 rfl (lv_at hl 0 rfl) ?_
  refine lv_iconst (v := 0) hx hb dX5_clear_6 (by decide) ?_
  refine wputI C hw fpX5_31 ho dX5_clear_7 (fun M2 eM2 H locs hw => ?_)
  replace h := letv_at eM2 h
  refine lv_aload_n hx hb dX5_clear_10 rfl (lv_at hl 0 rfl) ?_
  refine lv_iconst (v := 0) hx hb dX5_clear_11 (by decide) ?_
  refine wputI C hw fpX5_34 ho dX5_clear_12 (fun M3 eM3 H locs hw => ?_)
  replace h := letv_at eM3 h
  refine lv_aload_n hx hb dX5_clear_15 rfl (lv_at hl 0 rfl) ?_
  refine lv_iconst (v := 0) hx hb dX5_clear_16 (by decide) ?_
  refine wputI C hw fpX5_37 ho dX5_clear_17 (fun M4 eM4 H locs hw => ?_)
  replace h := letv_at eM4 h
  refine lv_aload_n hx hb dX5_clear_20 rfl (lv_at hl 0 rfl) ?_
  refine lv_iconst (v := 0) hx hb dX5_clear_21 (by decide) ?_
  refine wputI C hw fpX5_40 ho dX5_clear_22 (fun M5 eM5 H locs hw => ?_)
  replace h := letv_at eM5 h
  refine lv_aload_n hx hb dX5_clear_25 rfl (lv_at hl 0 rfl) ?_
  refine lv_iconst (v := 0) hx hb dX5_clear_26 (by decide) ?_
  refine wputI C hw fpX5_43 ho dX5_clear_27 (fun M6 eM6 H locs hw => ?_)
  replace h := letv_at eM6 h
  refine lv_aload_n hx hb dX5_clear_30 rfl (lv_at hl 0 rfl) ?_
  refine lv_iconst (v := 0) hx hb dX5_clear_31 (by decide) ?_
  refine wputI C hw fpX5_46 ho dX5_clear_32 (fun M7 eM7 H locs hw => ?_)
  replace h := letv_at eM7 h
  refine lv_aload_n hx hb dX5_clear_35 rfl (lv_at hl 0 rfl) ?_
  refine lv_iconst (v := 0) hx hb dX5_clear_36 (by decide) ?_
  refine wputI C hw fpX5_49 ho dX5_clear_37 (fun M8 eM8 H locs hw => ?_)
  replace h := letv_at eM8 h
  exact wretV_W C hw h dX5_clear_40
set_option maxRecDepth 100000 in
set_option maxHeartbeats 4000000 in
theorem c_X5_copyFrom {l : Launch} {P : Wp} {E : State → Heap → Prop} (hW : Wok shC P E) {o : Nat} {p1 : Nat} {M : Mem} {M' : Mem} (ho : shC.1[o]? = some (0, 5)) (hp1 : shC.1[p1]? = some (0, 5)) (h : f_X5_copyFrom o p1 M = some M') : CT l shC P E yX5_copyFrom bX5_copyFrom 2 (none) 1 64 [.ref (P.2.2.1 o), .ref (P.2.2.1 p1)] none M M' := by
  refine ct_of hW (by decide) (Nat.le_of_ble_eq_true rfl) (fun p e s m args below meth c C ls hl hw => ?_)
  have hx := C.1
  have hb := C.2.1
  replace hl : lv_has ls 2 [(0, .ref (P.2.2.1 o)), (1, .ref (P.2.2.1 p1))] := hl
  refine lv_aload_n hx hb dX5_copyFrom_0 rfl (lv_at hl 0 rfl) ?_
  refine lv_aload_n hx hb dX5_copyFrom_1 rfl (lv_at hl 1 rfl) ?_
  refine wgetI C hw flX5_27 hp1 dX5_copyFrom_2 ?_
  refine wputI C hw fpX5_27 ho dX5_copyFrom_5 (fun M1 eM1 H locs hw => ?_)
  replace h := letv_at eM1 h
  refine lv_aload_n hx hb dX5_copyFrom_8 rfl (lv_at hl 0 rfl) ?_
  refine lv_aload_n hx hb dX5_copyFrom_9 rfl (lv_at hl 1 rfl) ?_
  refine wgetI C hw flX5_31 hp1 dX5_copyFrom_10 ?_
  refine wputI C hw fpX5_31 ho dX5_copyFrom_13 (fun M2 eM2 H locs hw => ?_)
  replace h := letv_at eM2 h
  refine lv_aload_n hx hb dX5_copyFrom_16 rfl (lv_at hl 0 rfl) ?_
  refine lv_aload_n hx hb dX5_copyFrom_17 rfl (lv_at hl 1 rfl) ?_
  refine wgetI C hw flX5_34 hp1 dX5_copyFrom_18 ?_
  refine wputI C hw fpX5_34 ho dX5_copyFrom_21 (fun M3 eM3 H locs hw => ?_)
  replace h := letv_at eM3 h
  refine lv_aload_n hx hb dX5_copyFrom_24 rfl (lv_at hl 0 rfl) ?_
  refine lv_aload_n hx hb dX5_copyFrom_25 rfl (lv_at hl 1 rfl) ?_
  refine wgetI C hw flX5_37 hp1 dX5_copyFrom_26 ?_
  refine wputI C hw fpX5_37 ho dX5_copyFrom_29 (fun M4 eM4 H locs hw => ?_)
  replace h := letv_at eM4 h
  refine lv_aload_n hx hb dX5_copyFrom_32 rfl (lv_at hl 0 rfl) ?_
  refine lv_aload_n hx hb dX5_copyFrom_33 rfl (lv_at hl 1 rfl) ?_
  refine wgetI C hw flX5_40 hp1 dX5_copyFrom_34 ?_
  refine wputI C hw fpX5_40 ho dX5_copyFrom_37 (fun M5 eM5 H locs hw => ?_)
  replace h := letv_at eM5 h
  refine lv_aload_n hx hb dX5_copyFrom_40 rfl (lv_at hl 0 rfl) ?_
  refine lv_aload_n hx hb dX5_copyFrom_41 rfl (lv_at hl 1 rfl) ?_
  refine wgetI C hw flX5_43 hp1 dX5_copyFrom_42 ?_
  refine wputI C hw fpX5_43 ho dX5_copyFrom_45 (fun M6 eM6 H locs hw => ?_)
  replace h := letv_at eM6 h
  refine lv_aload_n hx hb dX5_copyFrom_48 rfl (lv_at hl 0 rfl) ?_
  refine lv_aload_n hx hb dX5_copyFrom_49 rfl (lv_at hl 1 rfl) ?_
  refine wgetI C hw flX5_46 hp1 dX5_copyFrom_50 ?_
  refine wputI C hw fpX5_46 ho dX5_copyFrom_53 (fun M7 eM7 H locs hw => ?_)
  replace h := letv_at eM7 h
  refine lv_aload_n hx hb dX5_copyFrom_56 rfl (lv_at hl 0 rfl) ?_
  refine lv_aload_n hx hb dX5_copyFrom_57 rfl (lv_at hl 1 rfl) ?_
  refine wgetI C hw flX5_49 hp1 dX5_copyFrom_58 ?_
  refine wputI C hw fpX5_49 ho dX5_copyFrom_61 (fun M8 eM8 H locs hw => ?_)
  replace h := letv_at eM8 h
  refine lv_aload_n hx hb dX5_copyFrom_64 rfl (lv_at hl 1 rfl) ?_
  refine wgetR (t := (rC p1 8)) C hw flX5_9 hp1 rfl dX5_copyFrom_65 ?_
  refine lv_iconst (v := 0) hx hb dX5_copyFrom_68 (by decide) ?_
  refine lv_aload_n hx hb dX5_copyFrom_69 rfl (lv_at hl 0 rfl) ?_
  refine wgetR (t := (rC o 8)) C hw flX5_9 ho rfl dX5_copyFrom_70 ?_
  refine lv_iconst (v := 0) hx hb dX5_copyFrom_73 (by decide) ?_
  refine lv_bipush (v := 7) hx hb dX5_copyFrom_74 (by decide) ?_
  obtain ⟨g10, h⟩ := grd h
  obtain ⟨g11, h⟩ := grd h
  refine wcopyI C hw (refC (k := 8) hp1 rfl : _ = some (1, 7)) (refC (k := 8) ho rfl : _ = some (1, 7)) alX5_52 g10 g11 hl.1 (Nat.le_of_ble_eq_true rfl) (Nat.le_of_ble_eq_true rfl) dX5_copyFrom_76 (fun M9 eM9 H locs hw => ?_)
  replace h := letv_at eM9 h
  refine lv_aload_n hx hb dX5_copyFrom_79 rfl (lv_at hl 1 rfl) ?_
  refine wgetR (t := (rC p1 9)) C hw flX5_15 hp1 rfl dX5_copyFrom_80 ?_
  refine lv_iconst (v := 0) hx hb dX5_copyFrom_83 (by decide) ?_
  refine lv_aload_n hx hb dX5_copyFrom_84 rfl (lv_at hl 0 rfl) ?_
  refine wgetR (t := (rC o 9)) C hw flX5_15 ho rfl dX5_copyFrom_85 ?_
  refine lv_iconst (v := 0) hx hb dX5_copyFrom_88 (by decide) ?_
  refine lv_bipush (v := 6) hx hb dX5_copyFrom_89 (by decide) ?_
  obtain ⟨g13, h⟩ := grd h
  obtain ⟨g14, h⟩ := grd h
  refine wcopyI C hw (refC (k := 9) hp1 rfl : _ = some (1, 6)) (refC (k := 9) ho rfl : _ = some (1, 6)) alX5_52 g13 g14 hl.1 (Nat.le_of_ble_eq_true rfl) (Nat.le_of_ble_eq_true rfl) dX5_copyFrom_91 (fun M12 eM12 H locs hw => ?_)
  replace h := letv_at eM12 h
  refine lv_aload_n hx hb dX5_copyFrom_94 rfl (lv_at hl 1 rfl) ?_
  refine wgetR (t := (rC p1 10)) C hw flX5_18 hp1 rfl dX5_copyFrom_95 ?_
  refine lv_iconst (v := 0) hx hb dX5_copyFrom_98 (by decide) ?_
  refine lv_aload_n hx hb dX5_copyFrom_99 rfl (lv_at hl 0 rfl) ?_
  refine wgetR (t := (rC o 10)) C hw flX5_18 ho rfl dX5_copyFrom_100 ?_
  refine lv_iconst (v := 0) hx hb dX5_copyFrom_103 (by decide) ?_
  refine lv_bipush (v := 6) hx hb dX5_copyFrom_104 (by decide) ?_
  obtain ⟨g16, h⟩ := grd h
  obtain ⟨g17, h⟩ := grd h
  refine wcopyI C hw (refC (k := 10) hp1 rfl : _ = some (1, 6)) (refC (k := 10) ho rfl : _ = some (1, 6)) alX5_52 g16 g17 hl.1 (Nat.le_of_ble_eq_true rfl) (Nat.le_of_ble_eq_true rfl) dX5_copyFrom_106 (fun M15 eM15 H locs hw => ?_)
  replace h := letv_at eM15 h
  refine lv_aload_n hx hb dX5_copyFrom_109 rfl (lv_at hl 1 rfl) ?_
  refine wgetR (t := (rC p1 11)) C hw flX5_21 hp1 rfl dX5_copyFrom_110 ?_
  refine lv_iconst (v := 0) hx hb dX5_copyFrom_113 (by decide) ?_
  refine lv_aload_n hx hb dX5_copyFrom_114 rfl (lv_at hl 0 rfl) ?_
  refine wgetR (t := (rC o 11)) C hw flX5_21 ho rfl dX5_copyFrom_115 ?_
  refine lv_iconst (v := 0) hx hb dX5_copyFrom_118 (by decide) ?_
  refine lv_bipush (v := 6) hx hb dX5_copyFrom_119 (by decide) ?_
  obtain ⟨g19, h⟩ := grd h
  obtain ⟨g20, h⟩ := grd h
  refine wcopyI C hw (refC (k := 11) hp1 rfl : _ = some (1, 6)) (refC (k := 11) ho rfl : _ = some (1, 6)) alX5_52 g19 g20 hl.1 (Nat.le_of_ble_eq_true rfl) (Nat.le_of_ble_eq_true rfl) dX5_copyFrom_121 (fun M18 eM18 H locs hw => ?_)
  replace h := letv_at eM18 h
  refine lv_aload_n hx hb dX5_copyFrom_124 rfl (lv_at hl 1 rfl) ?_
  refine wgetR (t := (rC p1 12)) C hw flX5_24 hp1 rfl dX5_copyFrom_125 ?_
  refine lv_iconst (v := 0) hx hb dX5_copyFrom_128 (by decide) ?_
  refine lv_aload_n hx hb dX5_copyFrom_129 rfl (lv_at hl 0 rfl) ?_
  refine wgetR (t := (rC o 12)) C hw flX5_24 ho rfl dX5_copyFrom_130 ?_
  refine lv_iconst (v := 0) hx hb dX5_copyFrom_133 (by decide) ?_
  refine lv_bipush (v := 6) hx hb dX5_copyFrom_134 (by decide) ?_
  obtain ⟨g22, h⟩ := grd h
  obtain ⟨g23, h⟩ := grd h
  refine wcopyI C hw (refC (k := 12) hp1 rfl : _ = some (1, 6)) (refC (k := 12) ho rfl : _ = some (1, 6)) alX5_52 g22 g23 hl.1 (Nat.le_of_ble_eq_true rfl) (Nat.le_of_ble_eq_true rfl) dX5_copyFrom_136 (fun M21 eM21 H locs hw => ?_)
  replace h := letv_at eM21 h
  exact wretV_W C hw h dX5_copyFrom_139
theorem z_X5_isTold {o : Nat} {M : Mem} : f_X5_isTold o M = 0 ∨ f_X5_isTold o M = 1 := by
  unfold f_X5_isTold
  repeat' split
  all_goals first | exact Or.inl rfl | exact Or.inr rfl
set_option maxRecDepth 100000 in
set_option maxHeartbeats 4000000 in
theorem c_X5_isTold {l : Launch} {P : Wp} {E : State → Heap → Prop} (hW : Wok shC P E) {o : Nat} {M : Mem} {r : Int32} (ho : shC.1[o]? = some (0, 5)) (h : f_X5_isTold o M = r) : CT l shC P E yX5_isTold bX5_isTold 1 ((some .boolean)) 0 0 [.ref (P.2.2.1 o)] (some (.int r)) M M := by
  refine ct_of hW (by decide) (Nat.le_of_ble_eq_true rfl) (fun p e s m args below meth c C ls hl hw => ?_)
  have hx := C.1
  have hb := C.2.1
  replace hl : lv_has ls 1 [(0, .ref (P.2.2.1 o))] := hl
  refine lv_aload_n hx hb dX5_isTold_0 rfl (lv_at hl 0 rfl) ?_
  refine wgetI C hw flX5_27 ho dX5_isTold_1 ?_
  refine lv_if_le (tgt := 11) hx hb dX5_isTold_4 (by decide) (fun c1 => ?_) (fun c1 => ?_)
  · replace h := (if_pos c1).symm.trans h
    refine lv_iconst (v := 0) hx hb dX5_isTold_11 (by decide) ?_
    exact wretZ_T C hw (Or.inl rfl) h dX5_isTold_12
  · replace h := (if_neg c1).symm.trans h
    refine lv_iconst (v := 1) hx hb dX5_isTold_7 (by decide) ?_
    refine lv_goto (tgt := 12) hx hb dX5_isTold_8 (by decide) ?_
    exact wretZ_T C hw (Or.inr rfl) h dX5_isTold_12
theorem z_X5_hasZone {o : Nat} {p1 : Int32} {M : Mem} : f_X5_hasZone o p1 M = 0 ∨ f_X5_hasZone o p1 M = 1 := by
  unfold f_X5_hasZone
  repeat' split
  all_goals first | exact Or.inl rfl | exact Or.inr rfl
set_option maxRecDepth 100000 in
set_option maxHeartbeats 4000000 in
theorem c_X5_hasZone {l : Launch} {P : Wp} {E : State → Heap → Prop} (hW : Wok shC P E) {o : Nat} {p1 : Int32} {M : Mem} {r : Int32} (ho : shC.1[o]? = some (0, 5)) (h : f_X5_hasZone o p1 M = r) : CT l shC P E yX5_hasZone bX5_hasZone 2 ((some .boolean)) 0 0 [.ref (P.2.2.1 o), .int p1] (some (.int r)) M M := by
  refine ct_of hW (by decide) (Nat.le_of_ble_eq_true rfl) (fun p e s m args below meth c C ls hl hw => ?_)
  have hx := C.1
  have hb := C.2.1
  replace hl : lv_has ls 2 [(0, .ref (P.2.2.1 o)), (1, .int p1)] := hl
  refine lv_iload_n hx hb dX5_hasZone_0 rfl (lv_at hl 1 rfl) ?_
  refine lv_if_lt (tgt := 16) hx hb dX5_hasZone_1 (by decide) (fun c1 => ?_) (fun c1 => ?_)
  · replace h := (if_pos c1).symm.trans h
    refine lv_iconst (v := 0) hx hb dX5_hasZone_16 (by decide) ?_
    exact wretZ_T C hw (Or.inl rfl) h dX5_hasZone_17
  · replace h := (if_neg c1).symm.trans h
    refine lv_iload_n hx hb dX5_hasZone_4 rfl (lv_at hl 1 rfl) ?_
    refine lv_aload_n hx hb dX5_hasZone_5 rfl (lv_at hl 0 rfl) ?_
    refine wgetI C hw flX5_46 ho dX5_hasZone_6 ?_
    refine lv_icmp_ge (tgt := 16) hx hb dX5_hasZone_9 (by decide) (fun c2 => ?_) (fun c2 => ?_)
    · replace h := (if_pos c2).symm.trans h
      refine lv_iconst (v := 0) hx hb dX5_hasZone_16 (by decide) ?_
      exact wretZ_T C hw (Or.inl rfl) h dX5_hasZone_17
    · replace h := (if_neg c2).symm.trans h
      refine lv_iconst (v := 1) hx hb dX5_hasZone_12 (by decide) ?_
      refine lv_goto (tgt := 17) hx hb dX5_hasZone_13 (by decide) ?_
      exact wretZ_T C hw (Or.inr rfl) h dX5_hasZone_17
theorem z_X5_hasPiece {o : Nat} {p1 : Int32} {M : Mem} : f_X5_hasPiece o p1 M = 0 ∨ f_X5_hasPiece o p1 M = 1 := by
  unfold f_X5_hasPiece
  repeat' split
  all_goals first | exact Or.inl rfl | exact Or.inr rfl
set_option maxRecDepth 100000 in
set_option maxHeartbeats 4000000 in
theorem c_X5_hasPiece {l : Launch} {P : Wp} {E : State → Heap → Prop} (hW : Wok shC P E) {o : Nat} {p1 : Int32} {M : Mem} {r : Int32} (ho : shC.1[o]? = some (0, 5)) (h : f_X5_hasPiece o p1 M = r) : CT l shC P E yX5_hasPiece bX5_hasPiece 2 ((some .boolean)) 0 0 [.ref (P.2.2.1 o), .int p1] (some (.int r)) M M := by
  refine ct_of hW (by decide) (Nat.le_of_ble_eq_true rfl) (fun p e s m args below meth c C ls hl hw => ?_)
  have hx := C.1
  have hb := C.2.1
  replace hl : lv_has ls 2 [(0, .ref (P.2.2.1 o)), (1, .int p1)] := hl
  refine lv_iload_n hx hb dX5_hasPiece_0 rfl (lv_at hl 1 rfl) ?_
  refine lv_if_lt (tgt := 16) hx hb dX5_hasPiece_1 (by decide) (fun c1 => ?_) (fun c1 => ?_)
  · replace h := (if_pos c1).symm.trans h
    refine lv_iconst (v := 0) hx hb dX5_hasPiece_16 (by decide) ?_
    exact wretZ_T C hw (Or.inl rfl) h dX5_hasPiece_17
  · replace h := (if_neg c1).symm.trans h
    refine lv_iload_n hx hb dX5_hasPiece_4 rfl (lv_at hl 1 rfl) ?_
    refine lv_aload_n hx hb dX5_hasPiece_5 rfl (lv_at hl 0 rfl) ?_
    refine wgetI C hw flX5_49 ho dX5_hasPiece_6 ?_
    refine lv_icmp_ge (tgt := 16) hx hb dX5_hasPiece_9 (by decide) (fun c2 => ?_) (fun c2 => ?_)
    · replace h := (if_pos c2).symm.trans h
      refine lv_iconst (v := 0) hx hb dX5_hasPiece_16 (by decide) ?_
      exact wretZ_T C hw (Or.inl rfl) h dX5_hasPiece_17
    · replace h := (if_neg c2).symm.trans h
      refine lv_iconst (v := 1) hx hb dX5_hasPiece_12 (by decide) ?_
      refine lv_goto (tgt := 17) hx hb dX5_hasPiece_13 (by decide) ?_
      exact wretZ_T C hw (Or.inr rfl) h dX5_hasPiece_17
theorem z_X5_hasStep {o : Nat} {p1 : Int32} {M : Mem} : f_X5_hasStep o p1 M = 0 ∨ f_X5_hasStep o p1 M = 1 := by
  unfold f_X5_hasStep
  repeat' split
  all_goals first | exact Or.inl rfl | exact Or.inr rfl
set_option maxRecDepth 100000 in
set_option maxHeartbeats 4000000 in
theorem c_X5_hasStep {l : Launch} {P : Wp} {E : State → Heap → Prop} (hW : Wok shC P E) {o : Nat} {p1 : Int32} {M : Mem} {r : Int32} (ho : shC.1[o]? = some (0, 5)) (h : f_X5_hasStep o p1 M = r) : CT l shC P E yX5_hasStep bX5_hasStep 2 ((some .boolean)) 1 20 [.ref (P.2.2.1 o), .int p1] (some (.int r)) M M := by
  refine ct_of hW (by decide) (Nat.le_of_ble_eq_true rfl) (fun p e s m args below meth c C ls hl hw => ?_)
  have hx := C.1
  have hb := C.2.1
  replace hl : lv_has ls 2 [(0, .ref (P.2.2.1 o)), (1, .int p1)] := hl
  refine lv_aload_n hx hb dX5_hasStep_0 rfl (lv_at hl 0 rfl) ?_
  refine wcallV1 (As := []) (rest := []) C hw (c_X5_isTold hW ho rfl) vlX5_58 ⟨Nat.le_of_ble_eq_true rfl, Nat.le_of_ble_eq_true rfl⟩ ho rfl rfl rfl hl.1 (Nat.le_of_ble_eq_true rfl) dX5_hasStep_1 ⟨Nat.zero_le _, Nat.zero_le _⟩ (fun H locs hw => ?_)
  refine lv_if_eq (tgt := 23) hx hb dX5_hasStep_4 (by decide) (fun c1 => ?_) (fun c1 => ?_)
  · replace h := (if_pos c1).symm.trans h
    refine lv_iconst (v := 0) hx hb dX5_hasStep_23 (by decide) ?_
    exact wretZ_T C hw (Or.inl rfl) h dX5_hasStep_24
  · replace h := (if_neg c1).symm.trans h
    refine lv_iload_n hx hb dX5_hasStep_7 rfl (lv_at hl 1 rfl) ?_
    refine lv_if_lt (tgt := 23) hx hb dX5_hasStep_8 (by decide) (fun c2 => ?_) (fun c2 => ?_)
    · replace h := (if_pos c2).symm.trans h
      refine lv_iconst (v := 0) hx hb dX5_hasStep_23 (by decide) ?_
      exact wretZ_T C hw (Or.inl rfl) h dX5_hasStep_24
    · replace h := (if_neg c2).symm.trans h
      refine lv_iload_n hx hb dX5_hasStep_11 rfl (lv_at hl 1 rfl) ?_
      refine lv_aload_n hx hb dX5_hasStep_12 rfl (lv_at hl 0 rfl) ?_
      refine wgetI C hw flX5_31 ho dX5_hasStep_13 ?_
      refine lv_icmp_gt (tgt := 23) hx hb dX5_hasStep_16 (by decide) (fun c3 => ?_) (fun c3 => ?_)
      · replace h := (if_pos c3).symm.trans h
        refine lv_iconst (v := 0) hx hb dX5_hasStep_23 (by decide) ?_
        exact wretZ_T C hw (Or.inl rfl) h dX5_hasStep_24
      · replace h := (if_neg c3).symm.trans h
        refine lv_iconst (v := 1) hx hb dX5_hasStep_19 (by decide) ?_
        refine lv_goto (tgt := 24) hx hb dX5_hasStep_20 (by decide) ?_
        exact wretZ_T C hw (Or.inr rfl) h dX5_hasStep_24
theorem z_X5_hasStepAhead {o : Nat} {p1 : Int32} {M : Mem} : f_X5_hasStepAhead o p1 M = 0 ∨ f_X5_hasStepAhead o p1 M = 1 := by
  unfold f_X5_hasStepAhead
  repeat' split
  all_goals first | exact Or.inl rfl | exact Or.inr rfl
set_option maxRecDepth 100000 in
set_option maxHeartbeats 4000000 in
theorem c_X5_hasStepAhead {l : Launch} {P : Wp} {E : State → Heap → Prop} (hW : Wok shC P E) {o : Nat} {p1 : Int32} {M : Mem} {r : Int32} (ho : shC.1[o]? = some (0, 5)) (h : f_X5_hasStepAhead o p1 M = r) : CT l shC P E yX5_hasStepAhead bX5_hasStepAhead 2 ((some .boolean)) 2 41 [.ref (P.2.2.1 o), .int p1] (some (.int r)) M M := by
  refine ct_of hW (by decide) (Nat.le_of_ble_eq_true rfl) (fun p e s m args below meth c C ls hl hw => ?_)
  have hx := C.1
  have hb := C.2.1
  replace hl : lv_has ls 2 [(0, .ref (P.2.2.1 o)), (1, .int p1)] := hl
  refine lv_aload_n hx hb dX5_hasStepAhead_0 rfl (lv_at hl 0 rfl) ?_
  refine lv_iload_n hx hb dX5_hasStepAhead_1 rfl (lv_at hl 1 rfl) ?_
  refine wcallV1 (As := [.int p1]) (rest := []) C hw (c_X5_hasStep hW ho rfl) vlX5_62 ⟨Nat.le_of_ble_eq_true rfl, Nat.le_of_ble_eq_true rfl⟩ ho rfl rfl rfl hl.1 (Nat.le_of_ble_eq_true rfl) dX5_hasStepAhead_2 ⟨Nat.zero_le _, Nat.zero_le _⟩ (fun H locs hw => ?_)
  refine lv_if_eq (tgt := 20) hx hb dX5_hasStepAhead_5 (by decide) (fun c1 => ?_) (fun c1 => ?_)
  · replace h := (if_pos c1).symm.trans h
    refine lv_iconst (v := 0) hx hb dX5_hasStepAhead_20 (by decide) ?_
    exact wretZ_T C hw (Or.inl rfl) h dX5_hasStepAhead_21
  · replace h := (if_neg c1).symm.trans h
    refine lv_iload_n hx hb dX5_hasStepAhead_8 rfl (lv_at hl 1 rfl) ?_
    refine lv_aload_n hx hb dX5_hasStepAhead_9 rfl (lv_at hl 0 rfl) ?_
    refine wgetI C hw flX5_31 ho dX5_hasStepAhead_10 ?_
    refine lv_icmp_ge (tgt := 20) hx hb dX5_hasStepAhead_13 (by decide) (fun c2 => ?_) (fun c2 => ?_)
    · replace h := (if_pos c2).symm.trans h
      refine lv_iconst (v := 0) hx hb dX5_hasStepAhead_20 (by decide) ?_
      exact wretZ_T C hw (Or.inl rfl) h dX5_hasStepAhead_21
    · replace h := (if_neg c2).symm.trans h
      refine lv_iconst (v := 1) hx hb dX5_hasStepAhead_16 (by decide) ?_
      refine lv_goto (tgt := 21) hx hb dX5_hasStepAhead_17 (by decide) ?_
      exact wretZ_T C hw (Or.inr rfl) h dX5_hasStepAhead_21
set_option maxRecDepth 100000 in
set_option maxHeartbeats 4000000 in
theorem c_X5_placeAt {l : Launch} {P : Wp} {E : State → Heap → Prop} (hW : Wok shC P E) {o : Nat} {p1 : Int32} {p2 : Int32} {M : Mem} {r : Int32} (ho : shC.1[o]? = some (0, 5)) (h : f_X5_placeAt o p1 p2 M = some r) : CT l shC P E yX5_placeAt bX5_placeAt 4 ((some .int)) 0 0 [.ref (P.2.2.1 o), .int p1, .int p2] (some (.int r)) M M := by
  refine ct_of hW (by decide) (Nat.le_of_ble_eq_true rfl) (fun p e s m args below meth c C ls hl hw => ?_)
  have hx := C.1
  have hb := C.2.1
  replace hl : lv_has ls 4 [(0, .ref (P.2.2.1 o)), (1, .int p1), (2, .int p2)] := hl
  refine lv_iload_n hx hb dX5_placeAt_0 rfl (lv_at hl 1 rfl) ?_
  refine lv_if_lt (tgt := 30) hx hb dX5_placeAt_1 (by decide) (fun c1 => ?_) (fun c1 => ?_)
  · replace h := (if_pos c1).symm.trans h
    refine lv_iconst (v := (-1)) hx hb dX5_placeAt_30 (by decide) ?_
    exact wretI_R C hw h dX5_placeAt_31
  · replace h := (if_neg c1).symm.trans h
    refine lv_iload_n hx hb dX5_placeAt_4 rfl (lv_at hl 1 rfl) ?_
    refine lv_aload_n hx hb dX5_placeAt_5 rfl (lv_at hl 0 rfl) ?_
    refine wgetI C hw flX5_49 ho dX5_placeAt_6 ?_
    refine lv_icmp_ge (tgt := 30) hx hb dX5_placeAt_9 (by decide) (fun c2 => ?_) (fun c2 => ?_)
    · replace h := (if_pos c2).symm.trans h
      refine lv_iconst (v := (-1)) hx hb dX5_placeAt_30 (by decide) ?_
      exact wretI_R C hw h dX5_placeAt_31
    · replace h := (if_neg c2).symm.trans h
      refine lv_aload_n hx hb dX5_placeAt_12 rfl (lv_at hl 0 rfl) ?_
      refine wgetI C hw flX5_40 ho dX5_placeAt_13 ?_
      refine lv_iconst (v := 1) hx hb dX5_placeAt_16 (by decide) ?_
      refine lv_icmp_lt (tgt := 30) hx hb dX5_placeAt_17 (by decide) (fun c3 => ?_) (fun c3 => ?_)
      · replace h := (if_pos c3).symm.trans h
        refine lv_iconst (v := (-1)) hx hb dX5_placeAt_30 (by decide) ?_
        exact wretI_R C hw h dX5_placeAt_31
      · replace h := (if_neg c3).symm.trans h
        refine lv_iload_n hx hb dX5_placeAt_20 rfl (lv_at hl 2 rfl) ?_
        refine lv_aload_n hx hb dX5_placeAt_21 rfl (lv_at hl 0 rfl) ?_
        refine wgetR (t := (rC o 12)) C hw flX5_24 ho rfl dX5_placeAt_22 ?_
        refine lv_iload_n hx hb dX5_placeAt_25 rfl (lv_at hl 1 rfl) ?_
        obtain ⟨g4, h⟩ := grd h
        refine wald C hw (refC (k := 12) ho rfl : _ = some (1, 6)) g4 dX5_placeAt_26 ?_
        refine lv_icmp_ge (tgt := 32) hx hb dX5_placeAt_27 (by decide) (fun c5 => ?_) (fun c5 => ?_)
        · replace h := (if_pos c5).symm.trans h
          refine lv_iload_n hx hb dX5_placeAt_32 rfl (lv_at hl 2 rfl) ?_
          refine lv_aload_n hx hb dX5_placeAt_33 rfl (lv_at hl 0 rfl) ?_
          refine wgetR (t := (rC o 12)) C hw flX5_24 ho rfl dX5_placeAt_34 ?_
          refine lv_iload_n hx hb dX5_placeAt_37 rfl (lv_at hl 1 rfl) ?_
          obtain ⟨g6, h⟩ := grd h
          refine wald C hw (refC (k := 12) ho rfl : _ = some (1, 6)) g6 dX5_placeAt_38 ?_
          refine lv_isub hx hb dX5_placeAt_39 ?_
          refine lv_aload_n hx hb dX5_placeAt_40 rfl (lv_at hl 0 rfl) ?_
          refine wgetI C hw flX5_40 ho dX5_placeAt_41 ?_
          obtain ⟨g7, h⟩ := grd0 h
          refine lv_idiv hx hb dX5_placeAt_44 g7 ?_
          refine lv_topi (fun x8 ex8 => ?_)
          replace h := letv_at ex8 h
          refine lv_istore_n (lv' := [(3, .int x8), (0, .ref (P.2.2.1 o)), (1, .int p1), (2, .int p2)]) hx hb dX5_placeAt_45 rfl hl (by decide) rfl (fun ls hl => ?_)
          refine lv_iload_n hx hb dX5_placeAt_46 rfl (lv_at hl 0 rfl) ?_
          refine lv_aload_n hx hb dX5_placeAt_47 rfl (lv_at hl 1 rfl) ?_
          refine wgetI C hw flX5_46 ho dX5_placeAt_48 ?_
          refine lv_icmp_ge (tgt := 58) hx hb dX5_placeAt_51 (by decide) (fun c9 => ?_) (fun c9 => ?_)
          · replace h := (if_pos c9).symm.trans h
            refine lv_bipush (v := 10) hx hb dX5_placeAt_58 (by decide) ?_
            exact wretI_R C hw h dX5_placeAt_60
          · replace h := (if_neg c9).symm.trans h
            refine lv_iload_n hx hb dX5_placeAt_54 rfl (lv_at hl 0 rfl) ?_
            refine lv_goto (tgt := 60) hx hb dX5_placeAt_55 (by decide) ?_
            exact wretI_R C hw h dX5_placeAt_60
        · replace h := (if_neg c5).symm.trans h
          refine lv_iconst (v := (-1)) hx hb dX5_placeAt_30 (by decide) ?_
          exact wretI_R C hw h dX5_placeAt_31
set_option maxRecDepth 100000 in
set_option maxHeartbeats 4000000 in
theorem c_X5_leavingStep {l : Launch} {P : Wp} {E : State → Heap → Prop} (hW : Wok shC P E) {o : Nat} {p1 : Int32} {M : Mem} {r : Int32} (ho : shC.1[o]? = some (0, 5)) (h : f_X5_leavingStep o p1 M = some r) : CT l shC P E yX5_leavingStep bX5_leavingStep 3 ((some .int)) 1 21 [.ref (P.2.2.1 o), .int p1] (some (.int r)) M M := by
  refine ct_of hW (by decide) (Nat.le_of_ble_eq_true rfl) (fun p e s m args below meth c C ls hl hw => ?_)
  have hx := C.1
  have hb := C.2.1
  replace hl : lv_has ls 3 [(0, .ref (P.2.2.1 o)), (1, .int p1)] := hl
  refine lv_aload_n hx hb dX5_leavingStep_0 rfl (lv_at hl 0 rfl) ?_
  refine lv_iload_n hx hb dX5_leavingStep_1 rfl (lv_at hl 1 rfl) ?_
  refine wcallV1 (As := [.int p1]) (rest := []) C hw (c_X5_hasPiece hW ho rfl) vlX5_66 ⟨Nat.le_of_ble_eq_true rfl, Nat.le_of_ble_eq_true rfl⟩ ho rfl rfl rfl hl.1 (Nat.le_of_ble_eq_true rfl) dX5_leavingStep_2 ⟨Nat.zero_le _, Nat.zero_le _⟩ (fun H locs hw => ?_)
  refine lv_if_ne (tgt := 10) hx hb dX5_leavingStep_5 (by decide) (fun c1 => ?_) (fun c1 => ?_)
  · replace h := (if_neg c1).symm.trans h
    refine lv_aload_n hx hb dX5_leavingStep_10 rfl (lv_at hl 0 rfl) ?_
    refine wgetR (t := (rC o 12)) C hw flX5_24 ho rfl dX5_leavingStep_11 ?_
    refine lv_iload_n hx hb dX5_leavingStep_14 rfl (lv_at hl 1 rfl) ?_
    obtain ⟨g2, h⟩ := grd h
    refine wald C hw (refC (k := 12) ho rfl : _ = some (1, 6)) g2 dX5_leavingStep_15 ?_
    refine lv_aload_n hx hb dX5_leavingStep_16 rfl (lv_at hl 0 rfl) ?_
    refine wgetI C hw flX5_46 ho dX5_leavingStep_17 ?_
    refine lv_aload_n hx hb dX5_leavingStep_20 rfl (lv_at hl 0 rfl) ?_
    refine wgetI C hw flX5_40 ho dX5_leavingStep_21 ?_
    refine lv_imul hx hb dX5_leavingStep_24 ?_
    refine lv_iadd hx hb dX5_leavingStep_25 ?_
    refine lv_topi (fun x3 ex3 => ?_)
    replace h := letv_at ex3 h
    refine lv_istore_n (lv' := [(2, .int x3), (0, .ref (P.2.2.1 o)), (1, .int p1)]) hx hb dX5_leavingStep_26 rfl hl (by decide) rfl (fun ls hl => ?_)
    refine lv_iload_n hx hb dX5_leavingStep_27 rfl (lv_at hl 0 rfl) ?_
    refine lv_aload_n hx hb dX5_leavingStep_28 rfl (lv_at hl 1 rfl) ?_
    refine wgetI C hw flX5_31 ho dX5_leavingStep_29 ?_
    refine lv_icmp_gt (tgt := 39) hx hb dX5_leavingStep_32 (by decide) (fun c4 => ?_) (fun c4 => ?_)
    · replace h := (if_pos c4).symm.trans h
      refine lv_iconst (v := (-1)) hx hb dX5_leavingStep_39 (by decide) ?_
      exact wretI_R C hw h dX5_leavingStep_40
    · replace h := (if_neg c4).symm.trans h
      refine lv_iload_n hx hb dX5_leavingStep_35 rfl (lv_at hl 0 rfl) ?_
      refine lv_goto (tgt := 40) hx hb dX5_leavingStep_36 (by decide) ?_
      exact wretI_R C hw h dX5_leavingStep_40
  · replace h := (if_pos c1).symm.trans h
    refine lv_iconst (v := (-1)) hx hb dX5_leavingStep_8 (by decide) ?_
    exact wretI_R C hw h dX5_leavingStep_9
set_option maxRecDepth 100000 in
set_option maxHeartbeats 4000000 in
theorem c_X5_piecesAt {l : Launch} {P : Wp} {E : State → Heap → Prop} (hW : Wok shC P E) {o : Nat} {p1 : Int32} {p2 : Int32} {M : Mem} {r : Int32} (ho : shC.1[o]? = some (0, 5)) (h : f_X5_piecesAt o p1 p2 M = some r) : CT l shC P E yX5_piecesAt bX5_piecesAt 5 ((some .int)) 1 23 [.ref (P.2.2.1 o), .int p1, .int p2] (some (.int r)) M M := by
  refine ct_of hW (by decide) (Nat.le_of_ble_eq_true rfl) (fun p e s m args below meth c C ls hl hw => ?_)
  have hx := C.1
  have hb := C.2.1
  replace hl : lv_has ls 5 [(0, .ref (P.2.2.1 o)), (1, .int p1), (2, .int p2)] := hl
  have cut_5 : ∀ (n_5 : Nat) (v3_5 : Int32) (v4_5 : Int32) (ls : Array Slot) (H : Heap) (locs : List Loc), lv_has ls 5 [(0, .ref (P.2.2.1 o)), (1, .int p1), (2, .int p2), (3, .int v3_5), (4, .int v4_5)] → Hw shC P M s H locs → lq2 (L_X5_piecesAt_5 o p1 p2 M) n_5 v3_5 v4_5 = some r → W p l e { frames := 1, cells := 0, slots := 0, locals := 23 } s m args below meth c H locs 0 0 (MQ below (CQ shC P E (some (.int r)) M) args s 0 0 (wA shC P)) (F0 m 5 ls []) := by
    intro n_5
    induction n_5 with
    | zero => intro v3_5 v4_5 ls H locs hl hw h; cases h
    | succ n_5 ih_5 =>
      intro v3_5 v4_5 ls H locs hl hw h
      replace h := lq2_succ h
      refine lv_iload hx hb dX5_piecesAt_5 (lv_at hl 4 rfl) ?_
      refine lv_aload_n hx hb dX5_piecesAt_7 rfl (lv_at hl 0 rfl) ?_
      refine wgetI C hw flX5_49 ho dX5_piecesAt_8 ?_
      refine lv_icmp_ge (tgt := 38) hx hb dX5_piecesAt_11 (by decide) (fun c1 => ?_) (fun c1 => ?_)
      · replace h := (if_pos c1).symm.trans h
        refine lv_iload_n hx hb dX5_piecesAt_38 rfl (lv_at hl 3 rfl) ?_
        exact wretI_R C hw h dX5_piecesAt_39
      · replace h := (if_neg c1).symm.trans h
        refine lv_aload_n hx hb dX5_piecesAt_14 rfl (lv_at hl 0 rfl) ?_
        refine lv_iload hx hb dX5_piecesAt_15 (lv_at hl 4 rfl) ?_
        refine lv_iload_n hx hb dX5_piecesAt_17 rfl (lv_at hl 2 rfl) ?_
        obtain ⟨r2, e3, h⟩ := bnd_some h
        refine wcallV1 (As := [.int v4_5, .int p2]) (rest := []) C hw (c_X5_placeAt hW ho e3) vlX5_69 ⟨Nat.le_of_ble_eq_true rfl, Nat.le_of_ble_eq_true rfl⟩ ho rfl rfl rfl hl.1 (Nat.le_of_ble_eq_true rfl) dX5_piecesAt_18 ⟨Nat.zero_le _, Nat.zero_le _⟩ (fun H locs hw => ?_)
        refine lv_iload_n hx hb dX5_piecesAt_21 rfl (lv_at hl 1 rfl) ?_
        refine lv_icmp_ne (tgt := 32) hx hb dX5_piecesAt_22 (by decide) (fun c4 => ?_) (fun c4 => ?_)
        · replace h := (if_neg c4).symm.trans h
          refine lv_iinc (v := (v4_5 + 1)) (lv' := [(4, .int (v4_5 + 1)), (0, .ref (P.2.2.1 o)), (1, .int p1), (2, .int p2), (3, .int v3_5)]) (k := 4) hx hb dX5_piecesAt_32 hl rfl (congrArg (fun z => v4_5 + z) (by decide)) (by decide) rfl (fun ls hl => ?_)
          refine lv_goto (tgt := 5) hx hb dX5_piecesAt_35 (by decide) ?_
          exact ih_5 v3_5 (v4_5 + 1) ls _ _ (lv_sub hl [1, 2, 3, 4, 0] rfl) hw h
        · replace h := (if_pos c4).symm.trans h
          refine lv_iload_n hx hb dX5_piecesAt_25 rfl (lv_at hl 3 rfl) ?_
          refine lv_iconst (v := 1) hx hb dX5_piecesAt_26 (by decide) ?_
          refine lv_iload hx hb dX5_piecesAt_27 (lv_at hl 4 rfl) ?_
          refine lv_ishl hx hb dX5_piecesAt_29 ?_
          refine lv_ior hx hb dX5_piecesAt_30 ?_
          refine lv_topi (fun x5 ex5 => ?_)
          replace h := letv_at ex5 h
          refine lv_istore_n (lv' := [(3, .int x5), (0, .ref (P.2.2.1 o)), (1, .int p1), (2, .int p2), (4, .int v4_5)]) hx hb dX5_piecesAt_31 rfl hl (by decide) rfl (fun ls hl => ?_)
          refine lv_iinc (v := (v4_5 + 1)) (lv' := [(4, .int (v4_5 + 1)), (3, .int x5), (0, .ref (P.2.2.1 o)), (1, .int p1), (2, .int p2)]) (k := 4) hx hb dX5_piecesAt_32 hl rfl (congrArg (fun z => v4_5 + z) (by decide)) (by decide) rfl (fun ls hl => ?_)
          refine lv_goto (tgt := 5) hx hb dX5_piecesAt_35 (by decide) ?_
          exact ih_5 x5 (v4_5 + 1) ls _ _ (lv_sub hl [2, 3, 4, 1, 0] rfl) hw h
  refine lv_iconst (v := 0) hx hb dX5_piecesAt_0 (by decide) ?_
  refine lv_istore_n (lv' := [(3, .int 0), (0, .ref (P.2.2.1 o)), (1, .int p1), (2, .int p2)]) hx hb dX5_piecesAt_1 rfl hl (by decide) rfl (fun ls hl => ?_)
  refine lv_iconst (v := 0) hx hb dX5_piecesAt_2 (by decide) ?_
  refine lv_istore (lv' := [(4, .int 0), (3, .int 0), (0, .ref (P.2.2.1 o)), (1, .int p1), (2, .int p2)]) hx hb dX5_piecesAt_3 hl (by decide) rfl (fun ls hl => ?_)
  exact cut_5 FU 0 0 ls _ _ (lv_sub hl [2, 3, 4, 1, 0] rfl) hw h
set_option maxRecDepth 100000 in
set_option maxHeartbeats 4000000 in
theorem c_X5_hasCome {l : Launch} {P : Wp} {E : State → Heap → Prop} (hW : Wok shC P E) {o : Nat} {p1 : Int32} {p2 : Int32} {M : Mem} {r : Int32} (ho : shC.1[o]? = some (0, 5)) (h : f_X5_hasCome o p1 p2 M = some r) : CT l shC P E yX5_hasCome bX5_hasCome 3 ((some .boolean)) 1 21 [.ref (P.2.2.1 o), .int p1, .int p2] (some (.int r)) M M := by
  refine ct_of hW (by decide) (Nat.le_of_ble_eq_true rfl) (fun p e s m args below meth c C ls hl hw => ?_)
  have hx := C.1
  have hb := C.2.1
  replace hl : lv_has ls 3 [(0, .ref (P.2.2.1 o)), (1, .int p1), (2, .int p2)] := hl
  refine lv_aload_n hx hb dX5_hasCome_0 rfl (lv_at hl 0 rfl) ?_
  refine lv_iload_n hx hb dX5_hasCome_1 rfl (lv_at hl 1 rfl) ?_
  refine wcallV1 (As := [.int p1]) (rest := []) C hw (c_X5_hasPiece hW ho rfl) vlX5_66 ⟨Nat.le_of_ble_eq_true rfl, Nat.le_of_ble_eq_true rfl⟩ ho rfl rfl rfl hl.1 (Nat.le_of_ble_eq_true rfl) dX5_hasCome_2 ⟨Nat.zero_le _, Nat.zero_le _⟩ (fun H locs hw => ?_)
  refine lv_if_eq (tgt := 22) hx hb dX5_hasCome_5 (by decide) (fun c1 => ?_) (fun c1 => ?_)
  · replace h := (if_pos c1).symm.trans h
    refine lv_iconst (v := 0) hx hb dX5_hasCome_22 (by decide) ?_
    exact wretZ_R C hw (Or.inl rfl) h dX5_hasCome_23
  · replace h := (if_neg c1).symm.trans h
    refine lv_aload_n hx hb dX5_hasCome_8 rfl (lv_at hl 0 rfl) ?_
    refine wgetR (t := (rC o 12)) C hw flX5_24 ho rfl dX5_hasCome_9 ?_
    refine lv_iload_n hx hb dX5_hasCome_12 rfl (lv_at hl 1 rfl) ?_
    obtain ⟨g2, h⟩ := grd h
    refine wald C hw (refC (k := 12) ho rfl : _ = some (1, 6)) g2 dX5_hasCome_13 ?_
    refine lv_iload_n hx hb dX5_hasCome_14 rfl (lv_at hl 2 rfl) ?_
    refine lv_icmp_gt (tgt := 22) hx hb dX5_hasCome_15 (by decide) (fun c3 => ?_) (fun c3 => ?_)
    · replace h := (if_pos c3).symm.trans h
      refine lv_iconst (v := 0) hx hb dX5_hasCome_22 (by decide) ?_
      exact wretZ_R C hw (Or.inl rfl) h dX5_hasCome_23
    · replace h := (if_neg c3).symm.trans h
      refine lv_iconst (v := 1) hx hb dX5_hasCome_18 (by decide) ?_
      refine lv_goto (tgt := 23) hx hb dX5_hasCome_19 (by decide) ?_
      exact wretZ_R C hw (Or.inr rfl) h dX5_hasCome_23
set_option maxRecDepth 100000 in
set_option maxHeartbeats 4000000 in
theorem c_X5_comeBy {l : Launch} {P : Wp} {E : State → Heap → Prop} (hW : Wok shC P E) {o : Nat} {p1 : Int32} {M : Mem} {r : Int32} (ho : shC.1[o]? = some (0, 5)) (h : f_X5_comeBy o p1 M = some r) : CT l shC P E yX5_comeBy bX5_comeBy 4 ((some .int)) 2 43 [.ref (P.2.2.1 o), .int p1] (some (.int r)) M M := by
  refine ct_of hW (by decide) (Nat.le_of_ble_eq_true rfl) (fun p e s m args below meth c C ls hl hw => ?_)
  have hx := C.1
  have hb := C.2.1
  replace hl : lv_has ls 4 [(0, .ref (P.2.2.1 o)), (1, .int p1)] := hl
  have cut_4 : ∀ (n_4 : Nat) (v2_4 : Int32) (v3_4 : Int32) (ls : Array Slot) (H : Heap) (locs : List Loc), lv_has ls 4 [(0, .ref (P.2.2.1 o)), (1, .int p1), (2, .int v2_4), (3, .int v3_4)] → Hw shC P M s H locs → lq2 (L_X5_comeBy_4 o p1 M) n_4 v2_4 v3_4 = some r → W p l e { frames := 2, cells := 0, slots := 0, locals := 43 } s m args below meth c H locs 0 0 (MQ below (CQ shC P E (some (.int r)) M) args s 0 0 (wA shC P)) (F0 m 4 ls []) := by
    intro n_4
    induction n_4 with
    | zero => intro v2_4 v3_4 ls H locs hl hw h; cases h
    | succ n_4 ih_4 =>
      intro v2_4 v3_4 ls H locs hl hw h
      replace h := lq2_succ h
      refine lv_iload_n hx hb dX5_comeBy_4 rfl (lv_at hl 3 rfl) ?_
      refine lv_aload_n hx hb dX5_comeBy_5 rfl (lv_at hl 0 rfl) ?_
      refine wgetI C hw flX5_49 ho dX5_comeBy_6 ?_
      refine lv_icmp_ge (tgt := 33) hx hb dX5_comeBy_9 (by decide) (fun c1 => ?_) (fun c1 => ?_)
      · replace h := (if_pos c1).symm.trans h
        refine lv_iload_n hx hb dX5_comeBy_33 rfl (lv_at hl 2 rfl) ?_
        exact wretI_R C hw h dX5_comeBy_34
      · replace h := (if_neg c1).symm.trans h
        refine lv_aload_n hx hb dX5_comeBy_12 rfl (lv_at hl 0 rfl) ?_
        refine lv_iload_n hx hb dX5_comeBy_13 rfl (lv_at hl 3 rfl) ?_
        refine lv_iload_n hx hb dX5_comeBy_14 rfl (lv_at hl 1 rfl) ?_
        obtain ⟨r2, e3, h⟩ := bnd_some h
        refine wcallV1 (As := [.int v3_4, .int p1]) (rest := []) C hw (c_X5_hasCome hW ho e3) vlX5_73 ⟨Nat.le_of_ble_eq_true rfl, Nat.le_of_ble_eq_true rfl⟩ ho rfl rfl rfl hl.1 (Nat.le_of_ble_eq_true rfl) dX5_comeBy_15 ⟨Nat.zero_le _, Nat.zero_le _⟩ (fun H locs hw => ?_)
        refine lv_if_eq (tgt := 27) hx hb dX5_comeBy_18 (by decide) (fun c4 => ?_) (fun c4 => ?_)
        · replace h := (if_pos c4).symm.trans h
          refine lv_iinc (v := (v3_4 + 1)) (lv' := [(3, .int (v3_4 + 1)), (0, .ref (P.2.2.1 o)), (1, .int p1), (2, .int v2_4)]) (k := 3) hx hb dX5_comeBy_27 hl rfl (congrArg (fun z => v3_4 + z) (by decide)) (by decide) rfl (fun ls hl => ?_)
          refine lv_goto (tgt := 4) hx hb dX5_comeBy_30 (by decide) ?_
          exact ih_4 v2_4 (v3_4 + 1) ls _ _ (lv_sub hl [1, 2, 3, 0] rfl) hw h
        · replace h := (if_neg c4).symm.trans h
          refine lv_iload_n hx hb dX5_comeBy_21 rfl (lv_at hl 2 rfl) ?_
          refine lv_iconst (v := 1) hx hb dX5_comeBy_22 (by decide) ?_
          refine lv_iload_n hx hb dX5_comeBy_23 rfl (lv_at hl 3 rfl) ?_
          refine lv_ishl hx hb dX5_comeBy_24 ?_
          refine lv_ior hx hb dX5_comeBy_25 ?_
          refine lv_topi (fun x5 ex5 => ?_)
          replace h := letv_at ex5 h
          refine lv_istore_n (lv' := [(2, .int x5), (0, .ref (P.2.2.1 o)), (1, .int p1), (3, .int v3_4)]) hx hb dX5_comeBy_26 rfl hl (by decide) rfl (fun ls hl => ?_)
          refine lv_iinc (v := (v3_4 + 1)) (lv' := [(3, .int (v3_4 + 1)), (2, .int x5), (0, .ref (P.2.2.1 o)), (1, .int p1)]) (k := 3) hx hb dX5_comeBy_27 hl rfl (congrArg (fun z => v3_4 + z) (by decide)) (by decide) rfl (fun ls hl => ?_)
          refine lv_goto (tgt := 4) hx hb dX5_comeBy_30 (by decide) ?_
          exact ih_4 x5 (v3_4 + 1) ls _ _ (lv_sub hl [2, 3, 1, 0] rfl) hw h
  refine lv_iconst (v := 0) hx hb dX5_comeBy_0 (by decide) ?_
  refine lv_istore_n (lv' := [(2, .int 0), (0, .ref (P.2.2.1 o)), (1, .int p1)]) hx hb dX5_comeBy_1 rfl hl (by decide) rfl (fun ls hl => ?_)
  refine lv_iconst (v := 0) hx hb dX5_comeBy_2 (by decide) ?_
  refine lv_istore_n (lv' := [(3, .int 0), (2, .int 0), (0, .ref (P.2.2.1 o)), (1, .int p1)]) hx hb dX5_comeBy_3 rfl hl (by decide) rfl (fun ls hl => ?_)
  exact cut_4 FU 0 0 ls _ _ (lv_sub hl [2, 3, 1, 0] rfl) hw h
set_option maxRecDepth 100000 in
set_option maxHeartbeats 4000000 in
theorem c_X5_comingAt {l : Launch} {P : Wp} {E : State → Heap → Prop} (hW : Wok shC P E) {o : Nat} {p1 : Int32} {M : Mem} {r : Int32} (ho : shC.1[o]? = some (0, 5)) (h : f_X5_comingAt o p1 M = some r) : CT l shC P E yX5_comingAt bX5_comingAt 2 ((some .int)) 3 66 [.ref (P.2.2.1 o), .int p1] (some (.int r)) M M := by
  refine ct_of hW (by decide) (Nat.le_of_ble_eq_true rfl) (fun p e s m args below meth c C ls hl hw => ?_)
  have hx := C.1
  have hb := C.2.1
  replace hl : lv_has ls 2 [(0, .ref (P.2.2.1 o)), (1, .int p1)] := hl
  refine lv_aload_n hx hb dX5_comingAt_0 rfl (lv_at hl 0 rfl) ?_
  refine lv_iload_n hx hb dX5_comingAt_1 rfl (lv_at hl 1 rfl) ?_
  obtain ⟨r1, e2, h⟩ := bnd_some h
  refine wcallV1 (As := [.int p1]) (rest := []) C hw (c_X5_comeBy hW ho e2) vlX5_77 ⟨Nat.le_of_ble_eq_true rfl, Nat.le_of_ble_eq_true rfl⟩ ho rfl rfl rfl hl.1 (Nat.le_of_ble_eq_true rfl) dX5_comingAt_2 ⟨Nat.zero_le _, Nat.zero_le _⟩ (fun H locs hw => ?_)
  refine lv_aload_n hx hb dX5_comingAt_5 rfl (lv_at hl 0 rfl) ?_
  refine lv_iload_n hx hb dX5_comingAt_6 rfl (lv_at hl 1 rfl) ?_
  refine lv_iconst (v := 1) hx hb dX5_comingAt_7 (by decide) ?_
  refine lv_isub hx hb dX5_comingAt_8 ?_
  obtain ⟨r3, e4, h⟩ := bnd_some h
  refine wcallV1 (As := [.int (p1 - (1 : Int32))]) (rest := [.int r1]) C hw (c_X5_comeBy hW ho e4) vlX5_77 ⟨Nat.le_of_ble_eq_true rfl, Nat.le_of_ble_eq_true rfl⟩ ho rfl rfl rfl hl.1 (Nat.le_of_ble_eq_true rfl) dX5_comingAt_9 ⟨Nat.zero_le _, Nat.zero_le _⟩ (fun H locs hw => ?_)
  refine lv_iconst (v := (-1)) hx hb dX5_comingAt_12 (by decide) ?_
  refine lv_ixor hx hb dX5_comingAt_13 ?_
  refine lv_iand hx hb dX5_comingAt_14 ?_
  exact wretI_R C hw h dX5_comingAt_15
set_option maxRecDepth 100000 in
set_option maxHeartbeats 4000000 in
theorem c_X5_busySteps {l : Launch} {P : Wp} {E : State → Heap → Prop} (hW : Wok shC P E) {o : Nat} {p1 : Int32} {M : Mem} {r : Int32} (ho : shC.1[o]? = some (0, 5)) (h : f_X5_busySteps o p1 M = some r) : CT l shC P E yX5_busySteps bX5_busySteps 4 ((some .int)) 2 47 [.ref (P.2.2.1 o), .int p1] (some (.int r)) M M := by
  refine ct_of hW (by decide) (Nat.le_of_ble_eq_true rfl) (fun p e s m args below meth c C ls hl hw => ?_)
  have hx := C.1
  have hb := C.2.1
  replace hl : lv_has ls 4 [(0, .ref (P.2.2.1 o)), (1, .int p1)] := hl
  have cut_4 : ∀ (n_4 : Nat) (v2_4 : Int32) (v3_4 : Int32) (ls : Array Slot) (H : Heap) (locs : List Loc), lv_has ls 4 [(0, .ref (P.2.2.1 o)), (1, .int p1), (2, .int v2_4), (3, .int v3_4)] → Hw shC P M s H locs → lq2 (L_X5_busySteps_4 o p1 M) n_4 v2_4 v3_4 = some r → W p l e { frames := 2, cells := 0, slots := 0, locals := 47 } s m args below meth c H locs 0 0 (MQ below (CQ shC P E (some (.int r)) M) args s 0 0 (wA shC P)) (F0 m 4 ls []) := by
    intro n_4
    induction n_4 with
    | zero => intro v2_4 v3_4 ls H locs hl hw h; cases h
    | succ n_4 ih_4 =>
      intro v2_4 v3_4 ls H locs hl hw h
      replace h := lq2_succ h
      refine lv_iload_n hx hb dX5_busySteps_4 rfl (lv_at hl 3 rfl) ?_
      refine lv_aload_n hx hb dX5_busySteps_5 rfl (lv_at hl 0 rfl) ?_
      refine wgetI C hw flX5_31 ho dX5_busySteps_6 ?_
      refine lv_icmp_gt (tgt := 30) hx hb dX5_busySteps_9 (by decide) (fun c1 => ?_) (fun c1 => ?_)
      · replace h := (if_pos c1).symm.trans h
        refine lv_iload_n hx hb dX5_busySteps_30 rfl (lv_at hl 2 rfl) ?_
        exact wretI_R C hw h dX5_busySteps_31
      · replace h := (if_neg c1).symm.trans h
        refine lv_aload_n hx hb dX5_busySteps_12 rfl (lv_at hl 0 rfl) ?_
        refine lv_iload_n hx hb dX5_busySteps_13 rfl (lv_at hl 1 rfl) ?_
        refine lv_iload_n hx hb dX5_busySteps_14 rfl (lv_at hl 3 rfl) ?_
        obtain ⟨r2, e3, h⟩ := bnd_some h
        refine wcallV1 (As := [.int p1, .int v3_4]) (rest := []) C hw (c_X5_piecesAt hW ho e3) vlX5_81 ⟨Nat.le_of_ble_eq_true rfl, Nat.le_of_ble_eq_true rfl⟩ ho rfl rfl rfl hl.1 (Nat.le_of_ble_eq_true rfl) dX5_busySteps_15 ⟨Nat.zero_le _, Nat.zero_le _⟩ (fun H locs hw => ?_)
        refine lv_if_eq (tgt := 24) hx hb dX5_busySteps_18 (by decide) (fun c4 => ?_) (fun c4 => ?_)
        · replace h := (if_pos c4).symm.trans h
          refine lv_iinc (v := (v3_4 + 1)) (lv' := [(3, .int (v3_4 + 1)), (0, .ref (P.2.2.1 o)), (1, .int p1), (2, .int v2_4)]) (k := 3) hx hb dX5_busySteps_24 hl rfl (congrArg (fun z => v3_4 + z) (by decide)) (by decide) rfl (fun ls hl => ?_)
          refine lv_goto (tgt := 4) hx hb dX5_busySteps_27 (by decide) ?_
          exact ih_4 v2_4 (v3_4 + 1) ls _ _ (lv_sub hl [1, 2, 3, 0] rfl) hw h
        · replace h := (if_neg c4).symm.trans h
          refine lv_iinc (v := (v2_4 + 1)) (lv' := [(2, .int (v2_4 + 1)), (0, .ref (P.2.2.1 o)), (1, .int p1), (3, .int v3_4)]) (k := 2) hx hb dX5_busySteps_21 hl rfl (congrArg (fun z => v2_4 + z) (by decide)) (by decide) rfl (fun ls hl => ?_)
          refine lv_iinc (v := (v3_4 + 1)) (lv' := [(3, .int (v3_4 + 1)), (2, .int (v2_4 + 1)), (0, .ref (P.2.2.1 o)), (1, .int p1)]) (k := 3) hx hb dX5_busySteps_24 hl rfl (congrArg (fun z => v3_4 + z) (by decide)) (by decide) rfl (fun ls hl => ?_)
          refine lv_goto (tgt := 4) hx hb dX5_busySteps_27 (by decide) ?_
          exact ih_4 (v2_4 + 1) (v3_4 + 1) ls _ _ (lv_sub hl [2, 3, 1, 0] rfl) hw h
  refine lv_iconst (v := 0) hx hb dX5_busySteps_0 (by decide) ?_
  refine lv_istore_n (lv' := [(2, .int 0), (0, .ref (P.2.2.1 o)), (1, .int p1)]) hx hb dX5_busySteps_1 rfl hl (by decide) rfl (fun ls hl => ?_)
  refine lv_iconst (v := 0) hx hb dX5_busySteps_2 (by decide) ?_
  refine lv_istore_n (lv' := [(3, .int 0), (2, .int 0), (0, .ref (P.2.2.1 o)), (1, .int p1)]) hx hb dX5_busySteps_3 rfl hl (by decide) rfl (fun ls hl => ?_)
  exact cut_4 FU 0 0 ls _ _ (lv_sub hl [2, 3, 1, 0] rfl) hw h
set_option maxRecDepth 100000 in
set_option maxHeartbeats 4000000 in
theorem c_X5_changeOver {l : Launch} {P : Wp} {E : State → Heap → Prop} (hW : Wok shC P E) {o : Nat} {p1 : Int32} {p2 : Int32} {M : Mem} {M' : Mem} (ho : shC.1[o]? = some (0, 5)) (h : f_X5_changeOver o p1 p2 M = some M') : CT l shC P E yX5_changeOver bX5_changeOver 4 (none) 1 21 [.ref (P.2.2.1 o), .int p1, .int p2] none M M' := by
  refine ct_of hW (by decide) (Nat.le_of_ble_eq_true rfl) (fun p e s m args below meth c C ls hl hw => ?_)
  have hx := C.1
  have hb := C.2.1
  replace hl : lv_has ls 4 [(0, .ref (P.2.2.1 o)), (1, .int p1), (2, .int p2)] := hl
  refine lv_aload_n hx hb dX5_changeOver_0 rfl (lv_at hl 0 rfl) ?_
  refine lv_iload_n hx hb dX5_changeOver_1 rfl (lv_at hl 1 rfl) ?_
  refine wcallV1 (As := [.int p1]) (rest := []) C hw (c_X5_hasZone hW ho rfl) vlX5_84 ⟨Nat.le_of_ble_eq_true rfl, Nat.le_of_ble_eq_true rfl⟩ ho rfl rfl rfl hl.1 (Nat.le_of_ble_eq_true rfl) dX5_changeOver_2 ⟨Nat.zero_le _, Nat.zero_le _⟩ (fun H locs hw => ?_)
  refine lv_if_eq (tgt := 42) hx hb dX5_changeOver_5 (by decide) (fun c1 => ?_) (fun c1 => ?_)
  · replace h := (if_pos c1).symm.trans h
    exact wretV_W C hw h dX5_changeOver_42
  · replace h := (if_neg c1).symm.trans h
    refine lv_aload_n hx hb dX5_changeOver_8 rfl (lv_at hl 0 rfl) ?_
    refine lv_iload_n hx hb dX5_changeOver_9 rfl (lv_at hl 2 rfl) ?_
    refine wcallV1 (As := [.int p2]) (rest := []) C hw (c_X5_hasZone hW ho rfl) vlX5_84 ⟨Nat.le_of_ble_eq_true rfl, Nat.le_of_ble_eq_true rfl⟩ ho rfl rfl rfl hl.1 (Nat.le_of_ble_eq_true rfl) dX5_changeOver_10 ⟨Nat.zero_le _, Nat.zero_le _⟩ (fun H locs hw => ?_)
    refine lv_if_eq (tgt := 42) hx hb dX5_changeOver_13 (by decide) (fun c2 => ?_) (fun c2 => ?_)
    · replace h := (if_pos c2).symm.trans h
      exact wretV_W C hw h dX5_changeOver_42
    · replace h := (if_neg c2).symm.trans h
      refine lv_aload_n hx hb dX5_changeOver_16 rfl (lv_at hl 0 rfl) ?_
      refine wgetR (t := (rC o 8)) C hw flX5_9 ho rfl dX5_changeOver_17 ?_
      refine lv_iload_n hx hb dX5_changeOver_20 rfl (lv_at hl 1 rfl) ?_
      obtain ⟨g3, h⟩ := grd h
      refine wald C hw (refC (k := 8) ho rfl : _ = some (1, 7)) g3 dX5_changeOver_21 ?_
      refine lv_topi (fun x4 ex4 => ?_)
      replace h := letv_at ex4 h
      refine lv_istore_n (lv' := [(3, .int x4), (0, .ref (P.2.2.1 o)), (1, .int p1), (2, .int p2)]) hx hb dX5_changeOver_22 rfl hl (by decide) rfl (fun ls hl => ?_)
      refine lv_aload_n hx hb dX5_changeOver_23 rfl (lv_at hl 1 rfl) ?_
      refine wgetR (t := (rC o 8)) C hw flX5_9 ho rfl dX5_changeOver_24 ?_
      refine lv_iload_n hx hb dX5_changeOver_27 rfl (lv_at hl 2 rfl) ?_
      refine lv_aload_n hx hb dX5_changeOver_28 rfl (lv_at hl 1 rfl) ?_
      refine wgetR (t := (rC o 8)) C hw flX5_9 ho rfl dX5_changeOver_29 ?_
      refine lv_iload_n hx hb dX5_changeOver_32 rfl (lv_at hl 3 rfl) ?_
      obtain ⟨g5, h⟩ := grd h
      refine wald C hw (refC (k := 8) ho rfl : _ = some (1, 7)) g5 dX5_changeOver_33 ?_
      obtain ⟨g7, h⟩ := grd h
      refine wast C hw (refC (k := 8) ho rfl : _ = some (1, 7)) g7 dX5_changeOver_34 (fun M6 eM6 H locs hw => ?_)
      replace h := letv_at eM6 h
      refine lv_aload_n hx hb dX5_changeOver_35 rfl (lv_at hl 1 rfl) ?_
      refine wgetR (t := (rC o 8)) C hw flX5_9 ho rfl dX5_changeOver_36 ?_
      refine lv_iload_n hx hb dX5_changeOver_39 rfl (lv_at hl 3 rfl) ?_
      refine lv_iload_n hx hb dX5_changeOver_40 rfl (lv_at hl 0 rfl) ?_
      obtain ⟨g9, h⟩ := grd h
      refine wast C hw (refC (k := 8) ho rfl : _ = some (1, 7)) g9 dX5_changeOver_41 (fun M8 eM8 H locs hw => ?_)
      replace h := letv_at eM8 h
      exact wretV_W C hw h dX5_changeOver_42
set_option maxRecDepth 100000 in
set_option maxHeartbeats 4000000 in
theorem c_X5_leaveOut {l : Launch} {P : Wp} {E : State → Heap → Prop} (hW : Wok shC P E) {o : Nat} {p1 : Int32} {M : Mem} {M' : Mem} (ho : shC.1[o]? = some (0, 5)) (h : f_X5_leaveOut o p1 M = some M') : CT l shC P E yX5_leaveOut bX5_leaveOut 2 (none) 1 64 [.ref (P.2.2.1 o), .int p1] none M M' := by
  refine ct_of hW (by decide) (Nat.le_of_ble_eq_true rfl) (fun p e s m args below meth c C ls hl hw => ?_)
  have hx := C.1
  have hb := C.2.1
  replace hl : lv_has ls 2 [(0, .ref (P.2.2.1 o)), (1, .int p1)] := hl
  refine lv_aload_n hx hb dX5_leaveOut_0 rfl (lv_at hl 0 rfl) ?_
  refine lv_iload_n hx hb dX5_leaveOut_1 rfl (lv_at hl 1 rfl) ?_
  refine wcallV1 (As := [.int p1]) (rest := []) C hw (c_X5_hasZone hW ho rfl) vlX5_84 ⟨Nat.le_of_ble_eq_true rfl, Nat.le_of_ble_eq_true rfl⟩ ho rfl rfl rfl hl.1 (Nat.le_of_ble_eq_true rfl) dX5_leaveOut_2 ⟨Nat.zero_le _, Nat.zero_le _⟩ (fun H locs hw => ?_)
  refine lv_if_eq (tgt := 37) hx hb dX5_leaveOut_5 (by decide) (fun c1 => ?_) (fun c1 => ?_)
  · replace h := (if_pos c1).symm.trans h
    exact wretV_W C hw h dX5_leaveOut_37
  · replace h := (if_neg c1).symm.trans h
    refine lv_aload_n hx hb dX5_leaveOut_8 rfl (lv_at hl 0 rfl) ?_
    refine wgetR (t := (rC o 8)) C hw flX5_9 ho rfl dX5_leaveOut_9 ?_
    refine lv_iload_n hx hb dX5_leaveOut_12 rfl (lv_at hl 1 rfl) ?_
    refine lv_iconst (v := 1) hx hb dX5_leaveOut_13 (by decide) ?_
    refine lv_iadd hx hb dX5_leaveOut_14 ?_
    refine lv_aload_n hx hb dX5_leaveOut_15 rfl (lv_at hl 0 rfl) ?_
    refine wgetR (t := (rC o 8)) C hw flX5_9 ho rfl dX5_leaveOut_16 ?_
    refine lv_iload_n hx hb dX5_leaveOut_19 rfl (lv_at hl 1 rfl) ?_
    refine lv_bipush (v := 6) hx hb dX5_leaveOut_20 (by decide) ?_
    refine lv_iload_n hx hb dX5_leaveOut_22 rfl (lv_at hl 1 rfl) ?_
    refine lv_isub hx hb dX5_leaveOut_23 ?_
    obtain ⟨g3, h⟩ := grd h
    obtain ⟨g4, h⟩ := grd h
    refine wcopyI C hw (refC (k := 8) ho rfl : _ = some (1, 7)) (refC (k := 8) ho rfl : _ = some (1, 7)) alX5_52 g3 g4 hl.1 (Nat.le_of_ble_eq_true rfl) (Nat.le_of_ble_eq_true rfl) dX5_leaveOut_24 (fun M2 eM2 H locs hw => ?_)
    replace h := letv_at eM2 h
    refine lv_aload_n hx hb dX5_leaveOut_27 rfl (lv_at hl 0 rfl) ?_
    refine lv_dup hx hb dX5_leaveOut_28 rfl ?_
    refine wgetI C hw flX5_46 ho dX5_leaveOut_29 ?_
    refine lv_iconst (v := 1) hx hb dX5_leaveOut_32 (by decide) ?_
    refine lv_isub hx hb dX5_leaveOut_33 ?_
    refine wputI C hw fpX5_46 ho dX5_leaveOut_34 (fun M5 eM5 H locs hw => ?_)
    replace h := letv_at eM5 h
    exact wretV_W C hw h dX5_leaveOut_37
