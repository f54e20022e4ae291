theorem flX2_15 : FL "LehrBelt$Course" 15 2 4 2 := ⟨(RX2, TX2, 10), rfl, inX2, by decide, List.mem_of_getElem? (i := 332) (by decide +kernel), rfl⟩
theorem flX2_43 : FL "LehrBelt$Course" 43 2 1 2 := ⟨(RX2, TX2, 10), rfl, inX2, by decide, List.mem_of_getElem? (i := 329) (by decide +kernel), rfl⟩
theorem flX2_76 : FL "LehrBelt$Course" 76 5 9 2 := ⟨(RX5, TX5, 13), rfl, inX5, by decide, List.mem_of_getElem? (i := 229) (by decide +kernel), rfl⟩
theorem flX2_18 : FL "LehrBelt$Course" 18 2 5 2 := ⟨(RX2, TX2, 10), rfl, inX2, by decide, List.mem_of_getElem? (i := 333) (by decide +kernel), rfl⟩
theorem flX2_21 : FL "LehrBelt$Course" 21 2 6 2 := ⟨(RX2, TX2, 10), rfl, inX2, by decide, List.mem_of_getElem? (i := 334) (by decide +kernel), rfl⟩
theorem flX2_24 : FL "LehrBelt$Course" 24 2 7 2 := ⟨(RX2, TX2, 10), rfl, inX2, by decide, List.mem_of_getElem? (i := 336) (by decide +kernel), rfl⟩
theorem flX2_27 : FL "LehrBelt$Course" 27 2 8 2 := ⟨(RX2, TX2, 10), rfl, inX2, by decide, List.mem_of_getElem? (i := 338) (by decide +kernel), rfl⟩
theorem flX2_30 : FL "LehrBelt$Course" 30 2 9 2 := ⟨(RX2, TX2, 10), rfl, inX2, by decide, List.mem_of_getElem? (i := 341) (by decide +kernel), rfl⟩
theorem flX2_9 : FL "LehrBelt$Course" 9 2 3 2 := ⟨(RX2, TX2, 10), rfl, inX2, by decide, List.mem_of_getElem? (i := 331) (by decide +kernel), rfl⟩
theorem vlX2_79 : VL "LehrBelt$Course" 79 yX5_placeAt bX5_placeAt 4 ((some .int)) 2 := ⟨List.mem_of_getElem? (i := 735) (by decide +kernel), List.mem_of_getElem? (i := 689) (by decide +kernel), List.mem_of_getElem? (i := 690) (by decide +kernel), List.mem_of_getElem? (i := 107) (by decide +kernel), List.mem_of_getElem? (i := 691) (by decide +kernel), by decide +kernel, by decide +kernel, by decide +kernel⟩
theorem flX2_66 : FL "LehrBelt$Course" 66 5 7 0 := ⟨(RX5, TX5, 13), rfl, inX5, by decide, List.mem_of_getElem? (i := 219) (by decide +kernel), rfl⟩
theorem flX2_55 : FL "LehrBelt$Course" 55 5 2 0 := ⟨(RX5, TX5, 13), rfl, inX5, by decide, List.mem_of_getElem? (i := 197) (by decide +kernel), rfl⟩
theorem mlX2_60 : ML "LehrBelt$Course" 60 Lib.Math.min.name Lib.Math.min.code 2 (some .int) := ⟨List.mem_of_getElem? (i := 730) (by decide +kernel), List.mem_of_getElem? (i := 607) (by decide +kernel), List.mem_of_getElem? (i := 120) (by decide +kernel), List.mem_of_getElem? (i := 608) (by decide +kernel)⟩
theorem mlX2_100 : ML "LehrBelt$Course" 100 Lib.Math.max.name Lib.Math.max.code 2 (some .int) := ⟨List.mem_of_getElem? (i := 749) (by decide +kernel), List.mem_of_getElem? (i := 682) (by decide +kernel), List.mem_of_getElem? (i := 120) (by decide +kernel), List.mem_of_getElem? (i := 683) (by decide +kernel)⟩
theorem mlX2_103 : ML "LehrBelt$Course" 103 Lib.Math.abs.name Lib.Math.abs.code 1 (some .int) := ⟨List.mem_of_getElem? (i := 754) (by decide +kernel), List.mem_of_getElem? (i := 755) (by decide +kernel), List.mem_of_getElem? (i := 120) (by decide +kernel), List.mem_of_getElem? (i := 756) (by decide +kernel)⟩
theorem flX2_106 : FL "LehrBelt$Course" 106 5 5 0 := ⟨(RX5, TX5, 13), rfl, inX5, by decide, List.mem_of_getElem? (i := 211) (by decide +kernel), rfl⟩
theorem flX2_109 : FL "LehrBelt$Course" 109 5 11 2 := ⟨(RX5, TX5, 13), rfl, inX5, by decide, List.mem_of_getElem? (i := 240) (by decide +kernel), rfl⟩
theorem flX2_82 : FL "LehrBelt$Course" 82 5 10 2 := ⟨(RX5, TX5, 13), rfl, inX5, by decide, List.mem_of_getElem? (i := 233) (by decide +kernel), rfl⟩
theorem flX2_33 : FL "LehrBelt$Course" 33 2 0 2 := ⟨(RX2, TX2, 10), rfl, inX2, by decide, List.mem_of_getElem? (i := 328) (by decide +kernel), rfl⟩
theorem flX2_54 : FL "LehrBelt$Course" 54 2 2 0 := ⟨(RX2, TX2, 10), rfl, inX2, by decide, List.mem_of_getElem? (i := 330) (by decide +kernel), rfl⟩
theorem vlX2_85 : VL "LehrBelt$Course" 85 yX1_airAt bX1_airAt 6 ((some .int)) 3 := ⟨List.mem_of_getElem? (i := 740) (by decide +kernel), List.mem_of_getElem? (i := 678) (by decide +kernel), List.mem_of_getElem? (i := 679) (by decide +kernel), List.mem_of_getElem? (i := 108) (by decide +kernel), List.mem_of_getElem? (i := 680) (by decide +kernel), by decide +kernel, by decide +kernel, by decide +kernel⟩
theorem vlX2_93 : VL "LehrBelt$Course" 93 yX2_warmingBy bX2_warmingBy 2 ((some .int)) 1 := ⟨List.mem_of_getElem? (i := 745) (by decide +kernel), List.mem_of_getElem? (i := 747) (by decide +kernel), List.mem_of_getElem? (i := 16) (by decide +kernel), List.mem_of_getElem? (i := 110) (by decide +kernel), List.mem_of_getElem? (i := 748) (by decide +kernel), by decide +kernel, by decide +kernel, by decide +kernel⟩
theorem vlX2_97 : VL "LehrBelt$Course" 97 yX2_setAndCrack bX2_setAndCrack 5 (none) 2 := ⟨List.mem_of_getElem? (i := 750) (by decide +kernel), List.mem_of_getElem? (i := 752) (by decide +kernel), List.mem_of_getElem? (i := 17) (by decide +kernel), List.mem_of_getElem? (i := 110) (by decide +kernel), List.mem_of_getElem? (i := 753) (by decide +kernel), by decide +kernel, by decide +kernel, by decide +kernel⟩
theorem vlX2_89 : VL "LehrBelt$Course" 89 yX2_meanAround bX2_meanAround 9 ((some .int)) 4 := ⟨List.mem_of_getElem? (i := 741) (by decide +kernel), List.mem_of_getElem? (i := 743) (by decide +kernel), List.mem_of_getElem? (i := 15) (by decide +kernel), List.mem_of_getElem? (i := 110) (by decide +kernel), List.mem_of_getElem? (i := 744) (by decide +kernel), by decide +kernel, by decide +kernel, by decide +kernel⟩
theorem flX2_44 : FL "LehrBelt$Course" 44 1 1 2 := ⟨(RX1, TX1, 2), rfl, inX1, by decide, List.mem_of_getElem? (i := 315) (by decide +kernel), rfl⟩
theorem flX2_48 : FL "LehrBelt$Course" 48 0 1 0 := ⟨(RX0, TX0, 6), rfl, inX0, by decide, List.mem_of_getElem? (i := 289) (by decide +kernel), rfl⟩
theorem fpX2_54 : FP "LehrBelt$Course" 54 2 2 0 .int := ⟨(RX2, TX2, 10), rfl, inX2, by decide, List.mem_of_getElem? (i := 330) (by decide +kernel), rfl, ⟨tyX2, tyX2_ok⟩, nmX2, rfl, by decide +kernel⟩
theorem vlX2_73 : VL "LehrBelt$Course" 73 yX2_advance bX2_advance 7 (none) 2 := ⟨List.mem_of_getElem? (i := 736) (by decide +kernel), List.mem_of_getElem? (i := 738) (by decide +kernel), List.mem_of_getElem? (i := 14) (by decide +kernel), List.mem_of_getElem? (i := 110) (by decide +kernel), List.mem_of_getElem? (i := 739) (by decide +kernel), by decide +kernel, by decide +kernel, by decide +kernel⟩
theorem vlX2_69 : VL "LehrBelt$Course" 69 yX2_begin bX2_begin 5 (none) 2 := ⟨List.mem_of_getElem? (i := 731) (by decide +kernel), List.mem_of_getElem? (i := 733) (by decide +kernel), List.mem_of_getElem? (i := 13) (by decide +kernel), List.mem_of_getElem? (i := 110) (by decide +kernel), List.mem_of_getElem? (i := 734) (by decide +kernel), by decide +kernel, by decide +kernel, by decide +kernel⟩
theorem vlX2_112 : VL "LehrBelt$Course" 112 yX5_hasPiece bX5_hasPiece 2 ((some .boolean)) 1 := ⟨List.mem_of_getElem? (i := 761) (by decide +kernel), List.mem_of_getElem? (i := 662) (by decide +kernel), List.mem_of_getElem? (i := 663) (by decide +kernel), List.mem_of_getElem? (i := 107) (by decide +kernel), List.mem_of_getElem? (i := 664) (by decide +kernel), by decide +kernel, by decide +kernel, by decide +kernel⟩
theorem vlX2_116 : VL "LehrBelt$Course" 116 yX2_valueAt bX2_valueAt 5 ((some .int)) 3 := ⟨List.mem_of_getElem? (i := 786) (by decide +kernel), List.mem_of_getElem? (i := 758) (by decide +kernel), List.mem_of_getElem? (i := 759) (by decide +kernel), List.mem_of_getElem? (i := 110) (by decide +kernel), List.mem_of_getElem? (i := 760) (by decide +kernel), by decide +kernel, by decide +kernel, by decide +kernel⟩
theorem vlX2_119 : VL "LehrBelt$Course" 119 yX2_skinAt bX2_skinAt 3 ((some .int)) 2 := ⟨List.mem_of_getElem? (i := 859) (by decide +kernel), List.mem_of_getElem? (i := 860) (by decide +kernel), List.mem_of_getElem? (i := 861) (by decide +kernel), List.mem_of_getElem? (i := 110) (by decide +kernel), List.mem_of_getElem? (i := 862) (by decide +kernel), by decide +kernel, by decide +kernel, by decide +kernel⟩
theorem flX2_122 : FL "LehrBelt$Course" 122 5 1 0 := ⟨(RX5, TX5, 13), rfl, inX5, by decide, List.mem_of_getElem? (i := 194) (by decide +kernel), rfl⟩
theorem vlX2_125 : VL "LehrBelt$Course" 125 yX2_strainAt bX2_strainAt 3 ((some .int)) 2 := ⟨List.mem_of_getElem? (i := 782) (by decide +kernel), List.mem_of_getElem? (i := 783) (by decide +kernel), List.mem_of_getElem? (i := 784) (by decide +kernel), List.mem_of_getElem? (i := 110) (by decide +kernel), List.mem_of_getElem? (i := 785) (by decide +kernel), by decide +kernel, by decide +kernel, by decide +kernel⟩
theorem vlX2_128 : VL "LehrBelt$Course" 128 yX2_peakStepOf bX2_peakStepOf 4 ((some .int)) 1 := ⟨List.mem_of_getElem? (i := 778) (by decide +kernel), List.mem_of_getElem? (i := 779) (by decide +kernel), List.mem_of_getElem? (i := 780) (by decide +kernel), List.mem_of_getElem? (i := 110) (by decide +kernel), List.mem_of_getElem? (i := 781) (by decide +kernel), by decide +kernel, by decide +kernel, by decide +kernel⟩
theorem vlX2_131 : VL "LehrBelt$Course" 131 yX2_uncrackedAt bX2_uncrackedAt 4 ((some .int)) 1 := ⟨List.mem_of_getElem? (i := 833) (by decide +kernel), List.mem_of_getElem? (i := 821) (by decide +kernel), List.mem_of_getElem? (i := 822) (by decide +kernel), List.mem_of_getElem? (i := 110) (by decide +kernel), List.mem_of_getElem? (i := 823) (by decide +kernel), by decide +kernel, by decide +kernel, by decide +kernel⟩
theorem vlX2_134 : VL "LehrBelt$Course" 134 yX5_hasCome bX5_hasCome 3 ((some .boolean)) 2 := ⟨List.mem_of_getElem? (i := 846) (by decide +kernel), List.mem_of_getElem? (i := 817) (by decide +kernel), List.mem_of_getElem? (i := 818) (by decide +kernel), List.mem_of_getElem? (i := 107) (by decide +kernel), List.mem_of_getElem? (i := 819) (by decide +kernel), by decide +kernel, by decide +kernel, by decide +kernel⟩
theorem vlX2_138 : VL "LehrBelt$Course" 138 yX2_mostOf bX2_mostOf 5 ((some .int)) 2 := ⟨List.mem_of_getElem? (i := 1002) (by decide +kernel), List.mem_of_getElem? (i := 843) (by decide +kernel), List.mem_of_getElem? (i := 844) (by decide +kernel), List.mem_of_getElem? (i := 110) (by decide +kernel), List.mem_of_getElem? (i := 845) (by decide +kernel), by decide +kernel, by decide +kernel, by decide +kernel⟩
theorem vlX2_141 : VL "LehrBelt$Course" 141 yX2_crackingAt bX2_crackingAt 2 ((some .int)) 1 := ⟨List.mem_of_getElem? (i := 871) (by decide +kernel), List.mem_of_getElem? (i := 872) (by decide +kernel), List.mem_of_getElem? (i := 873) (by decide +kernel), List.mem_of_getElem? (i := 110) (by decide +kernel), List.mem_of_getElem? (i := 874) (by decide +kernel), by decide +kernel, by decide +kernel, by decide +kernel⟩
theorem slX2_144 : SL "LehrBelt$Course" 144 yJ6_bitCount_0f7a4 bJ6_bitCount_0f7a4 1 ((some .int)) 1 := ⟨List.mem_of_getElem? (i := 875) (by decide +kernel), List.mem_of_getElem? (i := 876) (by decide +kernel), List.mem_of_getElem? (i := 123) (by decide +kernel), List.mem_of_getElem? (i := 877) (by decide +kernel), by decide +kernel, by decide +kernel, by decide +kernel⟩
theorem flX2_149 : FL "LehrBelt$Course" 149 5 6 0 := ⟨(RX5, TX5, 13), rfl, inX5, by decide, List.mem_of_getElem? (i := 216) (by decide +kernel), rfl⟩
theorem vlX2_152 : VL "LehrBelt$Course" 152 yX2_crackingIn bX2_crackingIn 4 ((some .int)) 1 := ⟨List.mem_of_getElem? (i := 889) (by decide +kernel), List.mem_of_getElem? (i := 891) (by decide +kernel), List.mem_of_getElem? (i := 18) (by decide +kernel), List.mem_of_getElem? (i := 110) (by decide +kernel), List.mem_of_getElem? (i := 892) (by decide +kernel), by decide +kernel, by decide +kernel, by decide +kernel⟩
theorem vlX2_155 : VL "LehrBelt$Course" 155 yX2_skinFall bX2_skinFall 3 ((some .int)) 2 := ⟨List.mem_of_getElem? (i := 909) (by decide +kernel), List.mem_of_getElem? (i := 910) (by decide +kernel), List.mem_of_getElem? (i := 911) (by decide +kernel), List.mem_of_getElem? (i := 110) (by decide +kernel), List.mem_of_getElem? (i := 912) (by decide +kernel), by decide +kernel, by decide +kernel, by decide +kernel⟩
set_option maxRecDepth 100000 in
set_option maxHeartbeats 4000000 in
theorem c_X2_begin {l : Launch} {P : Wp} {E : State → Heap → Prop} (hW : Wok shC P E) {o : Nat} {p1 : Int32} {p2 : Int32} {M : Mem} {M' : Mem} (ho : shC.1[o]? = some (0, 2)) (h : f_X2_begin o p1 p2 M = some M') : CT l shC P E yX2_begin bX2_begin 5 (none) 1 23 [.ref (P.2.2.1 o), .int p1, .int p2] none M M' := by
  refine ct_of hW (by decide) (Nat.le_of_ble_eq_true rfl) (fun p e s m args below meth c C ls hl hw => ?_)
  have hx := C.1
  have hb := C.2.1
  replace hl : lv_has ls 5 [(0, .ref (P.2.2.1 o)), (1, .int p1), (2, .int p2)] := hl
  have cut_66 : ∀ (v3_66 : Int32) (n_66 : Nat) (v4_66 : Int32) (M_66 : Mem) (ls : Array Slot) (H : Heap) (locs : List Loc), lv_has ls 5 [(0, .ref (P.2.2.1 o)), (1, .int p1), (2, .int p2), (3, .int v3_66), (4, .int v4_66)] → Hw shC P M_66 s H locs → lq2 (L_X2_begin_66 o p1 p2 v3_66) n_66 v4_66 M_66 = some M' → W p l e { frames := 1, cells := 0, slots := 0, locals := 23 } s m args below meth c H locs 0 0 (MQ below (CQ shC P E none M') args s 0 0 (wA shC P)) (F0 m 66 ls []) := by
    intro v3_66 n_66
    induction n_66 with
    | zero => intro v4_66 M_66 ls H locs hl hw h; cases h
    | succ n_66 ih_66 =>
      intro v4_66 M_66 ls H locs hl hw h
      replace h := lq2_succ h
      refine lv_iload hx hb dX2_begin_66 (lv_at hl 4 rfl) ?_
      refine lv_iload_n hx hb dX2_begin_68 rfl (lv_at hl 2 rfl) ?_
      refine lv_icmp_gt (tgt := 97) hx hb dX2_begin_69 (by decide) (fun c16 => ?_) (fun c16 => ?_)
      · replace h := (if_pos c16).symm.trans h
        exact wretV_W C hw h dX2_begin_97
      · replace h := (if_neg c16).symm.trans h
        refine lv_aload_n hx hb dX2_begin_72 rfl (lv_at hl 0 rfl) ?_
        refine wgetR (t := (rC o 3)) C hw flX2_9 ho rfl dX2_begin_73 ?_
        refine lv_iload_n hx hb dX2_begin_76 rfl (lv_at hl 3 rfl) ?_
        refine lv_iload hx hb dX2_begin_77 (lv_at hl 4 rfl) ?_
        refine lv_iadd hx hb dX2_begin_79 ?_
        refine lv_aload_n hx hb dX2_begin_80 rfl (lv_at hl 0 rfl) ?_
        refine wgetR (t := (rC o 1)) C hw flX2_43 ho rfl dX2_begin_81 ?_
        refine lv_iload_n hx hb dX2_begin_84 rfl (lv_at hl 1 rfl) ?_
        refine lv_iload hx hb dX2_begin_85 (lv_at hl 4 rfl) ?_
        obtain ⟨r17, e18, h⟩ := bnd_some h
        refine wcallV1 (As := [.int p1, .int v4_66]) (rest := [.int (v3_66 + v4_66), .ref (P.2.2.1 (rC o 3))]) C hw (c_X5_placeAt hW (refC (k := 1) ho rfl : _ = some (0, 5)) e18) vlX2_79 ⟨Nat.le_of_ble_eq_true rfl, Nat.le_of_ble_eq_true rfl⟩ (refC (k := 1) ho rfl : _ = some (0, 5)) rfl rfl rfl hl.1 (Nat.le_of_ble_eq_true rfl) dX2_begin_87 ⟨Nat.zero_le _, Nat.zero_le _⟩ (fun H locs hw => ?_)
        obtain ⟨g20, h⟩ := grd h
        refine wast C hw (refC (k := 3) ho rfl : _ = some (1, 90)) g20 dX2_begin_90 (fun M19 eM19 H locs hw => ?_)
        replace h := letv_at eM19 h
        refine lv_iinc (v := (v4_66 + 1)) (lv' := [(4, .int (v4_66 + 1)), (0, .ref (P.2.2.1 o)), (1, .int p1), (2, .int p2), (3, .int v3_66)]) (k := 4) hx hb dX2_begin_91 hl rfl (congrArg (fun z => v4_66 + z) (by decide)) (by decide) rfl (fun ls hl => ?_)
        refine lv_goto (tgt := 66) hx hb dX2_begin_94 (by decide) ?_
        exact ih_66 (v4_66 + 1) M19 ls _ _ (lv_sub hl [1, 2, 3, 4, 0] rfl) hw h
  refine lv_iload_n hx hb dX2_begin_0 rfl (lv_at hl 1 rfl) ?_
  refine lv_bipush (v := 15) hx hb dX2_begin_1 (by decide) ?_
  refine lv_imul hx hb dX2_begin_3 ?_
  refine lv_topi (fun x1 ex1 => ?_)
  replace h := letv_at ex1 h
  refine lv_istore_n (lv' := [(3, .int x1), (0, .ref (P.2.2.1 o)), (1, .int p1), (2, .int p2)]) hx hb dX2_begin_4 rfl hl (by decide) rfl (fun ls hl => ?_)
  refine lv_aload_n hx hb dX2_begin_5 rfl (lv_at hl 1 rfl) ?_
  refine wgetR (t := (rC o 4)) C hw flX2_15 ho rfl dX2_begin_6 ?_
  refine lv_iload_n hx hb dX2_begin_9 rfl (lv_at hl 0 rfl) ?_
  refine lv_aload_n hx hb dX2_begin_10 rfl (lv_at hl 1 rfl) ?_
  refine wgetR (t := (rC o 1)) C hw flX2_43 ho rfl dX2_begin_11 ?_
  refine wgetR (t := (rC (rC o 1) 9)) C hw flX2_76 (refC (k := 1) ho rfl : _ = some (0, 5)) rfl dX2_begin_14 ?_
  refine lv_iload_n hx hb dX2_begin_17 rfl (lv_at hl 2 rfl) ?_
  obtain ⟨g2, h⟩ := grd h
  refine wald C hw (refC (k := 9) (refC (k := 1) ho rfl : _ = some (0, 5)) rfl : _ = some (1, 6)) g2 dX2_begin_18 ?_
  obtain ⟨g4, h⟩ := grd h
  refine wast C hw (refC (k := 4) ho rfl : _ = some (1, 90)) g4 dX2_begin_19 (fun M3 eM3 H locs hw => ?_)
  replace h := letv_at eM3 h
  refine lv_aload_n hx hb dX2_begin_20 rfl (lv_at hl 1 rfl) ?_
  refine wgetR (t := (rC o 5)) C hw flX2_18 ho rfl dX2_begin_21 ?_
  refine lv_iload_n hx hb dX2_begin_24 rfl (lv_at hl 0 rfl) ?_
  refine lv_aload_n hx hb dX2_begin_25 rfl (lv_at hl 1 rfl) ?_
  refine wgetR (t := (rC o 1)) C hw flX2_43 ho rfl dX2_begin_26 ?_
  refine wgetR (t := (rC (rC o 1) 9)) C hw flX2_76 (refC (k := 1) ho rfl : _ = some (0, 5)) rfl dX2_begin_29 ?_
  refine lv_iload_n hx hb dX2_begin_32 rfl (lv_at hl 2 rfl) ?_
  obtain ⟨g5, h⟩ := grd h
  refine wald C hw (refC (k := 9) (refC (k := 1) ho rfl : _ = some (0, 5)) rfl : _ = some (1, 6)) g5 dX2_begin_33 ?_
  obtain ⟨g7, h⟩ := grd h
  refine wast C hw (refC (k := 5) ho rfl : _ = some (1, 90)) g7 dX2_begin_34 (fun M6 eM6 H locs hw => ?_)
  replace h := letv_at eM6 h
  refine lv_aload_n hx hb dX2_begin_35 rfl (lv_at hl 1 rfl) ?_
  refine wgetR (t := (rC o 6)) C hw flX2_21 ho rfl dX2_begin_36 ?_
  refine lv_iload_n hx hb dX2_begin_39 rfl (lv_at hl 2 rfl) ?_
  refine lv_iconst (v := (-1)) hx hb dX2_begin_40 (by decide) ?_
  obtain ⟨g9, h⟩ := grd h
  refine wast C hw (refC (k := 6) ho rfl : _ = some (1, 6)) g9 dX2_begin_41 (fun M8 eM8 H locs hw => ?_)
  replace h := letv_at eM8 h
  refine lv_aload_n hx hb dX2_begin_42 rfl (lv_at hl 1 rfl) ?_
  refine wgetR (t := (rC o 7)) C hw flX2_24 ho rfl dX2_begin_43 ?_
  refine lv_iload_n hx hb dX2_begin_46 rfl (lv_at hl 2 rfl) ?_
  refine lv_iconst (v := 0) hx hb dX2_begin_47 (by decide) ?_
  obtain ⟨g11, h⟩ := grd h
  refine wast C hw (refC (k := 7) ho rfl : _ = some (1, 6)) g11 dX2_begin_48 (fun M10 eM10 H locs hw => ?_)
  replace h := letv_at eM10 h
  refine lv_aload_n hx hb dX2_begin_49 rfl (lv_at hl 1 rfl) ?_
  refine wgetR (t := (rC o 8)) C hw flX2_27 ho rfl dX2_begin_50 ?_
  refine lv_iload_n hx hb dX2_begin_53 rfl (lv_at hl 2 rfl) ?_
  refine lv_iconst (v := (-1)) hx hb dX2_begin_54 (by decide) ?_
  obtain ⟨g13, h⟩ := grd h
  refine wast C hw (refC (k := 8) ho rfl : _ = some (1, 6)) g13 dX2_begin_55 (fun M12 eM12 H locs hw => ?_)
  replace h := letv_at eM12 h
  refine lv_aload_n hx hb dX2_begin_56 rfl (lv_at hl 1 rfl) ?_
  refine wgetR (t := (rC o 9)) C hw flX2_30 ho rfl dX2_begin_57 ?_
  refine lv_iload_n hx hb dX2_begin_60 rfl (lv_at hl 2 rfl) ?_
  refine lv_iconst (v := (-1)) hx hb dX2_begin_61 (by decide) ?_
  obtain ⟨g15, h⟩ := grd h
  refine wast C hw (refC (k := 9) ho rfl : _ = some (1, 6)) g15 dX2_begin_62 (fun M14 eM14 H locs hw => ?_)
  replace h := letv_at eM14 h
  refine lv_iconst (v := 0) hx hb dX2_begin_63 (by decide) ?_
  refine lv_istore (lv' := [(4, .int 0), (3, .int x1), (0, .ref (P.2.2.1 o)), (1, .int p1), (2, .int p2)]) hx hb dX2_begin_64 hl (by decide) rfl (fun ls hl => ?_)
  exact cut_66 x1 FU 0 M14 ls _ _ (lv_sub hl [2, 3, 4, 1, 0] rfl) hw h
set_option maxRecDepth 100000 in
set_option maxHeartbeats 4000000 in
theorem c_X2_meanAround {l : Launch} {P : Wp} {E : State → Heap → Prop} (hW : Wok shC P E) {o : Nat} {p1 : Int32} {p2 : Int32} {p3 : Int32} {p4 : Int32} {M : Mem} {r : Int32} (ho : shC.1[o]? = some (0, 2)) (h : f_X2_meanAround o p1 p2 p3 p4 M = some r) : CT l shC P E yX2_meanAround bX2_meanAround 9 ((some .int)) 0 0 [.ref (P.2.2.1 o), .int p1, .int p2, .int p3, .int p4] (some (.int r)) M M := by
  refine ct_of hW (by decide) (Nat.le_of_ble_eq_true rfl) (fun p e s m args below meth c C ls hl hw => ?_)
  have hx := C.1
  have hb := C.2.1
  replace hl : lv_has ls 9 [(0, .ref (P.2.2.1 o)), (1, .int p1), (2, .int p2), (3, .int p3), (4, .int p4)] := hl
  have cut_10 : ∀ (n_10 : Nat) (v5_10 : Int32) (v6_10 : Int32) (v7_10 : Int32) (ls : Array Slot) (H : Heap) (locs : List Loc), lv_has ls 9 [(0, .ref (P.2.2.1 o)), (1, .int p1), (2, .int p2), (3, .int p3), (5, .int v5_10), (6, .int v6_10), (7, .int v7_10)] → Hw shC P M s H locs → lq3 (L_X2_meanAround_10 o p1 p2 p3 p4 M) n_10 v5_10 v6_10 v7_10 = some r → W p l e { frames := 0, cells := 0, slots := 0, locals := 0 } s m args below meth c H locs 0 0 (MQ below (CQ shC P E (some (.int r)) M) args s 0 0 (wA shC P)) (F0 m 10 ls []) := by
    intro n_10
    induction n_10 with
    | zero => intro v5_10 v6_10 v7_10 ls H locs hl hw h; cases h
    | succ n_10 ih_10 =>
      intro v5_10 v6_10 v7_10 ls H locs hl hw h
      replace h := lq3_succ h
      refine lv_iload hx hb dX2_meanAround_10 (lv_at hl 6 rfl) ?_
      refine lv_aload_n hx hb dX2_meanAround_12 rfl (lv_at hl 0 rfl) ?_
      refine wgetR (t := (rC o 1)) C hw flX2_43 ho rfl dX2_meanAround_13 ?_
      refine wgetI C hw flX2_66 (refC (k := 1) ho rfl : _ = some (0, 5)) dX2_meanAround_16 ?_
      refine lv_icmp_ge (tgt := 69) hx hb dX2_meanAround_19 (by decide) (fun c1 => ?_) (fun c1 => ?_)
      · replace h := (if_pos c1).symm.trans h
        refine lv_iload hx hb dX2_meanAround_69 (lv_at hl 4 rfl) ?_
        refine lv_iload hx hb dX2_meanAround_71 (lv_at hl 5 rfl) ?_
        obtain ⟨g2, h⟩ := grd0 h
        refine lv_idiv hx hb dX2_meanAround_73 g2 ?_
        exact wretI_R C hw h dX2_meanAround_74
      · replace h := (if_neg c1).symm.trans h
        refine lv_iload hx hb dX2_meanAround_22 (lv_at hl 6 rfl) ?_
        refine lv_bipush (v := 15) hx hb dX2_meanAround_24 (by decide) ?_
        refine lv_imul hx hb dX2_meanAround_26 ?_
        refine lv_iload_n hx hb dX2_meanAround_27 rfl (lv_at hl 3 rfl) ?_
        refine lv_iadd hx hb dX2_meanAround_28 ?_
        refine lv_topi (fun x3 ex3 => ?_)
        replace h := letv_at ex3 h
        refine lv_istore (lv' := [(8, .int x3), (0, .ref (P.2.2.1 o)), (1, .int p1), (2, .int p2), (3, .int p3), (5, .int v5_10), (6, .int v6_10), (7, .int v7_10)]) hx hb dX2_meanAround_29 hl (by decide) rfl (fun ls hl => ?_)
        refine lv_iload hx hb dX2_meanAround_31 (lv_at hl 7 rfl) ?_
        refine lv_iload_n hx hb dX2_meanAround_33 rfl (lv_at hl 2 rfl) ?_
        refine lv_icmp_eq (tgt := 63) hx hb dX2_meanAround_34 (by decide) (fun c4 => ?_) (fun c4 => ?_)
        · replace h := (if_pos c4).symm.trans h
          refine lv_iinc (v := (v7_10 + 1)) (lv' := [(7, .int (v7_10 + 1)), (8, .int x3), (0, .ref (P.2.2.1 o)), (1, .int p1), (2, .int p2), (3, .int p3), (5, .int v5_10), (6, .int v6_10)]) (k := 7) hx hb dX2_meanAround_63 hl rfl (congrArg (fun z => v7_10 + z) (by decide)) (by decide) rfl (fun ls hl => ?_)
          refine lv_goto (tgt := 10) hx hb dX2_meanAround_66 (by decide) ?_
          exact ih_10 v5_10 v6_10 (v7_10 + 1) ls _ _ (lv_sub hl [2, 3, 4, 5, 6, 7, 0] rfl) hw h
        · replace h := (if_neg c4).symm.trans h
          refine lv_aload_n hx hb dX2_meanAround_37 rfl (lv_at hl 1 rfl) ?_
          refine wgetR (t := (rC o 3)) C hw flX2_9 ho rfl dX2_meanAround_38 ?_
          refine lv_iload hx hb dX2_meanAround_41 (lv_at hl 0 rfl) ?_
          obtain ⟨g5, h⟩ := grd h
          refine wald C hw (refC (k := 3) ho rfl : _ = some (1, 90)) g5 dX2_meanAround_43 ?_
          refine lv_iload_n hx hb dX2_meanAround_44 rfl (lv_at hl 3 rfl) ?_
          refine lv_icmp_ne (tgt := 63) hx hb dX2_meanAround_45 (by decide) (fun c6 => ?_) (fun c6 => ?_)
          · replace h := (if_neg c6).symm.trans h
            refine lv_iinc (v := (v7_10 + 1)) (lv' := [(7, .int (v7_10 + 1)), (8, .int x3), (0, .ref (P.2.2.1 o)), (1, .int p1), (2, .int p2), (3, .int p3), (5, .int v5_10), (6, .int v6_10)]) (k := 7) hx hb dX2_meanAround_63 hl rfl (congrArg (fun z => v7_10 + z) (by decide)) (by decide) rfl (fun ls hl => ?_)
            refine lv_goto (tgt := 10) hx hb dX2_meanAround_66 (by decide) ?_
            exact ih_10 v5_10 v6_10 (v7_10 + 1) ls _ _ (lv_sub hl [2, 3, 4, 5, 6, 7, 0] rfl) hw h
          · replace h := (if_pos c6).symm.trans h
            refine lv_iload hx hb dX2_meanAround_48 (lv_at hl 5 rfl) ?_
            refine lv_aload_n hx hb dX2_meanAround_50 rfl (lv_at hl 1 rfl) ?_
            refine wgetR (t := (rC o 4)) C hw flX2_15 ho rfl dX2_meanAround_51 ?_
            refine lv_iload hx hb dX2_meanAround_54 (lv_at hl 0 rfl) ?_
            obtain ⟨g7, h⟩ := grd h
            refine wald C hw (refC (k := 4) ho rfl : _ = some (1, 90)) g7 dX2_meanAround_56 ?_
            refine lv_iadd hx hb dX2_meanAround_57 ?_
            refine lv_topi (fun x8 ex8 => ?_)
            replace h := letv_at ex8 h
            refine lv_istore (lv' := [(5, .int x8), (8, .int x3), (0, .ref (P.2.2.1 o)), (1, .int p1), (2, .int p2), (3, .int p3), (6, .int v6_10), (7, .int v7_10)]) hx hb dX2_meanAround_58 hl (by decide) rfl (fun ls hl => ?_)
            refine lv_iinc (v := (v6_10 + 1)) (lv' := [(6, .int (v6_10 + 1)), (5, .int x8), (8, .int x3), (0, .ref (P.2.2.1 o)), (1, .int p1), (2, .int p2), (3, .int p3), (7, .int v7_10)]) (k := 6) hx hb dX2_meanAround_60 hl rfl (congrArg (fun z => v6_10 + z) (by decide)) (by decide) rfl (fun ls hl => ?_)
            refine lv_iinc (v := (v7_10 + 1)) (lv' := [(7, .int (v7_10 + 1)), (6, .int (v6_10 + 1)), (5, .int x8), (8, .int x3), (0, .ref (P.2.2.1 o)), (1, .int p1), (2, .int p2), (3, .int p3)]) (k := 7) hx hb dX2_meanAround_63 hl rfl (congrArg (fun z => v7_10 + z) (by decide)) (by decide) rfl (fun ls hl => ?_)
            refine lv_goto (tgt := 10) hx hb dX2_meanAround_66 (by decide) ?_
            exact ih_10 x8 (v6_10 + 1) (v7_10 + 1) ls _ _ (lv_sub hl [4, 5, 6, 7, 2, 1, 0] rfl) hw h
  refine lv_iload hx hb dX2_meanAround_0 (lv_at hl 4 rfl) ?_
  refine lv_istore (lv' := [(5, .int p4), (0, .ref (P.2.2.1 o)), (1, .int p1), (2, .int p2), (3, .int p3), (4, .int p4)]) hx hb dX2_meanAround_2 hl (by decide) rfl (fun ls hl => ?_)
  refine lv_iconst (v := 1) hx hb dX2_meanAround_4 (by decide) ?_
  refine lv_istore (lv' := [(6, .int 1), (5, .int p4), (0, .ref (P.2.2.1 o)), (1, .int p1), (2, .int p2), (3, .int p3), (4, .int p4)]) hx hb dX2_meanAround_5 hl (by decide) rfl (fun ls hl => ?_)
  refine lv_iconst (v := 0) hx hb dX2_meanAround_7 (by decide) ?_
  refine lv_istore (lv' := [(7, .int 0), (6, .int 1), (5, .int p4), (0, .ref (P.2.2.1 o)), (1, .int p1), (2, .int p2), (3, .int p3), (4, .int p4)]) hx hb dX2_meanAround_8 hl (by decide) rfl (fun ls hl => ?_)
  exact cut_10 FU p4 1 0 ls _ _ (lv_sub hl [3, 4, 5, 6, 2, 1, 0] rfl) hw h
set_option maxRecDepth 100000 in
set_option maxHeartbeats 4000000 in
theorem c_X2_warmingBy {l : Launch} {P : Wp} {E : State → Heap → Prop} (hW : Wok shC P E) {o : Nat} {p1 : Int32} {M : Mem} {r : Int32} (ho : shC.1[o]? = some (0, 2)) (h : f_X2_warmingBy o p1 M = r) : CT l shC P E yX2_warmingBy bX2_warmingBy 2 ((some .int)) 1 40 [.ref (P.2.2.1 o), .int p1] (some (.int r)) M M := by
  refine ct_of hW (by decide) (Nat.le_of_ble_eq_true rfl) (fun p e s m args below meth c C ls hl hw => ?_)
  have hx := C.1
  have hb := C.2.1
  replace hl : lv_has ls 2 [(0, .ref (P.2.2.1 o)), (1, .int p1)] := hl
  refine lv_aload_n hx hb dX2_warmingBy_0 rfl (lv_at hl 0 rfl) ?_
  refine wgetR (t := (rC o 1)) C hw flX2_43 ho rfl dX2_warmingBy_1 ?_
  refine wgetI C hw flX2_55 (refC (k := 1) ho rfl : _ = some (0, 5)) dX2_warmingBy_4 ?_
  by_cases c1 : (M.1 (rC o 1) 2) = 1
  · replace h := (if_pos c1).symm.trans h
    refine lv_lookup (off := 25) (tgt := 32) hx hb dX2_warmingBy_7 (by decide) (by rw [c1]; decide) (by decide) ?_
    refine lv_bipush (v := (-60)) hx hb dX2_warmingBy_32 (by decide) ?_
    refine lv_iload_n hx hb dX2_warmingBy_34 rfl (lv_at hl 1 rfl) ?_
    refine lv_iconst (v := 2) hx hb dX2_warmingBy_35 (by decide) ?_
    refine lv_idiv hx hb dX2_warmingBy_36 (by decide) ?_
    refine lv_bipush (v := 60) hx hb dX2_warmingBy_37 (by decide) ?_
    refine wmin C mlX2_60 hl.1 (Nat.le_of_ble_eq_true rfl) (Nat.le_of_ble_eq_true rfl) (Nat.zero_le _) (Nat.zero_le _) dX2_warmingBy_39 ?_
    refine wmax C mlX2_100 hl.1 (Nat.le_of_ble_eq_true rfl) (Nat.le_of_ble_eq_true rfl) (Nat.zero_le _) (Nat.zero_le _) dX2_warmingBy_42 ?_
    exact wretI_T C hw h dX2_warmingBy_45
  · replace h := (if_neg c1).symm.trans h
    by_cases c2 : (M.1 (rC o 1) 2) = 3
    · replace h := (if_pos c2).symm.trans h
      refine lv_lookup (off := 39) (tgt := 46) hx hb dX2_warmingBy_7 (by decide) (by rw [c2]; decide) (by decide) ?_
      refine lv_iload_n hx hb dX2_warmingBy_46 rfl (lv_at hl 1 rfl) ?_
      refine lv_iconst (v := 3) hx hb dX2_warmingBy_47 (by decide) ?_
      refine lv_idiv hx hb dX2_warmingBy_48 (by decide) ?_
      exact wretI_T C hw h dX2_warmingBy_49
    · replace h := (if_neg c2).symm.trans h
      refine lv_lookup (off := 43) (tgt := 50) hx hb dX2_warmingBy_7 (by decide) ((lv_osw c1 (by decide)).trans ((lv_osw c2 (by decide)).trans rfl)) (by decide) ?_
      refine lv_iload_n hx hb dX2_warmingBy_50 rfl (lv_at hl 1 rfl) ?_
      refine lv_iconst (v := 2) hx hb dX2_warmingBy_51 (by decide) ?_
      refine lv_idiv hx hb dX2_warmingBy_52 (by decide) ?_
      exact wretI_T C hw h dX2_warmingBy_53
set_option maxRecDepth 100000 in
set_option maxHeartbeats 4000000 in
theorem c_X2_setAndCrack {l : Launch} {P : Wp} {E : State → Heap → Prop} (hW : Wok shC P E) {o : Nat} {p1 : Int32} {p2 : Int32} {M : Mem} {M' : Mem} (ho : shC.1[o]? = some (0, 2)) (h : f_X2_setAndCrack o p1 p2 M = some M') : CT l shC P E yX2_setAndCrack bX2_setAndCrack 5 (none) 1 40 [.ref (P.2.2.1 o), .int p1, .int p2] none M M' := by
  refine ct_of hW (by decide) (Nat.le_of_ble_eq_true rfl) (fun p e s m args below meth c C ls hl hw => ?_)
  have hx := C.1
  have hb := C.2.1
  replace hl : lv_has ls 5 [(0, .ref (P.2.2.1 o)), (1, .int p1), (2, .int p2)] := hl
  have cut_74 : ∀ (v3_74 : Int32) (v4_74 : Int32) (M_74 : Mem) (ls : Array Slot) (H : Heap) (locs : List Loc), lv_has ls 5 [(0, .ref (P.2.2.1 o)), (1, .int p1), (2, .int p2), (3, .int v3_74), (4, .int v4_74)] → Hw shC P M_74 s H locs → J_X2_setAndCrack_74 o p1 p2 v3_74 v4_74 M_74 = some M' → W p l e { frames := 1, cells := 0, slots := 0, locals := 40 } s m args below meth c H locs 0 0 (MQ below (CQ shC P E none M') args s 0 0 (wA shC P)) (F0 m 74 ls []) := by
    intro v3_74 v4_74 M_74 ls H locs hl hw h
    refine lv_iload hx hb dX2_setAndCrack_74 (lv_at hl 4 rfl) ?_
    refine lv_aload_n hx hb dX2_setAndCrack_76 rfl (lv_at hl 0 rfl) ?_
    refine wgetR (t := (rC o 1)) C hw flX2_43 ho rfl dX2_setAndCrack_77 ?_
    refine wgetR (t := (rC (rC o 1) 11)) C hw flX2_109 (refC (k := 1) ho rfl : _ = some (0, 5)) rfl dX2_setAndCrack_80 ?_
    refine lv_iload_n hx hb dX2_setAndCrack_83 rfl (lv_at hl 1 rfl) ?_
    obtain ⟨g7, h⟩ := grd h
    refine wald C hw (refC (k := 11) (refC (k := 1) ho rfl : _ = some (0, 5)) rfl : _ = some (1, 6)) g7 dX2_setAndCrack_84 ?_
    refine lv_icmp_le (tgt := 105) hx hb dX2_setAndCrack_85 (by decide) (fun c8 => ?_) (fun c8 => ?_)
    · replace h := (if_pos c8).symm.trans h
      refine lv_aload_n hx hb dX2_setAndCrack_105 rfl (lv_at hl 0 rfl) ?_
      refine wgetR (t := (rC o 3)) C hw flX2_9 ho rfl dX2_setAndCrack_106 ?_
      refine lv_iload_n hx hb dX2_setAndCrack_109 rfl (lv_at hl 3 rfl) ?_
      obtain ⟨g9, h⟩ := grd h
      refine wald C hw (refC (k := 3) ho rfl : _ = some (1, 90)) g9 dX2_setAndCrack_110 ?_
      refine lv_bipush (v := 10) hx hb dX2_setAndCrack_111 (by decide) ?_
      refine lv_icmp_ne (tgt := 150) hx hb dX2_setAndCrack_113 (by decide) (fun c10 => ?_) (fun c10 => ?_)
      · replace h := (if_neg c10).symm.trans h
        exact wretV_W C hw h dX2_setAndCrack_150
      · replace h := (if_pos c10).symm.trans h
        refine lv_aload_n hx hb dX2_setAndCrack_116 rfl (lv_at hl 0 rfl) ?_
        refine wgetR (t := (rC o 8)) C hw flX2_27 ho rfl dX2_setAndCrack_117 ?_
        refine lv_iload_n hx hb dX2_setAndCrack_120 rfl (lv_at hl 1 rfl) ?_
        obtain ⟨g11, h⟩ := grd h
        refine wald C hw (refC (k := 8) ho rfl : _ = some (1, 6)) g11 dX2_setAndCrack_121 ?_
        refine lv_aload_n hx hb dX2_setAndCrack_122 rfl (lv_at hl 0 rfl) ?_
        refine wgetR (t := (rC o 1)) C hw flX2_43 ho rfl dX2_setAndCrack_123 ?_
        refine wgetR (t := (rC (rC o 1) 11)) C hw flX2_109 (refC (k := 1) ho rfl : _ = some (0, 5)) rfl dX2_setAndCrack_126 ?_
        refine lv_iload_n hx hb dX2_setAndCrack_129 rfl (lv_at hl 1 rfl) ?_
        obtain ⟨g12, h⟩ := grd h
        refine wald C hw (refC (k := 11) (refC (k := 1) ho rfl : _ = some (0, 5)) rfl : _ = some (1, 6)) g12 dX2_setAndCrack_130 ?_
        refine lv_iconst (v := 2) hx hb dX2_setAndCrack_131 (by decide) ?_
        refine lv_idiv hx hb dX2_setAndCrack_132 (by decide) ?_
        refine lv_icmp_le (tgt := 150) hx hb dX2_setAndCrack_133 (by decide) (fun c13 => ?_) (fun c13 => ?_)
        · replace h := (if_pos c13).symm.trans h
          exact wretV_W C hw h dX2_setAndCrack_150
        · replace h := (if_neg c13).symm.trans h
          refine lv_aload_n hx hb dX2_setAndCrack_136 rfl (lv_at hl 0 rfl) ?_
          refine wgetR (t := (rC o 6)) C hw flX2_21 ho rfl dX2_setAndCrack_137 ?_
          refine lv_iload_n hx hb dX2_setAndCrack_140 rfl (lv_at hl 1 rfl) ?_
          refine lv_iload_n hx hb dX2_setAndCrack_141 rfl (lv_at hl 2 rfl) ?_
          obtain ⟨g15, h⟩ := grd h
          refine wast C hw (refC (k := 6) ho rfl : _ = some (1, 6)) g15 dX2_setAndCrack_142 (fun M14 eM14 H locs hw => ?_)
          replace h := letv_at eM14 h
          refine lv_aload_n hx hb dX2_setAndCrack_143 rfl (lv_at hl 0 rfl) ?_
          refine wgetR (t := (rC o 7)) C hw flX2_24 ho rfl dX2_setAndCrack_144 ?_
          refine lv_iload_n hx hb dX2_setAndCrack_147 rfl (lv_at hl 1 rfl) ?_
          refine lv_iconst (v := 2) hx hb dX2_setAndCrack_148 (by decide) ?_
          obtain ⟨g17, h⟩ := grd h
          refine wast C hw (refC (k := 7) ho rfl : _ = some (1, 6)) g17 dX2_setAndCrack_149 (fun M16 eM16 H locs hw => ?_)
          replace h := letv_at eM16 h
          exact wretV_W C hw h dX2_setAndCrack_150
    · replace h := (if_neg c8).symm.trans h
      refine lv_aload_n hx hb dX2_setAndCrack_88 rfl (lv_at hl 0 rfl) ?_
      refine wgetR (t := (rC o 6)) C hw flX2_21 ho rfl dX2_setAndCrack_89 ?_
      refine lv_iload_n hx hb dX2_setAndCrack_92 rfl (lv_at hl 1 rfl) ?_
      refine lv_iload_n hx hb dX2_setAndCrack_93 rfl (lv_at hl 2 rfl) ?_
      obtain ⟨g19, h⟩ := grd h
      refine wast C hw (refC (k := 6) ho rfl : _ = some (1, 6)) g19 dX2_setAndCrack_94 (fun M18 eM18 H locs hw => ?_)
      replace h := letv_at eM18 h
      refine lv_aload_n hx hb dX2_setAndCrack_95 rfl (lv_at hl 0 rfl) ?_
      refine wgetR (t := (rC o 7)) C hw flX2_24 ho rfl dX2_setAndCrack_96 ?_
      refine lv_iload_n hx hb dX2_setAndCrack_99 rfl (lv_at hl 1 rfl) ?_
      refine lv_iconst (v := 1) hx hb dX2_setAndCrack_100 (by decide) ?_
      obtain ⟨g21, h⟩ := grd h
      refine wast C hw (refC (k := 7) ho rfl : _ = some (1, 6)) g21 dX2_setAndCrack_101 (fun M20 eM20 H locs hw => ?_)
      replace h := letv_at eM20 h
      refine lv_goto (tgt := 150) hx hb dX2_setAndCrack_102 (by decide) ?_
      exact wretV_W C hw h dX2_setAndCrack_150
  refine lv_iload_n hx hb dX2_setAndCrack_0 rfl (lv_at hl 1 rfl) ?_
  refine lv_bipush (v := 15) hx hb dX2_setAndCrack_1 (by decide) ?_
  refine lv_imul hx hb dX2_setAndCrack_3 ?_
  refine lv_iload_n hx hb dX2_setAndCrack_4 rfl (lv_at hl 2 rfl) ?_
  refine lv_iadd hx hb dX2_setAndCrack_5 ?_
  refine lv_topi (fun x1 ex1 => ?_)
  replace h := letv_at ex1 h
  refine lv_istore_n (lv' := [(3, .int x1), (0, .ref (P.2.2.1 o)), (1, .int p1), (2, .int p2)]) hx hb dX2_setAndCrack_6 rfl hl (by decide) rfl (fun ls hl => ?_)
  refine lv_aload_n hx hb dX2_setAndCrack_7 rfl (lv_at hl 1 rfl) ?_
  refine wgetR (t := (rC o 4)) C hw flX2_15 ho rfl dX2_setAndCrack_8 ?_
  refine lv_iload_n hx hb dX2_setAndCrack_11 rfl (lv_at hl 0 rfl) ?_
  obtain ⟨g2, h⟩ := grd h
  refine wald C hw (refC (k := 4) ho rfl : _ = some (1, 90)) g2 dX2_setAndCrack_12 ?_
  refine lv_aload_n hx hb dX2_setAndCrack_13 rfl (lv_at hl 1 rfl) ?_
  refine wgetR (t := (rC o 5)) C hw flX2_18 ho rfl dX2_setAndCrack_14 ?_
  refine lv_iload_n hx hb dX2_setAndCrack_17 rfl (lv_at hl 0 rfl) ?_
  obtain ⟨g3, h⟩ := grd h
  refine wald C hw (refC (k := 5) ho rfl : _ = some (1, 90)) g3 dX2_setAndCrack_18 ?_
  refine lv_isub hx hb dX2_setAndCrack_19 ?_
  refine wabs C mlX2_103 hl.1 (Nat.le_of_ble_eq_true rfl) (Nat.le_of_ble_eq_true rfl) (Nat.zero_le _) (Nat.zero_le _) dX2_setAndCrack_20 ?_
  refine lv_topi (fun x4 ex4 => ?_)
  replace h := letv_at ex4 h
  refine lv_istore (lv' := [(4, .int x4), (3, .int x1), (0, .ref (P.2.2.1 o)), (1, .int p1), (2, .int p2)]) hx hb dX2_setAndCrack_23 hl (by decide) rfl (fun ls hl => ?_)
  refine lv_aload_n hx hb dX2_setAndCrack_25 rfl (lv_at hl 2 rfl) ?_
  refine wgetR (t := (rC o 5)) C hw flX2_18 ho rfl dX2_setAndCrack_26 ?_
  refine lv_iload_n hx hb dX2_setAndCrack_29 rfl (lv_at hl 1 rfl) ?_
  refine lv_iconst (v := 1) hx hb dX2_setAndCrack_30 (by decide) ?_
  refine lv_isub hx hb dX2_setAndCrack_31 ?_
  obtain ⟨g5, h⟩ := grd h
  refine wald C hw (refC (k := 5) ho rfl : _ = some (1, 90)) g5 dX2_setAndCrack_32 ?_
  refine lv_aload_n hx hb dX2_setAndCrack_33 rfl (lv_at hl 2 rfl) ?_
  refine wgetR (t := (rC o 1)) C hw flX2_43 ho rfl dX2_setAndCrack_34 ?_
  refine wgetI C hw flX2_106 (refC (k := 1) ho rfl : _ = some (0, 5)) dX2_setAndCrack_37 ?_
  refine lv_icmp_lt (tgt := 74) hx hb dX2_setAndCrack_40 (by decide) (fun c6 => ?_) (fun c6 => ?_)
  · replace h := (if_pos c6).symm.trans h
    exact cut_74 x1 x4 M ls _ _ (lv_sub hl [2, 3, 4, 1, 0] rfl) hw h
  · replace h := (if_neg c6).symm.trans h
    refine lv_aload_n hx hb dX2_setAndCrack_43 rfl (lv_at hl 2 rfl) ?_
    refine wgetR (t := (rC o 5)) C hw flX2_18 ho rfl dX2_setAndCrack_44 ?_
    refine lv_iload_n hx hb dX2_setAndCrack_47 rfl (lv_at hl 1 rfl) ?_
    obtain ⟨g22, h⟩ := grd h
    refine wald C hw (refC (k := 5) ho rfl : _ = some (1, 90)) g22 dX2_setAndCrack_48 ?_
    refine lv_aload_n hx hb dX2_setAndCrack_49 rfl (lv_at hl 2 rfl) ?_
    refine wgetR (t := (rC o 1)) C hw flX2_43 ho rfl dX2_setAndCrack_50 ?_
    refine wgetI C hw flX2_106 (refC (k := 1) ho rfl : _ = some (0, 5)) dX2_setAndCrack_53 ?_
    refine lv_icmp_ge (tgt := 74) hx hb dX2_setAndCrack_56 (by decide) (fun c23 => ?_) (fun c23 => ?_)
    · replace h := (if_pos c23).symm.trans h
      exact cut_74 x1 x4 M ls _ _ (lv_sub hl [2, 3, 4, 1, 0] rfl) hw h
    · replace h := (if_neg c23).symm.trans h
      refine lv_aload_n hx hb dX2_setAndCrack_59 rfl (lv_at hl 2 rfl) ?_
      refine wgetR (t := (rC o 8)) C hw flX2_27 ho rfl dX2_setAndCrack_60 ?_
      refine lv_iload_n hx hb dX2_setAndCrack_63 rfl (lv_at hl 3 rfl) ?_
      refine lv_iload hx hb dX2_setAndCrack_64 (lv_at hl 0 rfl) ?_
      obtain ⟨g25, h⟩ := grd h
      refine wast C hw (refC (k := 8) ho rfl : _ = some (1, 6)) g25 dX2_setAndCrack_66 (fun M24 eM24 H locs hw => ?_)
      replace h := letv_at eM24 h
      refine lv_aload_n hx hb dX2_setAndCrack_67 rfl (lv_at hl 2 rfl) ?_
      refine wgetR (t := (rC o 9)) C hw flX2_30 ho rfl dX2_setAndCrack_68 ?_
      refine lv_iload_n hx hb dX2_setAndCrack_71 rfl (lv_at hl 3 rfl) ?_
      refine lv_iload_n hx hb dX2_setAndCrack_72 rfl (lv_at hl 4 rfl) ?_
      obtain ⟨g27, h⟩ := grd h
      refine wast C hw (refC (k := 9) ho rfl : _ = some (1, 6)) g27 dX2_setAndCrack_73 (fun M26 eM26 H locs hw => ?_)
      replace h := letv_at eM26 h
      exact cut_74 x1 x4 M26 ls _ _ (lv_sub hl [2, 3, 4, 1, 0] rfl) hw h
set_option maxRecDepth 100000 in
set_option maxHeartbeats 4000000 in
theorem c_X2_advance {l : Launch} {P : Wp} {E : State → Heap → Prop} (hW : Wok shC P E) {o : Nat} {p1 : Int32} {p2 : Int32} {M : Mem} {M' : Mem} (ho : shC.1[o]? = some (0, 2)) (h : f_X2_advance o p1 p2 M = some M') : CT l shC P E yX2_advance bX2_advance 7 (none) 2 65 [.ref (P.2.2.1 o), .int p1, .int p2] none M M' := by
  refine ct_of hW (by decide) (Nat.le_of_ble_eq_true rfl) (fun p e s m args below meth c C ls hl hw => ?_)
  have hx := C.1
  have hb := C.2.1
  replace hl : lv_has ls 7 [(0, .ref (P.2.2.1 o)), (1, .int p1), (2, .int p2)] := hl
  have cut_123 : ∀ (v3_123 : Int32) (v5_123 : Int32) (v6_123 : Int32) (M_123 : Mem) (ls : Array Slot) (H : Heap) (locs : List Loc), lv_has ls 7 [(0, .ref (P.2.2.1 o)), (1, .int p1), (2, .int p2), (3, .int v3_123), (5, .int v5_123), (6, .int v6_123)] → Hw shC P M_123 s H locs → J_X2_advance_123 o p1 p2 v3_123 v5_123 v6_123 M_123 = some M' → W p l e { frames := 2, cells := 0, slots := 0, locals := 65 } s m args below meth c H locs 0 0 (MQ below (CQ shC P E none M') args s 0 0 (wA shC P)) (F0 m 123 ls []) := by
    intro v3_123 v5_123 v6_123 M_123 ls H locs hl hw h
    refine lv_aload_n hx hb dX2_advance_123 rfl (lv_at hl 0 rfl) ?_
    refine wgetR (t := (rC o 4)) C hw flX2_15 ho rfl dX2_advance_124 ?_
    refine lv_iload_n hx hb dX2_advance_127 rfl (lv_at hl 3 rfl) ?_
    refine lv_iconst (v := 1) hx hb dX2_advance_128 (by decide) ?_
    refine lv_iadd hx hb dX2_advance_129 ?_
    refine lv_dup2_11 hx hb dX2_advance_130 rfl rfl ?_
    obtain ⟨g20, h⟩ := grd h
    refine wald C hw (refC (k := 4) ho rfl : _ = some (1, 90)) g20 dX2_advance_131 ?_
    refine lv_aload_n hx hb dX2_advance_132 rfl (lv_at hl 0 rfl) ?_
    refine lv_iload hx hb dX2_advance_133 (lv_at hl 5 rfl) ?_
    refine lv_aload_n hx hb dX2_advance_135 rfl (lv_at hl 0 rfl) ?_
    refine wgetR (t := (rC o 4)) C hw flX2_15 ho rfl dX2_advance_136 ?_
    refine lv_iload_n hx hb dX2_advance_139 rfl (lv_at hl 3 rfl) ?_
    obtain ⟨g21, h⟩ := grd h
    refine wald C hw (refC (k := 4) ho rfl : _ = some (1, 90)) g21 dX2_advance_140 ?_
    refine lv_isub hx hb dX2_advance_141 ?_
    refine wcallV1 (As := [.int (v6_123 - (M_123.1 (rC o 4) (ix v3_123)))]) (rest := [.int (M_123.1 (rC o 4) (ix (v3_123 + (1 : Int32)))), .int (v3_123 + (1 : Int32)), .ref (P.2.2.1 (rC o 4))]) C hw (c_X2_warmingBy hW ho rfl) vlX2_93 ⟨Nat.le_of_ble_eq_true rfl, Nat.le_of_ble_eq_true rfl⟩ ho rfl rfl rfl hl.1 (Nat.le_of_ble_eq_true rfl) dX2_advance_142 ⟨Nat.zero_le _, Nat.zero_le _⟩ (fun H locs hw => ?_)
    refine lv_iadd hx hb dX2_advance_145 ?_
    obtain ⟨g23, h⟩ := grd h
    refine wast C hw (refC (k := 4) ho rfl : _ = some (1, 90)) g23 dX2_advance_146 (fun M22 eM22 H locs hw => ?_)
    replace h := letv_at eM22 h
    refine lv_aload_n hx hb dX2_advance_147 rfl (lv_at hl 0 rfl) ?_
    refine wgetR (t := (rC o 5)) C hw flX2_18 ho rfl dX2_advance_148 ?_
    refine lv_iload_n hx hb dX2_advance_151 rfl (lv_at hl 3 rfl) ?_
    refine lv_iconst (v := 1) hx hb dX2_advance_152 (by decide) ?_
    refine lv_iadd hx hb dX2_advance_153 ?_
    refine lv_dup2_11 hx hb dX2_advance_154 rfl rfl ?_
    obtain ⟨g24, h⟩ := grd h
    refine wald C hw (refC (k := 5) ho rfl : _ = some (1, 90)) g24 dX2_advance_155 ?_
    refine lv_aload_n hx hb dX2_advance_156 rfl (lv_at hl 0 rfl) ?_
    refine wgetR (t := (rC o 4)) C hw flX2_15 ho rfl dX2_advance_157 ?_
    refine lv_iload_n hx hb dX2_advance_160 rfl (lv_at hl 3 rfl) ?_
    refine lv_iconst (v := 1) hx hb dX2_advance_161 (by decide) ?_
    refine lv_iadd hx hb dX2_advance_162 ?_
    obtain ⟨g25, h⟩ := grd h
    refine wald C hw (refC (k := 4) ho rfl : _ = some (1, 90)) g25 dX2_advance_163 ?_
    refine lv_aload_n hx hb dX2_advance_164 rfl (lv_at hl 0 rfl) ?_
    refine wgetR (t := (rC o 5)) C hw flX2_18 ho rfl dX2_advance_165 ?_
    refine lv_iload_n hx hb dX2_advance_168 rfl (lv_at hl 3 rfl) ?_
    obtain ⟨g26, h⟩ := grd h
    refine wald C hw (refC (k := 5) ho rfl : _ = some (1, 90)) g26 dX2_advance_169 ?_
    refine lv_isub hx hb dX2_advance_170 ?_
    refine lv_iload hx hb dX2_advance_171 (lv_at hl 4 rfl) ?_
    obtain ⟨g27, h⟩ := grd0 h
    refine lv_idiv hx hb dX2_advance_173 g27 ?_
    refine lv_iadd hx hb dX2_advance_174 ?_
    obtain ⟨g29, h⟩ := grd h
    refine wast C hw (refC (k := 5) ho rfl : _ = some (1, 90)) g29 dX2_advance_175 (fun M28 eM28 H locs hw => ?_)
    replace h := letv_at eM28 h
    refine lv_aload_n hx hb dX2_advance_176 rfl (lv_at hl 0 rfl) ?_
    refine lv_iload_n hx hb dX2_advance_177 rfl (lv_at hl 1 rfl) ?_
    refine lv_iload_n hx hb dX2_advance_178 rfl (lv_at hl 2 rfl) ?_
    refine lv_iconst (v := 1) hx hb dX2_advance_179 (by decide) ?_
    refine lv_iadd hx hb dX2_advance_180 ?_
    obtain ⟨M32, e31, h⟩ := bnd_some h
    refine wcallV0 (As := [.int p1, .int (p2 + (1 : Int32))]) (rest := []) C hw (c_X2_setAndCrack hW ho e31) vlX2_97 ⟨Nat.le_of_ble_eq_true rfl, Nat.le_of_ble_eq_true rfl⟩ ho rfl rfl rfl hl.1 (Nat.le_of_ble_eq_true rfl) dX2_advance_181 ⟨Nat.zero_le _, Nat.zero_le _⟩ (fun H locs hw => ?_)
    exact wretV_W C hw h dX2_advance_184
  refine lv_iload_n hx hb dX2_advance_0 rfl (lv_at hl 1 rfl) ?_
  refine lv_bipush (v := 15) hx hb dX2_advance_1 (by decide) ?_
  refine lv_imul hx hb dX2_advance_3 ?_
  refine lv_iload_n hx hb dX2_advance_4 rfl (lv_at hl 2 rfl) ?_
  refine lv_iadd hx hb dX2_advance_5 ?_
  refine lv_topi (fun x1 ex1 => ?_)
  replace h := letv_at ex1 h
  refine lv_istore_n (lv' := [(3, .int x1), (0, .ref (P.2.2.1 o)), (1, .int p1), (2, .int p2)]) hx hb dX2_advance_6 rfl hl (by decide) rfl (fun ls hl => ?_)
  refine lv_aload_n hx hb dX2_advance_7 rfl (lv_at hl 1 rfl) ?_
  refine wgetR (t := (rC o 4)) C hw flX2_15 ho rfl dX2_advance_8 ?_
  refine lv_iload_n hx hb dX2_advance_11 rfl (lv_at hl 0 rfl) ?_
  refine lv_iconst (v := 1) hx hb dX2_advance_12 (by decide) ?_
  refine lv_iadd hx hb dX2_advance_13 ?_
  refine lv_aload_n hx hb dX2_advance_14 rfl (lv_at hl 1 rfl) ?_
  refine wgetR (t := (rC o 4)) C hw flX2_15 ho rfl dX2_advance_15 ?_
  refine lv_iload_n hx hb dX2_advance_18 rfl (lv_at hl 0 rfl) ?_
  obtain ⟨g2, h⟩ := grd h
  refine wald C hw (refC (k := 4) ho rfl : _ = some (1, 90)) g2 dX2_advance_19 ?_
  obtain ⟨g4, h⟩ := grd h
  refine wast C hw (refC (k := 4) ho rfl : _ = some (1, 90)) g4 dX2_advance_20 (fun M3 eM3 H locs hw => ?_)
  replace h := letv_at eM3 h
  refine lv_aload_n hx hb dX2_advance_21 rfl (lv_at hl 1 rfl) ?_
  refine wgetR (t := (rC o 5)) C hw flX2_18 ho rfl dX2_advance_22 ?_
  refine lv_iload_n hx hb dX2_advance_25 rfl (lv_at hl 0 rfl) ?_
  refine lv_iconst (v := 1) hx hb dX2_advance_26 (by decide) ?_
  refine lv_iadd hx hb dX2_advance_27 ?_
  refine lv_aload_n hx hb dX2_advance_28 rfl (lv_at hl 1 rfl) ?_
  refine wgetR (t := (rC o 5)) C hw flX2_18 ho rfl dX2_advance_29 ?_
  refine lv_iload_n hx hb dX2_advance_32 rfl (lv_at hl 0 rfl) ?_
  obtain ⟨g5, h⟩ := grd h
  refine wald C hw (refC (k := 5) ho rfl : _ = some (1, 90)) g5 dX2_advance_33 ?_
  obtain ⟨g7, h⟩ := grd h
  refine wast C hw (refC (k := 5) ho rfl : _ = some (1, 90)) g7 dX2_advance_34 (fun M6 eM6 H locs hw => ?_)
  replace h := letv_at eM6 h
  refine lv_aload_n hx hb dX2_advance_35 rfl (lv_at hl 1 rfl) ?_
  refine wgetR (t := (rC o 3)) C hw flX2_9 ho rfl dX2_advance_36 ?_
  refine lv_iload_n hx hb dX2_advance_39 rfl (lv_at hl 0 rfl) ?_
  obtain ⟨g8, h⟩ := grd h
  refine wald C hw (refC (k := 3) ho rfl : _ = some (1, 90)) g8 dX2_advance_40 ?_
  refine lv_topi (fun x9 ex9 => ?_)
  replace h := letv_at ex9 h
  refine lv_istore (lv' := [(4, .int x9), (3, .int x1), (0, .ref (P.2.2.1 o)), (1, .int p1), (2, .int p2)]) hx hb dX2_advance_41 hl (by decide) rfl (fun ls hl => ?_)
  refine lv_aload_n hx hb dX2_advance_43 rfl (lv_at hl 2 rfl) ?_
  refine wgetR (t := (rC o 1)) C hw flX2_43 ho rfl dX2_advance_44 ?_
  refine wgetR (t := (rC (rC o 1) 10)) C hw flX2_82 (refC (k := 1) ho rfl : _ = some (0, 5)) rfl dX2_advance_47 ?_
  refine lv_iload_n hx hb dX2_advance_50 rfl (lv_at hl 3 rfl) ?_
  obtain ⟨g10, h⟩ := grd h
  refine wald C hw (refC (k := 10) (refC (k := 1) ho rfl : _ = some (0, 5)) rfl : _ = some (1, 6)) g10 dX2_advance_51 ?_
  refine lv_topi (fun x11 ex11 => ?_)
  replace h := letv_at ex11 h
  refine lv_istore (lv' := [(5, .int x11), (4, .int x9), (3, .int x1), (0, .ref (P.2.2.1 o)), (1, .int p1), (2, .int p2)]) hx hb dX2_advance_52 hl (by decide) rfl (fun ls hl => ?_)
  refine lv_iload hx hb dX2_advance_54 (lv_at hl 1 rfl) ?_
  refine lv_iconst (v := (-1)) hx hb dX2_advance_56 (by decide) ?_
  refine lv_icmp_eq (tgt := 83) hx hb dX2_advance_57 (by decide) (fun c12 => ?_) (fun c12 => ?_)
  · replace h := (if_pos c12).symm.trans h
    exact wretV_W C hw h dX2_advance_83
  · replace h := (if_neg c12).symm.trans h
    refine lv_iload hx hb dX2_advance_60 (lv_at hl 1 rfl) ?_
    refine lv_bipush (v := 10) hx hb dX2_advance_62 (by decide) ?_
    refine lv_icmp_eq (tgt := 83) hx hb dX2_advance_64 (by decide) (fun c13 => ?_) (fun c13 => ?_)
    · replace h := (if_pos c13).symm.trans h
      exact wretV_W C hw h dX2_advance_83
    · replace h := (if_neg c13).symm.trans h
      refine lv_aload_n hx hb dX2_advance_67 rfl (lv_at hl 3 rfl) ?_
      refine wgetR (t := (rC o 6)) C hw flX2_21 ho rfl dX2_advance_68 ?_
      refine lv_iload_n hx hb dX2_advance_71 rfl (lv_at hl 4 rfl) ?_
      obtain ⟨g14, h⟩ := grd h
      refine wald C hw (refC (k := 6) ho rfl : _ = some (1, 6)) g14 dX2_advance_72 ?_
      refine lv_iconst (v := (-1)) hx hb dX2_advance_73 (by decide) ?_
      refine lv_icmp_ne (tgt := 83) hx hb dX2_advance_74 (by decide) (fun c15 => ?_) (fun c15 => ?_)
      · replace h := (if_neg c15).symm.trans h
        exact wretV_W C hw h dX2_advance_83
      · replace h := (if_pos c15).symm.trans h
        refine lv_iload hx hb dX2_advance_77 (lv_at hl 0 rfl) ?_
        refine lv_iconst (v := 1) hx hb dX2_advance_79 (by decide) ?_
        refine lv_icmp_ge (tgt := 84) hx hb dX2_advance_80 (by decide) (fun c16 => ?_) (fun c16 => ?_)
        · replace h := (if_pos c16).symm.trans h
          refine lv_aload_n hx hb dX2_advance_84 rfl (lv_at hl 3 rfl) ?_
          refine wgetR (t := (rC o 0)) C hw flX2_33 ho rfl dX2_advance_85 ?_
          refine lv_iload hx hb dX2_advance_88 (lv_at hl 1 rfl) ?_
          refine lv_iload_n hx hb dX2_advance_90 rfl (lv_at hl 5 rfl) ?_
          refine lv_aload_n hx hb dX2_advance_91 rfl (lv_at hl 3 rfl) ?_
          refine wgetI C hw flX2_54 ho dX2_advance_92 ?_
          obtain ⟨r17, e18, h⟩ := bnd_some h
          refine wcallV1 (As := [.int x9, .int p2, .int (M6.1 o 2)]) (rest := []) C hw (c_X1_airAt hW (refC (k := 0) ho rfl : _ = some (0, 1)) e18) vlX2_85 ⟨Nat.le_of_ble_eq_true rfl, Nat.le_of_ble_eq_true rfl⟩ (refC (k := 0) ho rfl : _ = some (0, 1)) rfl rfl rfl hl.1 (Nat.le_of_ble_eq_true rfl) dX2_advance_95 ⟨Nat.zero_le _, Nat.zero_le _⟩ (fun H locs hw => ?_)
          refine lv_istore (lv' := [(6, .int r17), (5, .int x11), (4, .int x9), (3, .int x1), (0, .ref (P.2.2.1 o)), (1, .int p1), (2, .int p2)]) hx hb dX2_advance_98 hl (by decide) rfl (fun ls hl => ?_)
          refine lv_aload_n hx hb dX2_advance_100 rfl (lv_at hl 4 rfl) ?_
          refine wgetR (t := (rC o 1)) C hw flX2_43 ho rfl dX2_advance_101 ?_
          refine wgetI C hw flX2_55 (refC (k := 1) ho rfl : _ = some (0, 5)) dX2_advance_104 ?_
          refine lv_iconst (v := 2) hx hb dX2_advance_107 (by decide) ?_
          refine lv_icmp_ne (tgt := 123) hx hb dX2_advance_108 (by decide) (fun c19 => ?_) (fun c19 => ?_)
          · replace h := (if_neg c19).symm.trans h
            exact cut_123 x1 x11 r17 M6 ls _ _ (lv_sub hl [4, 5, 6, 3, 1, 0] rfl) hw h
          · replace h := (if_pos c19).symm.trans h
            refine lv_aload_n hx hb dX2_advance_111 rfl (lv_at hl 4 rfl) ?_
            refine lv_iload_n hx hb dX2_advance_112 rfl (lv_at hl 5 rfl) ?_
            refine lv_iload hx hb dX2_advance_113 (lv_at hl 2 rfl) ?_
            refine lv_iload_n hx hb dX2_advance_115 rfl (lv_at hl 6 rfl) ?_
            refine lv_iload hx hb dX2_advance_116 (lv_at hl 0 rfl) ?_
            obtain ⟨r33, e34, h⟩ := bnd_some h
            refine wcallV1 (As := [.int p1, .int x9, .int p2, .int r17]) (rest := []) C hw (c_X2_meanAround hW ho e34) vlX2_89 ⟨Nat.le_of_ble_eq_true rfl, Nat.le_of_ble_eq_true rfl⟩ ho rfl rfl rfl hl.1 (Nat.le_of_ble_eq_true rfl) dX2_advance_118 ⟨Nat.zero_le _, Nat.zero_le _⟩ (fun H locs hw => ?_)
            refine lv_istore (lv' := [(6, .int r33), (5, .int x11), (4, .int x9), (3, .int x1), (0, .ref (P.2.2.1 o)), (1, .int p1), (2, .int p2)]) hx hb dX2_advance_121 hl (by decide) rfl (fun ls hl => ?_)
            exact cut_123 x1 x11 r33 M6 ls _ _ (lv_sub hl [4, 5, 6, 3, 1, 0] rfl) hw h
        · replace h := (if_neg c16).symm.trans h
          exact wretV_W C hw h dX2_advance_83
set_option maxRecDepth 100000 in
set_option maxHeartbeats 4000000 in
theorem c_X2_follow {l : Launch} {P : Wp} {E : State → Heap → Prop} (hW : Wok shC P E) {o : Nat} {p1 : Int32} {p2 : Int32} {p3 : Int32} {M : Mem} {M' : Mem} (ho : shC.1[o]? = some (0, 2)) (h : f_X2_follow o p1 p2 p3 M = some M') : CT l shC P E yX2_follow bX2_follow 8 (none) 3 91 [.ref (P.2.2.1 o), .int p1, .int p2, .int p3] none M M' := by
  refine ct_of hW (by decide) (Nat.le_of_ble_eq_true rfl) (fun p e s m args below meth c C ls hl hw => ?_)
  have hx := C.1
  have hb := C.2.1
  replace hl : lv_has ls 8 [(0, .ref (P.2.2.1 o)), (1, .int p1), (2, .int p2), (3, .int p3)] := hl
  have cut_85 : ∀ (v4_85 : Int32) (v5_85 : Int32) (n_85 : Nat) (v6_85 : Int32) (M_85 : Mem) (ls : Array Slot) (H : Heap) (locs : List Loc), lv_has ls 8 [(0, .ref (P.2.2.1 o)), (4, .int v4_85), (5, .int v5_85), (6, .int v6_85)] → Hw shC P M_85 s H locs → lq2 (L_X2_follow_85 o p1 p2 p3 v4_85 v5_85) n_85 v6_85 M_85 = some M' → W p l e { frames := 3, cells := 0, slots := 0, locals := 91 } s m args below meth c H locs 0 0 (MQ below (CQ shC P E none M') args s 0 0 (wA shC P)) (F0 m 85 ls []) := by
    intro v4_85 v5_85 n_85
    induction n_85 with
    | zero => intro v6_85 M_85 ls H locs hl hw h; cases h
    | succ n_85 ih_85 =>
      intro v6_85 M_85 ls H locs hl hw h
      replace h := lq2_succ h
      have cut_95 : ∀ (v6_95 : Int32) (n_95 : Nat) (v7_95 : Int32) (M_95 : Mem) (ls : Array Slot) (H : Heap) (locs : List Loc), lv_has ls 8 [(0, .ref (P.2.2.1 o)), (4, .int v4_85), (5, .int v5_85), (6, .int v6_95), (7, .int v7_95)] → Hw shC P M_95 s H locs → lq2 (L_X2_follow_95 o p1 p2 p3 v4_85 v5_85 (lq2 (L_X2_follow_85 o p1 p2 p3 v4_85 v5_85) n_85) v6_95) n_95 v7_95 M_95 = some M' → W p l e { frames := 3, cells := 0, slots := 0, locals := 91 } s m args below meth c H locs 0 0 (MQ below (CQ shC P E none M') args s 0 0 (wA shC P)) (F0 m 95 ls []) := by
        intro v6_95 n_95
        induction n_95 with
        | zero => intro v7_95 M_95 ls H locs hl hw h; cases h
        | succ n_95 ih_95 =>
          intro v7_95 M_95 ls H locs hl hw h
          replace h := lq2_succ h
          refine lv_iload hx hb dX2_follow_95 (lv_at hl 4 rfl) ?_
          refine lv_aload_n hx hb dX2_follow_97 rfl (lv_at hl 0 rfl) ?_
          refine wgetR (t := (rC o 1)) C hw flX2_43 ho rfl dX2_follow_98 ?_
          refine wgetI C hw flX2_66 (refC (k := 1) ho rfl : _ = some (0, 5)) dX2_follow_101 ?_
          refine lv_icmp_ge (tgt := 131) hx hb dX2_follow_104 (by decide) (fun c6 => ?_) (fun c6 => ?_)
          · replace h := (if_pos c6).symm.trans h
            refine lv_iinc (v := (v6_95 + 1)) (lv' := [(6, .int (v6_95 + 1)), (0, .ref (P.2.2.1 o)), (4, .int v4_85), (5, .int v5_85), (7, .int v7_95)]) (k := 3) hx hb dX2_follow_131 hl rfl (congrArg (fun z => v6_95 + z) (by decide)) (by decide) rfl (fun ls hl => ?_)
            refine lv_goto (tgt := 85) hx hb dX2_follow_134 (by decide) ?_
            exact ih_85 (v6_95 + 1) M_95 ls _ _ (lv_sub hl [1, 2, 3, 0] rfl) hw h
          · replace h := (if_neg c6).symm.trans h
            refine lv_iload hx hb dX2_follow_107 (lv_at hl 1 rfl) ?_
            refine lv_iload hx hb dX2_follow_109 (lv_at hl 4 rfl) ?_
            refine lv_ishr hx hb dX2_follow_111 ?_
            refine lv_iconst (v := 1) hx hb dX2_follow_112 (by decide) ?_
            refine lv_iand hx hb dX2_follow_113 ?_
            refine lv_if_eq (tgt := 125) hx hb dX2_follow_114 (by decide) (fun c7 => ?_) (fun c7 => ?_)
            · replace h := (if_pos c7).symm.trans h
              refine lv_iinc (v := (v7_95 + 1)) (lv' := [(7, .int (v7_95 + 1)), (0, .ref (P.2.2.1 o)), (4, .int v4_85), (5, .int v5_85), (6, .int v6_95)]) (k := 4) hx hb dX2_follow_125 hl rfl (congrArg (fun z => v7_95 + z) (by decide)) (by decide) rfl (fun ls hl => ?_)
              refine lv_goto (tgt := 95) hx hb dX2_follow_128 (by decide) ?_
              exact ih_95 (v7_95 + 1) M_95 ls _ _ (lv_sub hl [1, 2, 3, 4, 0] rfl) hw h
            · replace h := (if_neg c7).symm.trans h
              refine lv_aload_n hx hb dX2_follow_117 rfl (lv_at hl 0 rfl) ?_
              refine lv_iload hx hb dX2_follow_118 (lv_at hl 4 rfl) ?_
              refine lv_iload hx hb dX2_follow_120 (lv_at hl 3 rfl) ?_
              obtain ⟨M10, e9, h⟩ := bnd_some h
              refine wcallV0 (As := [.int v7_95, .int v6_95]) (rest := []) C hw (c_X2_advance hW ho e9) vlX2_73 ⟨Nat.le_of_ble_eq_true rfl, Nat.le_of_ble_eq_true rfl⟩ ho rfl rfl rfl hl.1 (Nat.le_of_ble_eq_true rfl) dX2_follow_122 ⟨Nat.zero_le _, Nat.zero_le _⟩ (fun H locs hw => ?_)
              refine lv_iinc (v := (v7_95 + 1)) (lv' := [(7, .int (v7_95 + 1)), (0, .ref (P.2.2.1 o)), (4, .int v4_85), (5, .int v5_85), (6, .int v6_95)]) (k := 4) hx hb dX2_follow_125 hl rfl (congrArg (fun z => v7_95 + z) (by decide)) (by decide) rfl (fun ls hl => ?_)
              refine lv_goto (tgt := 95) hx hb dX2_follow_128 (by decide) ?_
              exact ih_95 (v7_95 + 1) M10 ls _ _ (lv_sub hl [1, 2, 3, 4, 0] rfl) hw h
      refine lv_iload hx hb dX2_follow_85 (lv_at hl 3 rfl) ?_
      refine lv_iload hx hb dX2_follow_87 (lv_at hl 2 rfl) ?_
      refine lv_icmp_ge (tgt := 137) hx hb dX2_follow_89 (by decide) (fun c5 => ?_) (fun c5 => ?_)
      · replace h := (if_pos c5).symm.trans h
        exact wretV_W C hw h dX2_follow_137
      · replace h := (if_neg c5).symm.trans h
        refine lv_iconst (v := 0) hx hb dX2_follow_92 (by decide) ?_
        refine lv_istore (lv' := [(7, .int 0), (0, .ref (P.2.2.1 o)), (4, .int v4_85), (5, .int v5_85), (6, .int v6_85)]) hx hb dX2_follow_93 hl (by decide) rfl (fun ls hl => ?_)
        exact cut_95 v6_85 FU 0 M_85 ls _ _ (lv_sub hl [1, 2, 3, 4, 0] rfl) hw h
  have cut_46 : ∀ (v4_46 : Int32) (v5_46 : Int32) (n_46 : Nat) (v6_46 : Int32) (M_46 : Mem) (ls : Array Slot) (H : Heap) (locs : List Loc), lv_has ls 8 [(0, .ref (P.2.2.1 o)), (4, .int v4_46), (5, .int v5_46), (6, .int v6_46)] → Hw shC P M_46 s H locs → lq2 (L_X2_follow_46 o p1 p2 p3 v4_46 v5_46) n_46 v6_46 M_46 = some M' → W p l e { frames := 3, cells := 0, slots := 0, locals := 91 } s m args below meth c H locs 0 0 (MQ below (CQ shC P E none M') args s 0 0 (wA shC P)) (F0 m 46 ls []) := by
    intro v4_46 v5_46 n_46
    induction n_46 with
    | zero => intro v6_46 M_46 ls H locs hl hw h; cases h
    | succ n_46 ih_46 =>
      intro v6_46 M_46 ls H locs hl hw h
      replace h := lq2_succ h
      refine lv_iload hx hb dX2_follow_46 (lv_at hl 3 rfl) ?_
      refine lv_aload_n hx hb dX2_follow_48 rfl (lv_at hl 0 rfl) ?_
      refine wgetR (t := (rC o 1)) C hw flX2_43 ho rfl dX2_follow_49 ?_
      refine wgetI C hw flX2_66 (refC (k := 1) ho rfl : _ = some (0, 5)) dX2_follow_52 ?_
      refine lv_icmp_ge (tgt := 82) hx hb dX2_follow_55 (by decide) (fun c4 => ?_) (fun c4 => ?_)
      · replace h := (if_pos c4).symm.trans h
        refine lv_iconst (v := 0) hx hb dX2_follow_82 (by decide) ?_
        refine lv_istore (lv' := [(6, .int 0), (0, .ref (P.2.2.1 o)), (4, .int v4_46), (5, .int v5_46)]) hx hb dX2_follow_83 hl (by decide) rfl (fun ls hl => ?_)
        exact cut_85 v4_46 v5_46 FU 0 M_46 ls _ _ (lv_sub hl [1, 2, 3, 0] rfl) hw h
      · replace h := (if_neg c4).symm.trans h
        refine lv_iload hx hb dX2_follow_58 (lv_at hl 1 rfl) ?_
        refine lv_iload hx hb dX2_follow_60 (lv_at hl 3 rfl) ?_
        refine lv_ishr hx hb dX2_follow_62 ?_
        refine lv_iconst (v := 1) hx hb dX2_follow_63 (by decide) ?_
        refine lv_iand hx hb dX2_follow_64 ?_
        refine lv_if_eq (tgt := 76) hx hb dX2_follow_65 (by decide) (fun c11 => ?_) (fun c11 => ?_)
        · replace h := (if_pos c11).symm.trans h
          refine lv_iinc (v := (v6_46 + 1)) (lv' := [(6, .int (v6_46 + 1)), (0, .ref (P.2.2.1 o)), (4, .int v4_46), (5, .int v5_46)]) (k := 3) hx hb dX2_follow_76 hl rfl (congrArg (fun z => v6_46 + z) (by decide)) (by decide) rfl (fun ls hl => ?_)
          refine lv_goto (tgt := 46) hx hb dX2_follow_79 (by decide) ?_
          exact ih_46 (v6_46 + 1) M_46 ls _ _ (lv_sub hl [1, 2, 3, 0] rfl) hw h
        · replace h := (if_neg c11).symm.trans h
          refine lv_aload_n hx hb dX2_follow_68 rfl (lv_at hl 0 rfl) ?_
          refine lv_iload hx hb dX2_follow_69 (lv_at hl 3 rfl) ?_
          refine lv_iload hx hb dX2_follow_71 (lv_at hl 2 rfl) ?_
          obtain ⟨M14, e13, h⟩ := bnd_some h
          refine wcallV0 (As := [.int v6_46, .int v5_46]) (rest := []) C hw (c_X2_begin hW ho e13) vlX2_69 ⟨Nat.le_of_ble_eq_true rfl, Nat.le_of_ble_eq_true rfl⟩ ho rfl rfl rfl hl.1 (Nat.le_of_ble_eq_true rfl) dX2_follow_73 ⟨Nat.zero_le _, Nat.zero_le _⟩ (fun H locs hw => ?_)
          refine lv_iinc (v := (v6_46 + 1)) (lv' := [(6, .int (v6_46 + 1)), (0, .ref (P.2.2.1 o)), (4, .int v4_46), (5, .int v5_46)]) (k := 3) hx hb dX2_follow_76 hl rfl (congrArg (fun z => v6_46 + z) (by decide)) (by decide) rfl (fun ls hl => ?_)
          refine lv_goto (tgt := 46) hx hb dX2_follow_79 (by decide) ?_
          exact ih_46 (v6_46 + 1) M14 ls _ _ (lv_sub hl [1, 2, 3, 0] rfl) hw h
  refine lv_aload_n hx hb dX2_follow_0 rfl (lv_at hl 0 rfl) ?_
  refine lv_aload_n hx hb dX2_follow_1 rfl (lv_at hl 0 rfl) ?_
  refine wgetR (t := (rC o 0)) C hw flX2_33 ho rfl dX2_follow_2 ?_
  refine wgetR (t := (rC (rC o 0) 1)) C hw flX2_44 (refC (k := 0) ho rfl : _ = some (0, 1)) rfl dX2_follow_5 ?_
  refine wgetI C hw flX2_48 (refC (k := 1) (refC (k := 0) ho rfl : _ = some (0, 1)) rfl : _ = some (0, 0)) dX2_follow_8 ?_
  refine lv_iload_n hx hb dX2_follow_11 rfl (lv_at hl 1 rfl) ?_
  refine lv_ior hx hb dX2_follow_12 ?_
  refine wputI C hw fpX2_54 ho dX2_follow_13 (fun M1 eM1 H locs hw => ?_)
  replace h := letv_at eM1 h
  refine lv_aload_n hx hb dX2_follow_16 rfl (lv_at hl 0 rfl) ?_
  refine wgetR (t := (rC o 1)) C hw flX2_43 ho rfl dX2_follow_17 ?_
  refine wgetI C hw flX2_55 (refC (k := 1) ho rfl : _ = some (0, 5)) dX2_follow_20 ?_
  refine lv_iconst (v := 2) hx hb dX2_follow_23 (by decide) ?_
  refine lv_icmp_ne (tgt := 32) hx hb dX2_follow_24 (by decide) (fun c2 => ?_) (fun c2 => ?_)
  · replace h := (if_neg c2).symm.trans h
    refine lv_iload_n hx hb dX2_follow_32 rfl (lv_at hl 3 rfl) ?_
    refine lv_istore (lv' := [(4, .int p3), (0, .ref (P.2.2.1 o)), (1, .int p1), (2, .int p2), (3, .int p3)]) hx hb dX2_follow_33 hl (by decide) rfl (fun ls hl => ?_)
    refine lv_iload_n hx hb dX2_follow_35 rfl (lv_at hl 3 rfl) ?_
    refine lv_bipush (v := 14) hx hb dX2_follow_36 (by decide) ?_
    refine wmin C mlX2_60 hl.1 (Nat.le_of_ble_eq_true rfl) (Nat.le_of_ble_eq_true rfl) (Nat.zero_le _) (Nat.zero_le _) dX2_follow_38 ?_
    refine lv_topi (fun x3 ex3 => ?_)
    replace h := letv_at ex3 h
    refine lv_istore (lv' := [(5, .int x3), (4, .int p3), (0, .ref (P.2.2.1 o)), (1, .int p1), (2, .int p2), (3, .int p3)]) hx hb dX2_follow_41 hl (by decide) rfl (fun ls hl => ?_)
    refine lv_iconst (v := 0) hx hb dX2_follow_43 (by decide) ?_
    refine lv_istore (lv' := [(6, .int 0), (5, .int x3), (4, .int p3), (0, .ref (P.2.2.1 o)), (1, .int p1), (2, .int p2), (3, .int p3)]) hx hb dX2_follow_44 hl (by decide) rfl (fun ls hl => ?_)
    exact cut_46 p3 x3 FU 0 M1 ls _ _ (lv_sub hl [3, 2, 1, 0] rfl) hw h
  · replace h := (if_pos c2).symm.trans h
    refine lv_bipush (v := 63) hx hb dX2_follow_27 (by decide) ?_
    refine lv_goto (tgt := 33) hx hb dX2_follow_29 (by decide) ?_
    refine lv_istore (lv' := [(4, .int 63), (0, .ref (P.2.2.1 o)), (1, .int p1), (2, .int p2), (3, .int p3)]) hx hb dX2_follow_33 hl (by decide) rfl (fun ls hl => ?_)
    refine lv_iload_n hx hb dX2_follow_35 rfl (lv_at hl 3 rfl) ?_
    refine lv_bipush (v := 14) hx hb dX2_follow_36 (by decide) ?_
    refine wmin C mlX2_60 hl.1 (Nat.le_of_ble_eq_true rfl) (Nat.le_of_ble_eq_true rfl) (Nat.zero_le _) (Nat.zero_le _) dX2_follow_38 ?_
    refine lv_topi (fun x15 ex15 => ?_)
    replace h := letv_at ex15 h
    refine lv_istore (lv' := [(5, .int x15), (4, .int 63), (0, .ref (P.2.2.1 o)), (1, .int p1), (2, .int p2), (3, .int p3)]) hx hb dX2_follow_41 hl (by decide) rfl (fun ls hl => ?_)
    refine lv_iconst (v := 0) hx hb dX2_follow_43 (by decide) ?_
    refine lv_istore (lv' := [(6, .int 0), (5, .int x15), (4, .int 63), (0, .ref (P.2.2.1 o)), (1, .int p1), (2, .int p2), (3, .int p3)]) hx hb dX2_follow_44 hl (by decide) rfl (fun ls hl => ?_)
    exact cut_46 63 x15 FU 0 M1 ls _ _ (lv_sub hl [3, 2, 1, 0] rfl) hw h
set_option maxRecDepth 100000 in
set_option maxHeartbeats 4000000 in
theorem c_X2_valueAt {l : Launch} {P : Wp} {E : State → Heap → Prop} (hW : Wok shC P E) {o : Nat} {p1 : Int32} {p2 : Int32} {p3 : Int32} {M : Mem} {r : Int32} (ho : shC.1[o]? = some (0, 2)) (h : f_X2_valueAt o p1 p2 p3 M = some r) : CT l shC P E yX2_valueAt bX2_valueAt 5 ((some .int)) 1 40 [.ref (P.2.2.1 o), .int p1, .int p2, .int p3] (some (.int r)) M M := by
  refine ct_of hW (by decide) (Nat.le_of_ble_eq_true rfl) (fun p e s m args below meth c C ls hl hw => ?_)
  have hx := C.1
  have hb := C.2.1
  replace hl : lv_has ls 5 [(0, .ref (P.2.2.1 o)), (1, .int p1), (2, .int p2), (3, .int p3)] := hl
  refine lv_aload_n hx hb dX2_valueAt_0 rfl (lv_at hl 0 rfl) ?_
  refine wgetR (t := (rC o 1)) C hw flX2_43 ho rfl dX2_valueAt_1 ?_
  refine lv_iload_n hx hb dX2_valueAt_4 rfl (lv_at hl 2 rfl) ?_
  refine wcallV1 (As := [.int p2]) (rest := []) C hw (c_X5_hasPiece hW (refC (k := 1) ho rfl : _ = some (0, 5)) rfl) vlX2_112 ⟨Nat.le_of_ble_eq_true rfl, Nat.le_of_ble_eq_true rfl⟩ (refC (k := 1) ho rfl : _ = some (0, 5)) rfl rfl rfl hl.1 (Nat.le_of_ble_eq_true rfl) dX2_valueAt_5 ⟨Nat.zero_le _, Nat.zero_le _⟩ (fun H locs hw => ?_)
  refine lv_if_eq (tgt := 21) hx hb dX2_valueAt_8 (by decide) (fun c1 => ?_) (fun c1 => ?_)
  · replace h := (if_pos c1).symm.trans h
    refine lv_iconst (v := 0) hx hb dX2_valueAt_21 (by decide) ?_
    exact wretI_R C hw h dX2_valueAt_22
  · replace h := (if_neg c1).symm.trans h
    refine lv_iload_n hx hb dX2_valueAt_11 rfl (lv_at hl 3 rfl) ?_
    refine lv_if_lt (tgt := 21) hx hb dX2_valueAt_12 (by decide) (fun c2 => ?_) (fun c2 => ?_)
    · replace h := (if_pos c2).symm.trans h
      refine lv_iconst (v := 0) hx hb dX2_valueAt_21 (by decide) ?_
      exact wretI_R C hw h dX2_valueAt_22
    · replace h := (if_neg c2).symm.trans h
      refine lv_iload_n hx hb dX2_valueAt_15 rfl (lv_at hl 3 rfl) ?_
      refine lv_bipush (v := 15) hx hb dX2_valueAt_16 (by decide) ?_
      refine lv_icmp_lt (tgt := 23) hx hb dX2_valueAt_18 (by decide) (fun c3 => ?_) (fun c3 => ?_)
      · replace h := (if_pos c3).symm.trans h
        refine lv_iload_n hx hb dX2_valueAt_23 rfl (lv_at hl 2 rfl) ?_
        refine lv_bipush (v := 15) hx hb dX2_valueAt_24 (by decide) ?_
        refine lv_imul hx hb dX2_valueAt_26 ?_
        refine lv_iload_n hx hb dX2_valueAt_27 rfl (lv_at hl 3 rfl) ?_
        refine lv_iadd hx hb dX2_valueAt_28 ?_
        refine lv_topi (fun x4 ex4 => ?_)
        replace h := letv_at ex4 h
        refine lv_istore (lv' := [(4, .int x4), (0, .ref (P.2.2.1 o)), (1, .int p1), (2, .int p2), (3, .int p3)]) hx hb dX2_valueAt_29 hl (by decide) rfl (fun ls hl => ?_)
        refine lv_iload_n hx hb dX2_valueAt_31 rfl (lv_at hl 2 rfl) ?_
        by_cases c5 : p1 = 0
        · replace h := (if_pos c5).symm.trans h
          refine lv_lookup (off := 28) (tgt := 60) hx hb dX2_valueAt_32 (by decide) (by rw [c5]; decide) (by decide) ?_
          refine lv_aload_n hx hb dX2_valueAt_60 rfl (lv_at hl 1 rfl) ?_
          refine wgetR (t := (rC o 4)) C hw flX2_15 ho rfl dX2_valueAt_61 ?_
          refine lv_iload hx hb dX2_valueAt_64 (lv_at hl 0 rfl) ?_
          obtain ⟨g7, h⟩ := grd h
          refine wald C hw (refC (k := 4) ho rfl : _ = some (1, 90)) g7 dX2_valueAt_66 ?_
          exact wretI_R C hw h dX2_valueAt_67
        · replace h := (if_neg c5).symm.trans h
          by_cases c6 : p1 = 1
          · replace h := (if_pos c6).symm.trans h
            refine lv_lookup (off := 36) (tgt := 68) hx hb dX2_valueAt_32 (by decide) (by rw [c6]; decide) (by decide) ?_
            refine lv_aload_n hx hb dX2_valueAt_68 rfl (lv_at hl 1 rfl) ?_
            refine wgetR (t := (rC o 5)) C hw flX2_18 ho rfl dX2_valueAt_69 ?_
            refine lv_iload hx hb dX2_valueAt_72 (lv_at hl 0 rfl) ?_
            obtain ⟨g8, h⟩ := grd h
            refine wald C hw (refC (k := 5) ho rfl : _ = some (1, 90)) g8 dX2_valueAt_74 ?_
            exact wretI_R C hw h dX2_valueAt_75
          · replace h := (if_neg c6).symm.trans h
            refine lv_lookup (off := 44) (tgt := 76) hx hb dX2_valueAt_32 (by decide) ((lv_osw c5 (by decide)).trans ((lv_osw c6 (by decide)).trans rfl)) (by decide) ?_
            refine lv_aload_n hx hb dX2_valueAt_76 rfl (lv_at hl 1 rfl) ?_
            refine wgetR (t := (rC o 4)) C hw flX2_15 ho rfl dX2_valueAt_77 ?_
            refine lv_iload hx hb dX2_valueAt_80 (lv_at hl 0 rfl) ?_
            obtain ⟨g9, h⟩ := grd h
            refine wald C hw (refC (k := 4) ho rfl : _ = some (1, 90)) g9 dX2_valueAt_82 ?_
            refine lv_aload_n hx hb dX2_valueAt_83 rfl (lv_at hl 1 rfl) ?_
            refine wgetR (t := (rC o 5)) C hw flX2_18 ho rfl dX2_valueAt_84 ?_
            refine lv_iload hx hb dX2_valueAt_87 (lv_at hl 0 rfl) ?_
            obtain ⟨g10, h⟩ := grd h
            refine wald C hw (refC (k := 5) ho rfl : _ = some (1, 90)) g10 dX2_valueAt_89 ?_
            refine lv_isub hx hb dX2_valueAt_90 ?_
            refine wabs C mlX2_103 hl.1 (Nat.le_of_ble_eq_true rfl) (Nat.le_of_ble_eq_true rfl) (Nat.zero_le _) (Nat.zero_le _) dX2_valueAt_91 ?_
            exact wretI_R C hw h dX2_valueAt_94
      · replace h := (if_neg c3).symm.trans h
        refine lv_iconst (v := 0) hx hb dX2_valueAt_21 (by decide) ?_
        exact wretI_R C hw h dX2_valueAt_22
set_option maxRecDepth 100000 in
set_option maxHeartbeats 4000000 in
theorem c_X2_skinAt {l : Launch} {P : Wp} {E : State → Heap → Prop} (hW : Wok shC P E) {o : Nat} {p1 : Int32} {p2 : Int32} {M : Mem} {r : Int32} (ho : shC.1[o]? = some (0, 2)) (h : f_X2_skinAt o p1 p2 M = some r) : CT l shC P E yX2_skinAt bX2_skinAt 3 ((some .int)) 2 64 [.ref (P.2.2.1 o), .int p1, .int p2] (some (.int r)) M M := by
  refine ct_of hW (by decide) (Nat.le_of_ble_eq_true rfl) (fun p e s m args below meth c C ls hl hw => ?_)
  have hx := C.1
  have hb := C.2.1
  replace hl : lv_has ls 3 [(0, .ref (P.2.2.1 o)), (1, .int p1), (2, .int p2)] := hl
  refine lv_aload_n hx hb dX2_skinAt_0 rfl (lv_at hl 0 rfl) ?_
  refine lv_iconst (v := 0) hx hb dX2_skinAt_1 (by decide) ?_
  refine lv_iload_n hx hb dX2_skinAt_2 rfl (lv_at hl 1 rfl) ?_
  refine lv_iload_n hx hb dX2_skinAt_3 rfl (lv_at hl 2 rfl) ?_
  obtain ⟨r1, e2, h⟩ := bnd_some h
  refine wcallV1 (As := [.int 0, .int p1, .int p2]) (rest := []) C hw (c_X2_valueAt hW ho e2) vlX2_116 ⟨Nat.le_of_ble_eq_true rfl, Nat.le_of_ble_eq_true rfl⟩ ho rfl rfl rfl hl.1 (Nat.le_of_ble_eq_true rfl) dX2_skinAt_4 ⟨Nat.zero_le _, Nat.zero_le _⟩ (fun H locs hw => ?_)
  exact wretI_R C hw h dX2_skinAt_7
set_option maxRecDepth 100000 in
set_option maxHeartbeats 4000000 in
theorem c_X2_strainAt {l : Launch} {P : Wp} {E : State → Heap → Prop} (hW : Wok shC P E) {o : Nat} {p1 : Int32} {p2 : Int32} {M : Mem} {r : Int32} (ho : shC.1[o]? = some (0, 2)) (h : f_X2_strainAt o p1 p2 M = some r) : CT l shC P E yX2_strainAt bX2_strainAt 3 ((some .int)) 2 64 [.ref (P.2.2.1 o), .int p1, .int p2] (some (.int r)) M M := by
  refine ct_of hW (by decide) (Nat.le_of_ble_eq_true rfl) (fun p e s m args below meth c C ls hl hw => ?_)
  have hx := C.1
  have hb := C.2.1
  replace hl : lv_has ls 3 [(0, .ref (P.2.2.1 o)), (1, .int p1), (2, .int p2)] := hl
  refine lv_aload_n hx hb dX2_strainAt_0 rfl (lv_at hl 0 rfl) ?_
  refine lv_iconst (v := 2) hx hb dX2_strainAt_1 (by decide) ?_
  refine lv_iload_n hx hb dX2_strainAt_2 rfl (lv_at hl 1 rfl) ?_
  refine lv_iload_n hx hb dX2_strainAt_3 rfl (lv_at hl 2 rfl) ?_
  obtain ⟨r1, e2, h⟩ := bnd_some h
  refine wcallV1 (As := [.int 2, .int p1, .int p2]) (rest := []) C hw (c_X2_valueAt hW ho e2) vlX2_116 ⟨Nat.le_of_ble_eq_true rfl, Nat.le_of_ble_eq_true rfl⟩ ho rfl rfl rfl hl.1 (Nat.le_of_ble_eq_true rfl) dX2_strainAt_4 ⟨Nat.zero_le _, Nat.zero_le _⟩ (fun H locs hw => ?_)
  exact wretI_R C hw h dX2_strainAt_7
set_option maxRecDepth 100000 in
set_option maxHeartbeats 4000000 in
theorem c_X2_skinFall {l : Launch} {P : Wp} {E : State → Heap → Prop} (hW : Wok shC P E) {o : Nat} {p1 : Int32} {p2 : Int32} {M : Mem} {r : Int32} (ho : shC.1[o]? = some (0, 2)) (h : f_X2_skinFall o p1 p2 M = some r) : CT l shC P E yX2_skinFall bX2_skinFall 3 ((some .int)) 3 86 [.ref (P.2.2.1 o), .int p1, .int p2] (some (.int r)) M M := by
  refine ct_of hW (by decide) (Nat.le_of_ble_eq_true rfl) (fun p e s m args below meth c C ls hl hw => ?_)
  have hx := C.1
  have hb := C.2.1
  replace hl : lv_has ls 3 [(0, .ref (P.2.2.1 o)), (1, .int p1), (2, .int p2)] := hl
  refine lv_aload_n hx hb dX2_skinFall_0 rfl (lv_at hl 0 rfl) ?_
  refine lv_iload_n hx hb dX2_skinFall_1 rfl (lv_at hl 1 rfl) ?_
  refine lv_iload_n hx hb dX2_skinFall_2 rfl (lv_at hl 2 rfl) ?_
  obtain ⟨r1, e2, h⟩ := bnd_some h
  refine wcallV1 (As := [.int p1, .int p2]) (rest := []) C hw (c_X2_skinAt hW ho e2) vlX2_119 ⟨Nat.le_of_ble_eq_true rfl, Nat.le_of_ble_eq_true rfl⟩ ho rfl rfl rfl hl.1 (Nat.le_of_ble_eq_true rfl) dX2_skinFall_3 ⟨Nat.zero_le _, Nat.zero_le _⟩ (fun H locs hw => ?_)
  refine lv_aload_n hx hb dX2_skinFall_6 rfl (lv_at hl 0 rfl) ?_
  refine lv_iload_n hx hb dX2_skinFall_7 rfl (lv_at hl 1 rfl) ?_
  refine lv_iload_n hx hb dX2_skinFall_8 rfl (lv_at hl 2 rfl) ?_
  refine lv_iconst (v := 1) hx hb dX2_skinFall_9 (by decide) ?_
  refine lv_iadd hx hb dX2_skinFall_10 ?_
  obtain ⟨r3, e4, h⟩ := bnd_some h
  refine wcallV1 (As := [.int p1, .int (p2 + (1 : Int32))]) (rest := [.int r1]) C hw (c_X2_skinAt hW ho e4) vlX2_119 ⟨Nat.le_of_ble_eq_true rfl, Nat.le_of_ble_eq_true rfl⟩ ho rfl rfl rfl hl.1 (Nat.le_of_ble_eq_true rfl) dX2_skinFall_11 ⟨Nat.zero_le _, Nat.zero_le _⟩ (fun H locs hw => ?_)
  refine lv_isub hx hb dX2_skinFall_14 ?_
  exact wretI_R C hw h dX2_skinFall_15
set_option maxRecDepth 100000 in
set_option maxHeartbeats 4000000 in
theorem c_X2_peakStepOf {l : Launch} {P : Wp} {E : State → Heap → Prop} (hW : Wok shC P E) {o : Nat} {p1 : Int32} {M : Mem} {r : Int32} (ho : shC.1[o]? = some (0, 2)) (h : f_X2_peakStepOf o p1 M = some r) : CT l shC P E yX2_peakStepOf bX2_peakStepOf 4 ((some .int)) 3 86 [.ref (P.2.2.1 o), .int p1] (some (.int r)) M M := by
  refine ct_of hW (by decide) (Nat.le_of_ble_eq_true rfl) (fun p e s m args below meth c C ls hl hw => ?_)
  have hx := C.1
  have hb := C.2.1
  replace hl : lv_has ls 4 [(0, .ref (P.2.2.1 o)), (1, .int p1)] := hl
  have cut_4 : ∀ (n_4 : Nat) (v2_4 : Int32) (v3_4 : Int32) (ls : Array Slot) (H : Heap) (locs : List Loc), lv_has ls 4 [(0, .ref (P.2.2.1 o)), (1, .int p1), (2, .int v2_4), (3, .int v3_4)] → Hw shC P M s H locs → lq2 (L_X2_peakStepOf_4 o p1 M) n_4 v2_4 v3_4 = some r → W p l e { frames := 3, cells := 0, slots := 0, locals := 86 } s m args below meth c H locs 0 0 (MQ below (CQ shC P E (some (.int r)) M) args s 0 0 (wA shC P)) (F0 m 4 ls []) := by
    intro n_4
    induction n_4 with
    | zero => intro v2_4 v3_4 ls H locs hl hw h; cases h
    | succ n_4 ih_4 =>
      intro v2_4 v3_4 ls H locs hl hw h
      replace h := lq2_succ h
      refine lv_iload_n hx hb dX2_peakStepOf_4 rfl (lv_at hl 3 rfl) ?_
      refine lv_aload_n hx hb dX2_peakStepOf_5 rfl (lv_at hl 0 rfl) ?_
      refine wgetR (t := (rC o 1)) C hw flX2_43 ho rfl dX2_peakStepOf_6 ?_
      refine wgetI C hw flX2_122 (refC (k := 1) ho rfl : _ = some (0, 5)) dX2_peakStepOf_9 ?_
      refine lv_icmp_gt (tgt := 38) hx hb dX2_peakStepOf_12 (by decide) (fun c1 => ?_) (fun c1 => ?_)
      · replace h := (if_pos c1).symm.trans h
        refine lv_iload_n hx hb dX2_peakStepOf_38 rfl (lv_at hl 2 rfl) ?_
        exact wretI_R C hw h dX2_peakStepOf_39
      · replace h := (if_neg c1).symm.trans h
        refine lv_aload_n hx hb dX2_peakStepOf_15 rfl (lv_at hl 0 rfl) ?_
        refine lv_iload_n hx hb dX2_peakStepOf_16 rfl (lv_at hl 1 rfl) ?_
        refine lv_iload_n hx hb dX2_peakStepOf_17 rfl (lv_at hl 3 rfl) ?_
        obtain ⟨r2, e3, h⟩ := bnd_some h
        refine wcallV1 (As := [.int p1, .int v3_4]) (rest := []) C hw (c_X2_strainAt hW ho e3) vlX2_125 ⟨Nat.le_of_ble_eq_true rfl, Nat.le_of_ble_eq_true rfl⟩ ho rfl rfl rfl hl.1 (Nat.le_of_ble_eq_true rfl) dX2_peakStepOf_18 ⟨Nat.zero_le _, Nat.zero_le _⟩ (fun H locs hw => ?_)
        refine lv_aload_n hx hb dX2_peakStepOf_21 rfl (lv_at hl 0 rfl) ?_
        refine lv_iload_n hx hb dX2_peakStepOf_22 rfl (lv_at hl 1 rfl) ?_
        refine lv_iload_n hx hb dX2_peakStepOf_23 rfl (lv_at hl 2 rfl) ?_
        obtain ⟨r4, e5, h⟩ := bnd_some h
        refine wcallV1 (As := [.int p1, .int v2_4]) (rest := [.int r2]) C hw (c_X2_strainAt hW ho e5) vlX2_125 ⟨Nat.le_of_ble_eq_true rfl, Nat.le_of_ble_eq_true rfl⟩ ho rfl rfl rfl hl.1 (Nat.le_of_ble_eq_true rfl) dX2_peakStepOf_24 ⟨Nat.zero_le _, Nat.zero_le _⟩ (fun H locs hw => ?_)
        refine lv_icmp_le (tgt := 32) hx hb dX2_peakStepOf_27 (by decide) (fun c6 => ?_) (fun c6 => ?_)
        · replace h := (if_pos c6).symm.trans h
          refine lv_iinc (v := (v3_4 + 1)) (lv' := [(3, .int (v3_4 + 1)), (0, .ref (P.2.2.1 o)), (1, .int p1), (2, .int v2_4)]) (k := 3) hx hb dX2_peakStepOf_32 hl rfl (congrArg (fun z => v3_4 + z) (by decide)) (by decide) rfl (fun ls hl => ?_)
          refine lv_goto (tgt := 4) hx hb dX2_peakStepOf_35 (by decide) ?_
          exact ih_4 v2_4 (v3_4 + 1) ls _ _ (lv_sub hl [1, 2, 3, 0] rfl) hw h
        · replace h := (if_neg c6).symm.trans h
          refine lv_iload_n hx hb dX2_peakStepOf_30 rfl (lv_at hl 3 rfl) ?_
          refine lv_istore_n (lv' := [(2, .int v3_4), (0, .ref (P.2.2.1 o)), (1, .int p1), (3, .int v3_4)]) hx hb dX2_peakStepOf_31 rfl hl (by decide) rfl (fun ls hl => ?_)
          refine lv_iinc (v := (v3_4 + 1)) (lv' := [(3, .int (v3_4 + 1)), (2, .int v3_4), (0, .ref (P.2.2.1 o)), (1, .int p1)]) (k := 3) hx hb dX2_peakStepOf_32 hl rfl (congrArg (fun z => v3_4 + z) (by decide)) (by decide) rfl (fun ls hl => ?_)
          refine lv_goto (tgt := 4) hx hb dX2_peakStepOf_35 (by decide) ?_
          exact ih_4 v3_4 (v3_4 + 1) ls _ _ (lv_sub hl [2, 3, 1, 0] rfl) hw h
  refine lv_iconst (v := 0) hx hb dX2_peakStepOf_0 (by decide) ?_
  refine lv_istore_n (lv' := [(2, .int 0), (0, .ref (P.2.2.1 o)), (1, .int p1)]) hx hb dX2_peakStepOf_1 rfl hl (by decide) rfl (fun ls hl => ?_)
  refine lv_iconst (v := 1) hx hb dX2_peakStepOf_2 (by decide) ?_
  refine lv_istore_n (lv' := [(3, .int 1), (2, .int 0), (0, .ref (P.2.2.1 o)), (1, .int p1)]) hx hb dX2_peakStepOf_3 rfl hl (by decide) rfl (fun ls hl => ?_)
  exact cut_4 FU 0 1 ls _ _ (lv_sub hl [2, 3, 1, 0] rfl) hw h
set_option maxRecDepth 100000 in
set_option maxHeartbeats 4000000 in
theorem c_X2_peakOf {l : Launch} {P : Wp} {E : State → Heap → Prop} (hW : Wok shC P E) {o : Nat} {p1 : Int32} {M : Mem} {r : Int32} (ho : shC.1[o]? = some (0, 2)) (h : f_X2_peakOf o p1 M = some r) : CT l shC P E yX2_peakOf bX2_peakOf 2 ((some .int)) 4 109 [.ref (P.2.2.1 o), .int p1] (some (.int r)) M M := by
  refine ct_of hW (by decide) (Nat.le_of_ble_eq_true rfl) (fun p e s m args below meth c C ls hl hw => ?_)
  have hx := C.1
  have hb := C.2.1
  replace hl : lv_has ls 2 [(0, .ref (P.2.2.1 o)), (1, .int p1)] := hl
  refine lv_aload_n hx hb dX2_peakOf_0 rfl (lv_at hl 0 rfl) ?_
  refine lv_iload_n hx hb dX2_peakOf_1 rfl (lv_at hl 1 rfl) ?_
  refine lv_aload_n hx hb dX2_peakOf_2 rfl (lv_at hl 0 rfl) ?_
  refine lv_iload_n hx hb dX2_peakOf_3 rfl (lv_at hl 1 rfl) ?_
  obtain ⟨r1, e2, h⟩ := bnd_some h
  refine wcallV1 (As := [.int p1]) (rest := [.int p1, .ref (P.2.2.1 o)]) C hw (c_X2_peakStepOf hW ho e2) vlX2_128 ⟨Nat.le_of_ble_eq_true rfl, Nat.le_of_ble_eq_true rfl⟩ ho rfl rfl rfl hl.1 (Nat.le_of_ble_eq_true rfl) dX2_peakOf_4 ⟨Nat.zero_le _, Nat.zero_le _⟩ (fun H locs hw => ?_)
  obtain ⟨r3, e4, h⟩ := bnd_some h
  refine wcallV1 (As := [.int p1, .int r1]) (rest := []) C hw (c_X2_strainAt hW ho e4) vlX2_125 ⟨Nat.le_of_ble_eq_true rfl, Nat.le_of_ble_eq_true rfl⟩ ho rfl rfl rfl hl.1 (Nat.le_of_ble_eq_true rfl) dX2_peakOf_7 ⟨Nat.zero_le _, Nat.zero_le _⟩ (fun H locs hw => ?_)
  exact wretI_R C hw h dX2_peakOf_10
set_option maxRecDepth 100000 in
set_option maxHeartbeats 4000000 in
theorem c_X2_uncrackedAt {l : Launch} {P : Wp} {E : State → Heap → Prop} (hW : Wok shC P E) {o : Nat} {p1 : Int32} {M : Mem} {r : Int32} (ho : shC.1[o]? = some (0, 2)) (h : f_X2_uncrackedAt o p1 M = some r) : CT l shC P E yX2_uncrackedAt bX2_uncrackedAt 4 ((some .int)) 0 0 [.ref (P.2.2.1 o), .int p1] (some (.int r)) M M := by
  refine ct_of hW (by decide) (Nat.le_of_ble_eq_true rfl) (fun p e s m args below meth c C ls hl hw => ?_)
  have hx := C.1
  have hb := C.2.1
  replace hl : lv_has ls 4 [(0, .ref (P.2.2.1 o)), (1, .int p1)] := hl
  have cut_4 : ∀ (n_4 : Nat) (v2_4 : Int32) (v3_4 : Int32) (ls : Array Slot) (H : Heap) (locs : List Loc), lv_has ls 4 [(0, .ref (P.2.2.1 o)), (1, .int p1), (2, .int v2_4), (3, .int v3_4)] → Hw shC P M s H locs → lq2 (L_X2_uncrackedAt_4 o p1 M) n_4 v2_4 v3_4 = some r → W p l e { frames := 0, cells := 0, slots := 0, locals := 0 } s m args below meth c H locs 0 0 (MQ below (CQ shC P E (some (.int r)) M) args s 0 0 (wA shC P)) (F0 m 4 ls []) := by
    intro n_4
    induction n_4 with
    | zero => intro v2_4 v3_4 ls H locs hl hw h; cases h
    | succ n_4 ih_4 =>
      intro v2_4 v3_4 ls H locs hl hw h
      replace h := lq2_succ h
      refine lv_iload_n hx hb dX2_uncrackedAt_4 rfl (lv_at hl 3 rfl) ?_
      refine lv_aload_n hx hb dX2_uncrackedAt_5 rfl (lv_at hl 0 rfl) ?_
      refine wgetR (t := (rC o 1)) C hw flX2_43 ho rfl dX2_uncrackedAt_6 ?_
      refine wgetI C hw flX2_66 (refC (k := 1) ho rfl : _ = some (0, 5)) dX2_uncrackedAt_9 ?_
      refine lv_icmp_ge (tgt := 47) hx hb dX2_uncrackedAt_12 (by decide) (fun c1 => ?_) (fun c1 => ?_)
      · replace h := (if_pos c1).symm.trans h
        refine lv_iload_n hx hb dX2_uncrackedAt_47 rfl (lv_at hl 2 rfl) ?_
        exact wretI_R C hw h dX2_uncrackedAt_48
      · replace h := (if_neg c1).symm.trans h
        refine lv_aload_n hx hb dX2_uncrackedAt_15 rfl (lv_at hl 0 rfl) ?_
        refine wgetR (t := (rC o 6)) C hw flX2_21 ho rfl dX2_uncrackedAt_16 ?_
        refine lv_iload_n hx hb dX2_uncrackedAt_19 rfl (lv_at hl 3 rfl) ?_
        obtain ⟨g2, h⟩ := grd h
        refine wald C hw (refC (k := 6) ho rfl : _ = some (1, 6)) g2 dX2_uncrackedAt_20 ?_
        refine lv_iconst (v := (-1)) hx hb dX2_uncrackedAt_21 (by decide) ?_
        refine lv_icmp_eq (tgt := 35) hx hb dX2_uncrackedAt_22 (by decide) (fun c3 => ?_) (fun c3 => ?_)
        · replace h := (if_pos c3).symm.trans h
          refine lv_iload_n hx hb dX2_uncrackedAt_35 rfl (lv_at hl 2 rfl) ?_
          refine lv_iconst (v := 1) hx hb dX2_uncrackedAt_36 (by decide) ?_
          refine lv_iload_n hx hb dX2_uncrackedAt_37 rfl (lv_at hl 3 rfl) ?_
          refine lv_ishl hx hb dX2_uncrackedAt_38 ?_
          refine lv_ior hx hb dX2_uncrackedAt_39 ?_
          refine lv_topi (fun x4 ex4 => ?_)
          replace h := letv_at ex4 h
          refine lv_istore_n (lv' := [(2, .int x4), (0, .ref (P.2.2.1 o)), (1, .int p1), (3, .int v3_4)]) hx hb dX2_uncrackedAt_40 rfl hl (by decide) rfl (fun ls hl => ?_)
          refine lv_iinc (v := (v3_4 + 1)) (lv' := [(3, .int (v3_4 + 1)), (2, .int x4), (0, .ref (P.2.2.1 o)), (1, .int p1)]) (k := 3) hx hb dX2_uncrackedAt_41 hl rfl (congrArg (fun z => v3_4 + z) (by decide)) (by decide) rfl (fun ls hl => ?_)
          refine lv_goto (tgt := 4) hx hb dX2_uncrackedAt_44 (by decide) ?_
          exact ih_4 x4 (v3_4 + 1) ls _ _ (lv_sub hl [2, 3, 1, 0] rfl) hw h
        · replace h := (if_neg c3).symm.trans h
          refine lv_aload_n hx hb dX2_uncrackedAt_25 rfl (lv_at hl 0 rfl) ?_
          refine wgetR (t := (rC o 6)) C hw flX2_21 ho rfl dX2_uncrackedAt_26 ?_
          refine lv_iload_n hx hb dX2_uncrackedAt_29 rfl (lv_at hl 3 rfl) ?_
          obtain ⟨g5, h⟩ := grd h
          refine wald C hw (refC (k := 6) ho rfl : _ = some (1, 6)) g5 dX2_uncrackedAt_30 ?_
          refine lv_iload_n hx hb dX2_uncrackedAt_31 rfl (lv_at hl 1 rfl) ?_
          refine lv_icmp_le (tgt := 41) hx hb dX2_uncrackedAt_32 (by decide) (fun c6 => ?_) (fun c6 => ?_)
          · replace h := (if_pos c6).symm.trans h
            refine lv_iinc (v := (v3_4 + 1)) (lv' := [(3, .int (v3_4 + 1)), (0, .ref (P.2.2.1 o)), (1, .int p1), (2, .int v2_4)]) (k := 3) hx hb dX2_uncrackedAt_41 hl rfl (congrArg (fun z => v3_4 + z) (by decide)) (by decide) rfl (fun ls hl => ?_)
            refine lv_goto (tgt := 4) hx hb dX2_uncrackedAt_44 (by decide) ?_
            exact ih_4 v2_4 (v3_4 + 1) ls _ _ (lv_sub hl [1, 2, 3, 0] rfl) hw h
          · replace h := (if_neg c6).symm.trans h
            refine lv_iload_n hx hb dX2_uncrackedAt_35 rfl (lv_at hl 2 rfl) ?_
            refine lv_iconst (v := 1) hx hb dX2_uncrackedAt_36 (by decide) ?_
            refine lv_iload_n hx hb dX2_uncrackedAt_37 rfl (lv_at hl 3 rfl) ?_
            refine lv_ishl hx hb dX2_uncrackedAt_38 ?_
            refine lv_ior hx hb dX2_uncrackedAt_39 ?_
            refine lv_topi (fun x7 ex7 => ?_)
            replace h := letv_at ex7 h
            refine lv_istore_n (lv' := [(2, .int x7), (0, .ref (P.2.2.1 o)), (1, .int p1), (3, .int v3_4)]) hx hb dX2_uncrackedAt_40 rfl hl (by decide) rfl (fun ls hl => ?_)
            refine lv_iinc (v := (v3_4 + 1)) (lv' := [(3, .int (v3_4 + 1)), (2, .int x7), (0, .ref (P.2.2.1 o)), (1, .int p1)]) (k := 3) hx hb dX2_uncrackedAt_41 hl rfl (congrArg (fun z => v3_4 + z) (by decide)) (by decide) rfl (fun ls hl => ?_)
            refine lv_goto (tgt := 4) hx hb dX2_uncrackedAt_44 (by decide) ?_
            exact ih_4 x7 (v3_4 + 1) ls _ _ (lv_sub hl [2, 3, 1, 0] rfl) hw h
  refine lv_iconst (v := 0) hx hb dX2_uncrackedAt_0 (by decide) ?_
  refine lv_istore_n (lv' := [(2, .int 0), (0, .ref (P.2.2.1 o)), (1, .int p1)]) hx hb dX2_uncrackedAt_1 rfl hl (by decide) rfl (fun ls hl => ?_)
  refine lv_iconst (v := 0) hx hb dX2_uncrackedAt_2 (by decide) ?_
  refine lv_istore_n (lv' := [(3, .int 0), (2, .int 0), (0, .ref (P.2.2.1 o)), (1, .int p1)]) hx hb dX2_uncrackedAt_3 rfl hl (by decide) rfl (fun ls hl => ?_)
  exact cut_4 FU 0 0 ls _ _ (lv_sub hl [2, 3, 1, 0] rfl) hw h
set_option maxRecDepth 100000 in
set_option maxHeartbeats 4000000 in
theorem c_X2_neverCracked {l : Launch} {P : Wp} {E : State → Heap → Prop} (hW : Wok shC P E) {o : Nat} {M : Mem} {r : Int32} (ho : shC.1[o]? = some (0, 2)) (h : f_X2_neverCracked o M = some r) : CT l shC P E yX2_neverCracked bX2_neverCracked 1 ((some .int)) 1 23 [.ref (P.2.2.1 o)] (some (.int r)) M M := by
  refine ct_of hW (by decide) (Nat.le_of_ble_eq_true rfl) (fun p e s m args below meth c C ls hl hw => ?_)
  have hx := C.1
  have hb := C.2.1
  replace hl : lv_has ls 1 [(0, .ref (P.2.2.1 o))] := hl
  refine lv_aload_n hx hb dX2_neverCracked_0 rfl (lv_at hl 0 rfl) ?_
  refine lv_bipush (v := 14) hx hb dX2_neverCracked_1 (by decide) ?_
  obtain ⟨r1, e2, h⟩ := bnd_some h
  refine wcallV1 (As := [.int 14]) (rest := []) C hw (c_X2_uncrackedAt hW ho e2) vlX2_131 ⟨Nat.le_of_ble_eq_true rfl, Nat.le_of_ble_eq_true rfl⟩ ho rfl rfl rfl hl.1 (Nat.le_of_ble_eq_true rfl) dX2_neverCracked_3 ⟨Nat.zero_le _, Nat.zero_le _⟩ (fun H locs hw => ?_)
  exact wretI_R C hw h dX2_neverCracked_6
set_option maxRecDepth 100000 in
set_option maxHeartbeats 4000000 in
theorem c_X2_crackingAt {l : Launch} {P : Wp} {E : State → Heap → Prop} (hW : Wok shC P E) {o : Nat} {p1 : Int32} {M : Mem} {r : Int32} (ho : shC.1[o]? = some (0, 2)) (h : f_X2_crackingAt o p1 M = some r) : CT l shC P E yX2_crackingAt bX2_crackingAt 2 ((some .int)) 1 23 [.ref (P.2.2.1 o), .int p1] (some (.int r)) M M := by
  refine ct_of hW (by decide) (Nat.le_of_ble_eq_true rfl) (fun p e s m args below meth c C ls hl hw => ?_)
  have hx := C.1
  have hb := C.2.1
  replace hl : lv_has ls 2 [(0, .ref (P.2.2.1 o)), (1, .int p1)] := hl
  refine lv_aload_n hx hb dX2_crackingAt_0 rfl (lv_at hl 0 rfl) ?_
  refine lv_iload_n hx hb dX2_crackingAt_1 rfl (lv_at hl 1 rfl) ?_
  refine lv_iconst (v := 1) hx hb dX2_crackingAt_2 (by decide) ?_
  refine lv_isub hx hb dX2_crackingAt_3 ?_
  obtain ⟨r1, e2, h⟩ := bnd_some h
  refine wcallV1 (As := [.int (p1 - (1 : Int32))]) (rest := []) C hw (c_X2_uncrackedAt hW ho e2) vlX2_131 ⟨Nat.le_of_ble_eq_true rfl, Nat.le_of_ble_eq_true rfl⟩ ho rfl rfl rfl hl.1 (Nat.le_of_ble_eq_true rfl) dX2_crackingAt_4 ⟨Nat.zero_le _, Nat.zero_le _⟩ (fun H locs hw => ?_)
  refine lv_aload_n hx hb dX2_crackingAt_7 rfl (lv_at hl 0 rfl) ?_
  refine lv_iload_n hx hb dX2_crackingAt_8 rfl (lv_at hl 1 rfl) ?_
  obtain ⟨r3, e4, h⟩ := bnd_some h
  refine wcallV1 (As := [.int p1]) (rest := [.int r1]) C hw (c_X2_uncrackedAt hW ho e4) vlX2_131 ⟨Nat.le_of_ble_eq_true rfl, Nat.le_of_ble_eq_true rfl⟩ ho rfl rfl rfl hl.1 (Nat.le_of_ble_eq_true rfl) dX2_crackingAt_9 ⟨Nat.zero_le _, Nat.zero_le _⟩ (fun H locs hw => ?_)
  refine lv_iconst (v := (-1)) hx hb dX2_crackingAt_12 (by decide) ?_
  refine lv_ixor hx hb dX2_crackingAt_13 ?_
  refine lv_iand hx hb dX2_crackingAt_14 ?_
  exact wretI_R C hw h dX2_crackingAt_15
set_option maxRecDepth 100000 in
set_option maxHeartbeats 4000000 in
theorem c_X2_mostOf {l : Launch} {P : Wp} {E : State → Heap → Prop} (hW : Wok shC P E) {o : Nat} {p1 : Int32} {p2 : Int32} {M : Mem} {r : Int32} (ho : shC.1[o]? = some (0, 2)) (h : f_X2_mostOf o p1 p2 M = some r) : CT l shC P E yX2_mostOf bX2_mostOf 5 ((some .int)) 2 64 [.ref (P.2.2.1 o), .int p1, .int p2] (some (.int r)) M M := by
  refine ct_of hW (by decide) (Nat.le_of_ble_eq_true rfl) (fun p e s m args below meth c C ls hl hw => ?_)
  have hx := C.1
  have hb := C.2.1
  replace hl : lv_has ls 5 [(0, .ref (P.2.2.1 o)), (1, .int p1), (2, .int p2)] := hl
  have cut_5 : ∀ (n_5 : Nat) (v3_5 : Int32) (v4_5 : Int32) (ls : Array Slot) (H : Heap) (locs : List Loc), lv_has ls 5 [(0, .ref (P.2.2.1 o)), (1, .int p1), (2, .int p2), (3, .int v3_5), (4, .int v4_5)] → Hw shC P M s H locs → lq2 (L_X2_mostOf_5 o p1 p2 M) n_5 v3_5 v4_5 = some r → W p l e { frames := 2, cells := 0, slots := 0, locals := 64 } s m args below meth c H locs 0 0 (MQ below (CQ shC P E (some (.int r)) M) args s 0 0 (wA shC P)) (F0 m 5 ls []) := by
    intro n_5
    induction n_5 with
    | zero => intro v3_5 v4_5 ls H locs hl hw h; cases h
    | succ n_5 ih_5 =>
      intro v3_5 v4_5 ls H locs hl hw h
      replace h := lq2_succ h
      refine lv_iload hx hb dX2_mostOf_5 (lv_at hl 4 rfl) ?_
      refine lv_aload_n hx hb dX2_mostOf_7 rfl (lv_at hl 0 rfl) ?_
      refine wgetR (t := (rC o 1)) C hw flX2_43 ho rfl dX2_mostOf_8 ?_
      refine wgetI C hw flX2_66 (refC (k := 1) ho rfl : _ = some (0, 5)) dX2_mostOf_11 ?_
      refine lv_icmp_ge (tgt := 62) hx hb dX2_mostOf_14 (by decide) (fun c1 => ?_) (fun c1 => ?_)
      · replace h := (if_pos c1).symm.trans h
        refine lv_iload_n hx hb dX2_mostOf_62 rfl (lv_at hl 3 rfl) ?_
        exact wretI_R C hw h dX2_mostOf_63
      · replace h := (if_neg c1).symm.trans h
        refine lv_aload_n hx hb dX2_mostOf_17 rfl (lv_at hl 0 rfl) ?_
        refine wgetR (t := (rC o 1)) C hw flX2_43 ho rfl dX2_mostOf_18 ?_
        refine lv_iload hx hb dX2_mostOf_21 (lv_at hl 4 rfl) ?_
        refine lv_iload_n hx hb dX2_mostOf_23 rfl (lv_at hl 2 rfl) ?_
        obtain ⟨r2, e3, h⟩ := bnd_some h
        refine wcallV1 (As := [.int v4_5, .int p2]) (rest := []) C hw (c_X5_hasCome hW (refC (k := 1) ho rfl : _ = some (0, 5)) e3) vlX2_134 ⟨Nat.le_of_ble_eq_true rfl, Nat.le_of_ble_eq_true rfl⟩ (refC (k := 1) ho rfl : _ = some (0, 5)) rfl rfl rfl hl.1 (Nat.le_of_ble_eq_true rfl) dX2_mostOf_24 ⟨Nat.zero_le _, Nat.zero_le _⟩ (fun H locs hw => ?_)
        refine lv_if_eq (tgt := 56) hx hb dX2_mostOf_27 (by decide) (fun c4 => ?_) (fun c4 => ?_)
        · replace h := (if_pos c4).symm.trans h
          refine lv_iinc (v := (v4_5 + 1)) (lv' := [(4, .int (v4_5 + 1)), (0, .ref (P.2.2.1 o)), (1, .int p1), (2, .int p2), (3, .int v3_5)]) (k := 4) hx hb dX2_mostOf_56 hl rfl (congrArg (fun z => v4_5 + z) (by decide)) (by decide) rfl (fun ls hl => ?_)
          refine lv_goto (tgt := 5) hx hb dX2_mostOf_59 (by decide) ?_
          exact ih_5 v3_5 (v4_5 + 1) ls _ _ (lv_sub hl [1, 2, 3, 4, 0] rfl) hw h
        · replace h := (if_neg c4).symm.trans h
          refine lv_iload_n hx hb dX2_mostOf_30 rfl (lv_at hl 3 rfl) ?_
          refine lv_iconst (v := (-1)) hx hb dX2_mostOf_31 (by decide) ?_
          refine lv_icmp_eq (tgt := 53) hx hb dX2_mostOf_32 (by decide) (fun c5 => ?_) (fun c5 => ?_)
          · replace h := (if_pos c5).symm.trans h
            refine lv_iload hx hb dX2_mostOf_53 (lv_at hl 4 rfl) ?_
            refine lv_istore_n (lv' := [(3, .int v4_5), (0, .ref (P.2.2.1 o)), (1, .int p1), (2, .int p2), (4, .int v4_5)]) hx hb dX2_mostOf_55 rfl hl (by decide) rfl (fun ls hl => ?_)
            refine lv_iinc (v := (v4_5 + 1)) (lv' := [(4, .int (v4_5 + 1)), (3, .int v4_5), (0, .ref (P.2.2.1 o)), (1, .int p1), (2, .int p2)]) (k := 4) hx hb dX2_mostOf_56 hl rfl (congrArg (fun z => v4_5 + z) (by decide)) (by decide) rfl (fun ls hl => ?_)
            refine lv_goto (tgt := 5) hx hb dX2_mostOf_59 (by decide) ?_
            exact ih_5 v4_5 (v4_5 + 1) ls _ _ (lv_sub hl [2, 3, 4, 1, 0] rfl) hw h
          · replace h := (if_neg c5).symm.trans h
            refine lv_aload_n hx hb dX2_mostOf_35 rfl (lv_at hl 0 rfl) ?_
            refine lv_iload_n hx hb dX2_mostOf_36 rfl (lv_at hl 1 rfl) ?_
            refine lv_iload hx hb dX2_mostOf_37 (lv_at hl 4 rfl) ?_
            refine lv_iload_n hx hb dX2_mostOf_39 rfl (lv_at hl 2 rfl) ?_
            obtain ⟨r6, e7, h⟩ := bnd_some h
            refine wcallV1 (As := [.int p1, .int v4_5, .int p2]) (rest := []) C hw (c_X2_valueAt hW ho e7) vlX2_116 ⟨Nat.le_of_ble_eq_true rfl, Nat.le_of_ble_eq_true rfl⟩ ho rfl rfl rfl hl.1 (Nat.le_of_ble_eq_true rfl) dX2_mostOf_40 ⟨Nat.zero_le _, Nat.zero_le _⟩ (fun H locs hw => ?_)
            refine lv_aload_n hx hb dX2_mostOf_43 rfl (lv_at hl 0 rfl) ?_
            refine lv_iload_n hx hb dX2_mostOf_44 rfl (lv_at hl 1 rfl) ?_
            refine lv_iload_n hx hb dX2_mostOf_45 rfl (lv_at hl 3 rfl) ?_
            refine lv_iload_n hx hb dX2_mostOf_46 rfl (lv_at hl 2 rfl) ?_
            obtain ⟨r8, e9, h⟩ := bnd_some h
            refine wcallV1 (As := [.int p1, .int v3_5, .int p2]) (rest := [.int r6]) C hw (c_X2_valueAt hW ho e9) vlX2_116 ⟨Nat.le_of_ble_eq_true rfl, Nat.le_of_ble_eq_true rfl⟩ ho rfl rfl rfl hl.1 (Nat.le_of_ble_eq_true rfl) dX2_mostOf_47 ⟨Nat.zero_le _, Nat.zero_le _⟩ (fun H locs hw => ?_)
            refine lv_icmp_le (tgt := 56) hx hb dX2_mostOf_50 (by decide) (fun c10 => ?_) (fun c10 => ?_)
            · replace h := (if_pos c10).symm.trans h
              refine lv_iinc (v := (v4_5 + 1)) (lv' := [(4, .int (v4_5 + 1)), (0, .ref (P.2.2.1 o)), (1, .int p1), (2, .int p2), (3, .int v3_5)]) (k := 4) hx hb dX2_mostOf_56 hl rfl (congrArg (fun z => v4_5 + z) (by decide)) (by decide) rfl (fun ls hl => ?_)
              refine lv_goto (tgt := 5) hx hb dX2_mostOf_59 (by decide) ?_
              exact ih_5 v3_5 (v4_5 + 1) ls _ _ (lv_sub hl [1, 2, 3, 4, 0] rfl) hw h
            · replace h := (if_neg c10).symm.trans h
              refine lv_iload hx hb dX2_mostOf_53 (lv_at hl 4 rfl) ?_
              refine lv_istore_n (lv' := [(3, .int v4_5), (0, .ref (P.2.2.1 o)), (1, .int p1), (2, .int p2), (4, .int v4_5)]) hx hb dX2_mostOf_55 rfl hl (by decide) rfl (fun ls hl => ?_)
              refine lv_iinc (v := (v4_5 + 1)) (lv' := [(4, .int (v4_5 + 1)), (3, .int v4_5), (0, .ref (P.2.2.1 o)), (1, .int p1), (2, .int p2)]) (k := 4) hx hb dX2_mostOf_56 hl rfl (congrArg (fun z => v4_5 + z) (by decide)) (by decide) rfl (fun ls hl => ?_)
              refine lv_goto (tgt := 5) hx hb dX2_mostOf_59 (by decide) ?_
              exact ih_5 v4_5 (v4_5 + 1) ls _ _ (lv_sub hl [2, 3, 4, 1, 0] rfl) hw h
  refine lv_iconst (v := (-1)) hx hb dX2_mostOf_0 (by decide) ?_
  refine lv_istore_n (lv' := [(3, .int (-1)), (0, .ref (P.2.2.1 o)), (1, .int p1), (2, .int p2)]) hx hb dX2_mostOf_1 rfl hl (by decide) rfl (fun ls hl => ?_)
  refine lv_iconst (v := 0) hx hb dX2_mostOf_2 (by decide) ?_
  refine lv_istore (lv' := [(4, .int 0), (3, .int (-1)), (0, .ref (P.2.2.1 o)), (1, .int p1), (2, .int p2)]) hx hb dX2_mostOf_3 hl (by decide) rfl (fun ls hl => ?_)
  exact cut_5 FU (-1) 0 ls _ _ (lv_sub hl [2, 3, 4, 1, 0] rfl) hw h
set_option maxRecDepth 100000 in
set_option maxHeartbeats 4000000 in
theorem c_X2_skinsTogether {l : Launch} {P : Wp} {E : State → Heap → Prop} (hW : Wok shC P E) {o : Nat} {p1 : Int32} {M : Mem} {r : Int32} (ho : shC.1[o]? = some (0, 2)) (h : f_X2_skinsTogether o p1 M = some r) : CT l shC P E yX2_skinsTogether bX2_skinsTogether 4 ((some .int)) 3 86 [.ref (P.2.2.1 o), .int p1] (some (.int r)) M M := by
  refine ct_of hW (by decide) (Nat.le_of_ble_eq_true rfl) (fun p e s m args below meth c C ls hl hw => ?_)
  have hx := C.1
  have hb := C.2.1
  replace hl : lv_has ls 4 [(0, .ref (P.2.2.1 o)), (1, .int p1)] := hl
  have cut_4 : ∀ (n_4 : Nat) (v2_4 : Int32) (v3_4 : Int32) (ls : Array Slot) (H : Heap) (locs : List Loc), lv_has ls 4 [(0, .ref (P.2.2.1 o)), (1, .int p1), (2, .int v2_4), (3, .int v3_4)] → Hw shC P M s H locs → lq2 (L_X2_skinsTogether_4 o p1 M) n_4 v2_4 v3_4 = some r → W p l e { frames := 3, cells := 0, slots := 0, locals := 86 } s m args below meth c H locs 0 0 (MQ below (CQ shC P E (some (.int r)) M) args s 0 0 (wA shC P)) (F0 m 4 ls []) := by
    intro n_4
    induction n_4 with
    | zero => intro v2_4 v3_4 ls H locs hl hw h; cases h
    | succ n_4 ih_4 =>
      intro v2_4 v3_4 ls H locs hl hw h
      replace h := lq2_succ h
      refine lv_iload_n hx hb dX2_skinsTogether_4 rfl (lv_at hl 3 rfl) ?_
      refine lv_aload_n hx hb dX2_skinsTogether_5 rfl (lv_at hl 0 rfl) ?_
      refine wgetR (t := (rC o 1)) C hw flX2_43 ho rfl dX2_skinsTogether_6 ?_
      refine wgetI C hw flX2_66 (refC (k := 1) ho rfl : _ = some (0, 5)) dX2_skinsTogether_9 ?_
      refine lv_icmp_ge (tgt := 42) hx hb dX2_skinsTogether_12 (by decide) (fun c1 => ?_) (fun c1 => ?_)
      · replace h := (if_pos c1).symm.trans h
        refine lv_iload_n hx hb dX2_skinsTogether_42 rfl (lv_at hl 2 rfl) ?_
        exact wretI_R C hw h dX2_skinsTogether_43
      · replace h := (if_neg c1).symm.trans h
        refine lv_aload_n hx hb dX2_skinsTogether_15 rfl (lv_at hl 0 rfl) ?_
        refine wgetR (t := (rC o 1)) C hw flX2_43 ho rfl dX2_skinsTogether_16 ?_
        refine lv_iload_n hx hb dX2_skinsTogether_19 rfl (lv_at hl 3 rfl) ?_
        refine lv_iload_n hx hb dX2_skinsTogether_20 rfl (lv_at hl 1 rfl) ?_
        obtain ⟨r2, e3, h⟩ := bnd_some h
        refine wcallV1 (As := [.int v3_4, .int p1]) (rest := []) C hw (c_X5_hasCome hW (refC (k := 1) ho rfl : _ = some (0, 5)) e3) vlX2_134 ⟨Nat.le_of_ble_eq_true rfl, Nat.le_of_ble_eq_true rfl⟩ (refC (k := 1) ho rfl : _ = some (0, 5)) rfl rfl rfl hl.1 (Nat.le_of_ble_eq_true rfl) dX2_skinsTogether_21 ⟨Nat.zero_le _, Nat.zero_le _⟩ (fun H locs hw => ?_)
        refine lv_if_eq (tgt := 36) hx hb dX2_skinsTogether_24 (by decide) (fun c4 => ?_) (fun c4 => ?_)
        · replace h := (if_pos c4).symm.trans h
          refine lv_iinc (v := (v3_4 + 1)) (lv' := [(3, .int (v3_4 + 1)), (0, .ref (P.2.2.1 o)), (1, .int p1), (2, .int v2_4)]) (k := 3) hx hb dX2_skinsTogether_36 hl rfl (congrArg (fun z => v3_4 + z) (by decide)) (by decide) rfl (fun ls hl => ?_)
          refine lv_goto (tgt := 4) hx hb dX2_skinsTogether_39 (by decide) ?_
          exact ih_4 v2_4 (v3_4 + 1) ls _ _ (lv_sub hl [1, 2, 3, 0] rfl) hw h
        · replace h := (if_neg c4).symm.trans h
          refine lv_iload_n hx hb dX2_skinsTogether_27 rfl (lv_at hl 2 rfl) ?_
          refine lv_aload_n hx hb dX2_skinsTogether_28 rfl (lv_at hl 0 rfl) ?_
          refine lv_iload_n hx hb dX2_skinsTogether_29 rfl (lv_at hl 3 rfl) ?_
          refine lv_iload_n hx hb dX2_skinsTogether_30 rfl (lv_at hl 1 rfl) ?_
          obtain ⟨r5, e6, h⟩ := bnd_some h
          refine wcallV1 (As := [.int v3_4, .int p1]) (rest := [.int v2_4]) C hw (c_X2_skinAt hW ho e6) vlX2_119 ⟨Nat.le_of_ble_eq_true rfl, Nat.le_of_ble_eq_true rfl⟩ ho rfl rfl rfl hl.1 (Nat.le_of_ble_eq_true rfl) dX2_skinsTogether_31 ⟨Nat.zero_le _, Nat.zero_le _⟩ (fun H locs hw => ?_)
          refine lv_iadd hx hb dX2_skinsTogether_34 ?_
          refine lv_topi (fun x7 ex7 => ?_)
          replace h := letv_at ex7 h
          refine lv_istore_n (lv' := [(2, .int x7), (0, .ref (P.2.2.1 o)), (1, .int p1), (3, .int v3_4)]) hx hb dX2_skinsTogether_35 rfl hl (by decide) rfl (fun ls hl => ?_)
          refine lv_iinc (v := (v3_4 + 1)) (lv' := [(3, .int (v3_4 + 1)), (2, .int x7), (0, .ref (P.2.2.1 o)), (1, .int p1)]) (k := 3) hx hb dX2_skinsTogether_36 hl rfl (congrArg (fun z => v3_4 + z) (by decide)) (by decide) rfl (fun ls hl => ?_)
          refine lv_goto (tgt := 4) hx hb dX2_skinsTogether_39 (by decide) ?_
          exact ih_4 x7 (v3_4 + 1) ls _ _ (lv_sub hl [2, 3, 1, 0] rfl) hw h
  refine lv_iconst (v := 0) hx hb dX2_skinsTogether_0 (by decide) ?_
  refine lv_istore_n (lv' := [(2, .int 0), (0, .ref (P.2.2.1 o)), (1, .int p1)]) hx hb dX2_skinsTogether_1 rfl hl (by decide) rfl (fun ls hl => ?_)
  refine lv_iconst (v := 0) hx hb dX2_skinsTogether_2 (by decide) ?_
  refine lv_istore_n (lv' := [(3, .int 0), (2, .int 0), (0, .ref (P.2.2.1 o)), (1, .int p1)]) hx hb dX2_skinsTogether_3 rfl hl (by decide) rfl (fun ls hl => ?_)
  exact cut_4 FU 0 0 ls _ _ (lv_sub hl [2, 3, 1, 0] rfl) hw h
set_option maxRecDepth 100000 in
set_option maxHeartbeats 4000000 in
theorem c_X2_skinSpread {l : Launch} {P : Wp} {E : State → Heap → Prop} (hW : Wok shC P E) {o : Nat} {p1 : Int32} {M : Mem} {r : Int32} (ho : shC.1[o]? = some (0, 2)) (h : f_X2_skinSpread o p1 M = some r) : CT l shC P E yX2_skinSpread bX2_skinSpread 5 ((some .int)) 3 88 [.ref (P.2.2.1 o), .int p1] (some (.int r)) M M := by
  refine ct_of hW (by decide) (Nat.le_of_ble_eq_true rfl) (fun p e s m args below meth c C ls hl hw => ?_)
  have hx := C.1
  have hb := C.2.1
  replace hl : lv_has ls 5 [(0, .ref (P.2.2.1 o)), (1, .int p1)] := hl
  have cut_19 : ∀ (v2_19 : Int32) (n_19 : Nat) (v3_19 : Int32) (v4_19 : Int32) (ls : Array Slot) (H : Heap) (locs : List Loc), lv_has ls 5 [(0, .ref (P.2.2.1 o)), (1, .int p1), (2, .int v2_19), (3, .int v3_19), (4, .int v4_19)] → Hw shC P M s H locs → lq2 (L_X2_skinSpread_19 o p1 M v2_19) n_19 v3_19 v4_19 = some r → W p l e { frames := 3, cells := 0, slots := 0, locals := 88 } s m args below meth c H locs 0 0 (MQ below (CQ shC P E (some (.int r)) M) args s 0 0 (wA shC P)) (F0 m 19 ls []) := by
    intro v2_19 n_19
    induction n_19 with
    | zero => intro v3_19 v4_19 ls H locs hl hw h; cases h
    | succ n_19 ih_19 =>
      intro v3_19 v4_19 ls H locs hl hw h
      replace h := lq2_succ h
      refine lv_iload hx hb dX2_skinSpread_19 (lv_at hl 4 rfl) ?_
      refine lv_aload_n hx hb dX2_skinSpread_21 rfl (lv_at hl 0 rfl) ?_
      refine wgetR (t := (rC o 1)) C hw flX2_43 ho rfl dX2_skinSpread_22 ?_
      refine wgetI C hw flX2_66 (refC (k := 1) ho rfl : _ = some (0, 5)) dX2_skinSpread_25 ?_
      refine lv_icmp_ge (tgt := 69) hx hb dX2_skinSpread_28 (by decide) (fun c4 => ?_) (fun c4 => ?_)
      · replace h := (if_pos c4).symm.trans h
        refine lv_iload_n hx hb dX2_skinSpread_69 rfl (lv_at hl 3 rfl) ?_
        exact wretI_R C hw h dX2_skinSpread_70
      · replace h := (if_neg c4).symm.trans h
        refine lv_aload_n hx hb dX2_skinSpread_31 rfl (lv_at hl 0 rfl) ?_
        refine wgetR (t := (rC o 1)) C hw flX2_43 ho rfl dX2_skinSpread_32 ?_
        refine lv_iload hx hb dX2_skinSpread_35 (lv_at hl 4 rfl) ?_
        refine lv_iload_n hx hb dX2_skinSpread_37 rfl (lv_at hl 1 rfl) ?_
        obtain ⟨r5, e6, h⟩ := bnd_some h
        refine wcallV1 (As := [.int v4_19, .int p1]) (rest := []) C hw (c_X5_hasCome hW (refC (k := 1) ho rfl : _ = some (0, 5)) e6) vlX2_134 ⟨Nat.le_of_ble_eq_true rfl, Nat.le_of_ble_eq_true rfl⟩ (refC (k := 1) ho rfl : _ = some (0, 5)) rfl rfl rfl hl.1 (Nat.le_of_ble_eq_true rfl) dX2_skinSpread_38 ⟨Nat.zero_le _, Nat.zero_le _⟩ (fun H locs hw => ?_)
        refine lv_if_eq (tgt := 63) hx hb dX2_skinSpread_41 (by decide) (fun c7 => ?_) (fun c7 => ?_)
        · replace h := (if_pos c7).symm.trans h
          refine lv_iinc (v := (v4_19 + 1)) (lv' := [(4, .int (v4_19 + 1)), (0, .ref (P.2.2.1 o)), (1, .int p1), (2, .int v2_19), (3, .int v3_19)]) (k := 4) hx hb dX2_skinSpread_63 hl rfl (congrArg (fun z => v4_19 + z) (by decide)) (by decide) rfl (fun ls hl => ?_)
          refine lv_goto (tgt := 19) hx hb dX2_skinSpread_66 (by decide) ?_
          exact ih_19 v3_19 (v4_19 + 1) ls _ _ (lv_sub hl [1, 2, 3, 4, 0] rfl) hw h
        · replace h := (if_neg c7).symm.trans h
          refine lv_iload_n hx hb dX2_skinSpread_44 rfl (lv_at hl 3 rfl) ?_
          refine lv_aload_n hx hb dX2_skinSpread_45 rfl (lv_at hl 0 rfl) ?_
          refine lv_iload_n hx hb dX2_skinSpread_46 rfl (lv_at hl 2 rfl) ?_
          refine lv_iload_n hx hb dX2_skinSpread_47 rfl (lv_at hl 1 rfl) ?_
          obtain ⟨r8, e9, h⟩ := bnd_some h
          refine wcallV1 (As := [.int v2_19, .int p1]) (rest := [.int v3_19]) C hw (c_X2_skinAt hW ho e9) vlX2_119 ⟨Nat.le_of_ble_eq_true rfl, Nat.le_of_ble_eq_true rfl⟩ ho rfl rfl rfl hl.1 (Nat.le_of_ble_eq_true rfl) dX2_skinSpread_48 ⟨Nat.zero_le _, Nat.zero_le _⟩ (fun H locs hw => ?_)
          refine lv_aload_n hx hb dX2_skinSpread_51 rfl (lv_at hl 0 rfl) ?_
          refine lv_iload hx hb dX2_skinSpread_52 (lv_at hl 4 rfl) ?_
          refine lv_iload_n hx hb dX2_skinSpread_54 rfl (lv_at hl 1 rfl) ?_
          obtain ⟨r10, e11, h⟩ := bnd_some h
          refine wcallV1 (As := [.int v4_19, .int p1]) (rest := [.int r8, .int v3_19]) C hw (c_X2_skinAt hW ho e11) vlX2_119 ⟨Nat.le_of_ble_eq_true rfl, Nat.le_of_ble_eq_true rfl⟩ ho rfl rfl rfl hl.1 (Nat.le_of_ble_eq_true rfl) dX2_skinSpread_55 ⟨Nat.zero_le _, Nat.zero_le _⟩ (fun H locs hw => ?_)
          refine lv_isub hx hb dX2_skinSpread_58 ?_
          refine wmax C mlX2_100 hl.1 (Nat.le_of_ble_eq_true rfl) (Nat.le_of_ble_eq_true rfl) (Nat.zero_le _) (Nat.zero_le _) dX2_skinSpread_59 ?_
          refine lv_topi (fun x12 ex12 => ?_)
          replace h := letv_at ex12 h
          refine lv_istore_n (lv' := [(3, .int x12), (0, .ref (P.2.2.1 o)), (1, .int p1), (2, .int v2_19), (4, .int v4_19)]) hx hb dX2_skinSpread_62 rfl hl (by decide) rfl (fun ls hl => ?_)
          refine lv_iinc (v := (v4_19 + 1)) (lv' := [(4, .int (v4_19 + 1)), (3, .int x12), (0, .ref (P.2.2.1 o)), (1, .int p1), (2, .int v2_19)]) (k := 4) hx hb dX2_skinSpread_63 hl rfl (congrArg (fun z => v4_19 + z) (by decide)) (by decide) rfl (fun ls hl => ?_)
          refine lv_goto (tgt := 19) hx hb dX2_skinSpread_66 (by decide) ?_
          exact ih_19 x12 (v4_19 + 1) ls _ _ (lv_sub hl [2, 3, 4, 1, 0] rfl) hw h
  refine lv_aload_n hx hb dX2_skinSpread_0 rfl (lv_at hl 0 rfl) ?_
  refine lv_iconst (v := 0) hx hb dX2_skinSpread_1 (by decide) ?_
  refine lv_iload_n hx hb dX2_skinSpread_2 rfl (lv_at hl 1 rfl) ?_
  obtain ⟨r1, e2, h⟩ := bnd_some h
  refine wcallV1 (As := [.int 0, .int p1]) (rest := []) C hw (c_X2_mostOf hW ho e2) vlX2_138 ⟨Nat.le_of_ble_eq_true rfl, Nat.le_of_ble_eq_true rfl⟩ ho rfl rfl rfl hl.1 (Nat.le_of_ble_eq_true rfl) dX2_skinSpread_3 ⟨Nat.zero_le _, Nat.zero_le _⟩ (fun H locs hw => ?_)
  refine lv_istore_n (lv' := [(2, .int r1), (0, .ref (P.2.2.1 o)), (1, .int p1)]) hx hb dX2_skinSpread_6 rfl hl (by decide) rfl (fun ls hl => ?_)
  refine lv_iload_n hx hb dX2_skinSpread_7 rfl (lv_at hl 0 rfl) ?_
  refine lv_iconst (v := (-1)) hx hb dX2_skinSpread_8 (by decide) ?_
  refine lv_icmp_ne (tgt := 14) hx hb dX2_skinSpread_9 (by decide) (fun c3 => ?_) (fun c3 => ?_)
  · replace h := (if_neg c3).symm.trans h
    refine lv_iconst (v := 0) hx hb dX2_skinSpread_14 (by decide) ?_
    refine lv_istore_n (lv' := [(3, .int 0), (2, .int r1), (0, .ref (P.2.2.1 o)), (1, .int p1)]) hx hb dX2_skinSpread_15 rfl hl (by decide) rfl (fun ls hl => ?_)
    refine lv_iconst (v := 0) hx hb dX2_skinSpread_16 (by decide) ?_
    refine lv_istore (lv' := [(4, .int 0), (3, .int 0), (2, .int r1), (0, .ref (P.2.2.1 o)), (1, .int p1)]) hx hb dX2_skinSpread_17 hl (by decide) rfl (fun ls hl => ?_)
    exact cut_19 r1 FU 0 0 ls _ _ (lv_sub hl [3, 4, 2, 1, 0] rfl) hw h
  · replace h := (if_pos c3).symm.trans h
    refine lv_iconst (v := 0) hx hb dX2_skinSpread_12 (by decide) ?_
    exact wretI_R C hw h dX2_skinSpread_13
set_option maxRecDepth 100000 in
set_option maxHeartbeats 4000000 in
theorem c_X2_stiffAt {l : Launch} {P : Wp} {E : State → Heap → Prop} (hW : Wok shC P E) {o : Nat} {p1 : Int32} {M : Mem} {r : Int32} (ho : shC.1[o]? = some (0, 2)) (h : f_X2_stiffAt o p1 M = some r) : CT l shC P E yX2_stiffAt bX2_stiffAt 4 ((some .int)) 2 64 [.ref (P.2.2.1 o), .int p1] (some (.int r)) M M := by
  refine ct_of hW (by decide) (Nat.le_of_ble_eq_true rfl) (fun p e s m args below meth c C ls hl hw => ?_)
  have hx := C.1
  have hb := C.2.1
  replace hl : lv_has ls 4 [(0, .ref (P.2.2.1 o)), (1, .int p1)] := hl
  have cut_4 : ∀ (n_4 : Nat) (v2_4 : Int32) (v3_4 : Int32) (ls : Array Slot) (H : Heap) (locs : List Loc), lv_has ls 4 [(0, .ref (P.2.2.1 o)), (1, .int p1), (2, .int v2_4), (3, .int v3_4)] → Hw shC P M s H locs → lq2 (L_X2_stiffAt_4 o p1 M) n_4 v2_4 v3_4 = some r → W p l e { frames := 2, cells := 0, slots := 0, locals := 64 } s m args below meth c H locs 0 0 (MQ below (CQ shC P E (some (.int r)) M) args s 0 0 (wA shC P)) (F0 m 4 ls []) := by
    intro n_4
    induction n_4 with
    | zero => intro v2_4 v3_4 ls H locs hl hw h; cases h
    | succ n_4 ih_4 =>
      intro v2_4 v3_4 ls H locs hl hw h
      replace h := lq2_succ h
      refine lv_iload_n hx hb dX2_stiffAt_4 rfl (lv_at hl 3 rfl) ?_
      refine lv_aload_n hx hb dX2_stiffAt_5 rfl (lv_at hl 0 rfl) ?_
      refine wgetR (t := (rC o 1)) C hw flX2_43 ho rfl dX2_stiffAt_6 ?_
      refine wgetI C hw flX2_66 (refC (k := 1) ho rfl : _ = some (0, 5)) dX2_stiffAt_9 ?_
      refine lv_icmp_ge (tgt := 56) hx hb dX2_stiffAt_12 (by decide) (fun c1 => ?_) (fun c1 => ?_)
      · replace h := (if_pos c1).symm.trans h
        refine lv_iload_n hx hb dX2_stiffAt_56 rfl (lv_at hl 2 rfl) ?_
        exact wretI_R C hw h dX2_stiffAt_57
      · replace h := (if_neg c1).symm.trans h
        refine lv_aload_n hx hb dX2_stiffAt_15 rfl (lv_at hl 0 rfl) ?_
        refine wgetR (t := (rC o 1)) C hw flX2_43 ho rfl dX2_stiffAt_16 ?_
        refine lv_iload_n hx hb dX2_stiffAt_19 rfl (lv_at hl 3 rfl) ?_
        refine lv_iload_n hx hb dX2_stiffAt_20 rfl (lv_at hl 1 rfl) ?_
        obtain ⟨r2, e3, h⟩ := bnd_some h
        refine wcallV1 (As := [.int v3_4, .int p1]) (rest := []) C hw (c_X5_hasCome hW (refC (k := 1) ho rfl : _ = some (0, 5)) e3) vlX2_134 ⟨Nat.le_of_ble_eq_true rfl, Nat.le_of_ble_eq_true rfl⟩ (refC (k := 1) ho rfl : _ = some (0, 5)) rfl rfl rfl hl.1 (Nat.le_of_ble_eq_true rfl) dX2_stiffAt_21 ⟨Nat.zero_le _, Nat.zero_le _⟩ (fun H locs hw => ?_)
        refine lv_if_eq (tgt := 50) hx hb dX2_stiffAt_24 (by decide) (fun c4 => ?_) (fun c4 => ?_)
        · replace h := (if_pos c4).symm.trans h
          refine lv_iinc (v := (v3_4 + 1)) (lv' := [(3, .int (v3_4 + 1)), (0, .ref (P.2.2.1 o)), (1, .int p1), (2, .int v2_4)]) (k := 3) hx hb dX2_stiffAt_50 hl rfl (congrArg (fun z => v3_4 + z) (by decide)) (by decide) rfl (fun ls hl => ?_)
          refine lv_goto (tgt := 4) hx hb dX2_stiffAt_53 (by decide) ?_
          exact ih_4 v2_4 (v3_4 + 1) ls _ _ (lv_sub hl [1, 2, 3, 0] rfl) hw h
        · replace h := (if_neg c4).symm.trans h
          refine lv_aload_n hx hb dX2_stiffAt_27 rfl (lv_at hl 0 rfl) ?_
          refine lv_iconst (v := 1) hx hb dX2_stiffAt_28 (by decide) ?_
          refine lv_iload_n hx hb dX2_stiffAt_29 rfl (lv_at hl 3 rfl) ?_
          refine lv_iload_n hx hb dX2_stiffAt_30 rfl (lv_at hl 1 rfl) ?_
          obtain ⟨r5, e6, h⟩ := bnd_some h
          refine wcallV1 (As := [.int 1, .int v3_4, .int p1]) (rest := []) C hw (c_X2_valueAt hW ho e6) vlX2_116 ⟨Nat.le_of_ble_eq_true rfl, Nat.le_of_ble_eq_true rfl⟩ ho rfl rfl rfl hl.1 (Nat.le_of_ble_eq_true rfl) dX2_stiffAt_31 ⟨Nat.zero_le _, Nat.zero_le _⟩ (fun H locs hw => ?_)
          refine lv_aload_n hx hb dX2_stiffAt_34 rfl (lv_at hl 0 rfl) ?_
          refine wgetR (t := (rC o 1)) C hw flX2_43 ho rfl dX2_stiffAt_35 ?_
          refine wgetI C hw flX2_106 (refC (k := 1) ho rfl : _ = some (0, 5)) dX2_stiffAt_38 ?_
          refine lv_icmp_ge (tgt := 50) hx hb dX2_stiffAt_41 (by decide) (fun c7 => ?_) (fun c7 => ?_)
          · replace h := (if_pos c7).symm.trans h
            refine lv_iinc (v := (v3_4 + 1)) (lv' := [(3, .int (v3_4 + 1)), (0, .ref (P.2.2.1 o)), (1, .int p1), (2, .int v2_4)]) (k := 3) hx hb dX2_stiffAt_50 hl rfl (congrArg (fun z => v3_4 + z) (by decide)) (by decide) rfl (fun ls hl => ?_)
            refine lv_goto (tgt := 4) hx hb dX2_stiffAt_53 (by decide) ?_
            exact ih_4 v2_4 (v3_4 + 1) ls _ _ (lv_sub hl [1, 2, 3, 0] rfl) hw h
          · replace h := (if_neg c7).symm.trans h
            refine lv_iload_n hx hb dX2_stiffAt_44 rfl (lv_at hl 2 rfl) ?_
            refine lv_iconst (v := 1) hx hb dX2_stiffAt_45 (by decide) ?_
            refine lv_iload_n hx hb dX2_stiffAt_46 rfl (lv_at hl 3 rfl) ?_
            refine lv_ishl hx hb dX2_stiffAt_47 ?_
            refine lv_ior hx hb dX2_stiffAt_48 ?_
            refine lv_topi (fun x8 ex8 => ?_)
            replace h := letv_at ex8 h
            refine lv_istore_n (lv' := [(2, .int x8), (0, .ref (P.2.2.1 o)), (1, .int p1), (3, .int v3_4)]) hx hb dX2_stiffAt_49 rfl hl (by decide) rfl (fun ls hl => ?_)
            refine lv_iinc (v := (v3_4 + 1)) (lv' := [(3, .int (v3_4 + 1)), (2, .int x8), (0, .ref (P.2.2.1 o)), (1, .int p1)]) (k := 3) hx hb dX2_stiffAt_50 hl rfl (congrArg (fun z => v3_4 + z) (by decide)) (by decide) rfl (fun ls hl => ?_)
            refine lv_goto (tgt := 4) hx hb dX2_stiffAt_53 (by decide) ?_
            exact ih_4 x8 (v3_4 + 1) ls _ _ (lv_sub hl [2, 3, 1, 0] rfl) hw h
  refine lv_iconst (v := 0) hx hb dX2_stiffAt_0 (by decide) ?_
  refine lv_istore_n (lv' := [(2, .int 0), (0, .ref (P.2.2.1 o)), (1, .int p1)]) hx hb dX2_stiffAt_1 rfl hl (by decide) rfl (fun ls hl => ?_)
  refine lv_iconst (v := 0) hx hb dX2_stiffAt_2 (by decide) ?_
  refine lv_istore_n (lv' := [(3, .int 0), (2, .int 0), (0, .ref (P.2.2.1 o)), (1, .int p1)]) hx hb dX2_stiffAt_3 rfl hl (by decide) rfl (fun ls hl => ?_)
  exact cut_4 FU 0 0 ls _ _ (lv_sub hl [2, 3, 1, 0] rfl) hw h
set_option maxRecDepth 100000 in
set_option maxHeartbeats 4000000 in
theorem c_X2_worstStep {l : Launch} {P : Wp} {E : State → Heap → Prop} (hW : Wok shC P E) {o : Nat} {M : Mem} {r : Int32} (ho : shC.1[o]? = some (0, 2)) (h : f_X2_worstStep o M = some r) : CT l shC P E yX2_worstStep bX2_worstStep 5 ((some .int)) 2 44 [.ref (P.2.2.1 o)] (some (.int r)) M M := by
  refine ct_of hW (by decide) (Nat.le_of_ble_eq_true rfl) (fun p e s m args below meth c C ls hl hw => ?_)
  have hx := C.1
  have hb := C.2.1
  replace hl : lv_has ls 5 [(0, .ref (P.2.2.1 o))] := hl
  have cut_6 : ∀ (n_6 : Nat) (v1_6 : Int32) (v2_6 : Int32) (v3_6 : Int32) (ls : Array Slot) (H : Heap) (locs : List Loc), lv_has ls 5 [(0, .ref (P.2.2.1 o)), (1, .int v1_6), (2, .int v2_6), (3, .int v3_6)] → Hw shC P M s H locs → lq3 (L_X2_worstStep_6 o M) n_6 v1_6 v2_6 v3_6 = some r → W p l e { frames := 2, cells := 0, slots := 0, locals := 44 } s m args below meth c H locs 0 0 (MQ below (CQ shC P E (some (.int r)) M) args s 0 0 (wA shC P)) (F0 m 6 ls []) := by
    intro n_6
    induction n_6 with
    | zero => intro v1_6 v2_6 v3_6 ls H locs hl hw h; cases h
    | succ n_6 ih_6 =>
      intro v1_6 v2_6 v3_6 ls H locs hl hw h
      replace h := lq3_succ h
      refine lv_iload_n hx hb dX2_worstStep_6 rfl (lv_at hl 3 rfl) ?_
      refine lv_aload_n hx hb dX2_worstStep_7 rfl (lv_at hl 0 rfl) ?_
      refine wgetR (t := (rC o 1)) C hw flX2_43 ho rfl dX2_worstStep_8 ?_
      refine wgetI C hw flX2_122 (refC (k := 1) ho rfl : _ = some (0, 5)) dX2_worstStep_11 ?_
      refine lv_icmp_gt (tgt := 44) hx hb dX2_worstStep_14 (by decide) (fun c1 => ?_) (fun c1 => ?_)
      · replace h := (if_pos c1).symm.trans h
        refine lv_iload_n hx hb dX2_worstStep_44 rfl (lv_at hl 1 rfl) ?_
        exact wretI_R C hw h dX2_worstStep_45
      · replace h := (if_neg c1).symm.trans h
        refine lv_aload_n hx hb dX2_worstStep_17 rfl (lv_at hl 0 rfl) ?_
        refine lv_iload_n hx hb dX2_worstStep_18 rfl (lv_at hl 3 rfl) ?_
        obtain ⟨r2, e3, h⟩ := bnd_some h
        refine wcallV1 (As := [.int v3_6]) (rest := []) C hw (c_X2_crackingAt hW ho e3) vlX2_141 ⟨Nat.le_of_ble_eq_true rfl, Nat.le_of_ble_eq_true rfl⟩ ho rfl rfl rfl hl.1 (Nat.le_of_ble_eq_true rfl) dX2_worstStep_19 ⟨Nat.zero_le _, Nat.zero_le _⟩ (fun H locs hw => ?_)
        refine wcallS1 (As := [.int r2]) (rest := []) C hw (c_J6_bitCount_0f7a4 hW  rfl) slX2_144 ⟨Nat.le_of_ble_eq_true rfl, Nat.le_of_ble_eq_true rfl⟩ rfl rfl hl.1 (Nat.le_of_ble_eq_true rfl) dX2_worstStep_22 ⟨Nat.zero_le _, Nat.zero_le _⟩ (fun H locs hw => ?_)
        refine lv_topi (fun x4 ex4 => ?_)
        replace h := letv_at ex4 h
        refine lv_istore (lv' := [(4, .int x4), (0, .ref (P.2.2.1 o)), (1, .int v1_6), (2, .int v2_6), (3, .int v3_6)]) hx hb dX2_worstStep_25 hl (by decide) rfl (fun ls hl => ?_)
        refine lv_iload hx hb dX2_worstStep_27 (lv_at hl 0 rfl) ?_
        refine lv_iload_n hx hb dX2_worstStep_29 rfl (lv_at hl 3 rfl) ?_
        refine lv_icmp_le (tgt := 38) hx hb dX2_worstStep_30 (by decide) (fun c5 => ?_) (fun c5 => ?_)
        · replace h := (if_pos c5).symm.trans h
          refine lv_iinc (v := (v3_6 + 1)) (lv' := [(3, .int (v3_6 + 1)), (4, .int x4), (0, .ref (P.2.2.1 o)), (1, .int v1_6), (2, .int v2_6)]) (k := 4) hx hb dX2_worstStep_38 hl rfl (congrArg (fun z => v3_6 + z) (by decide)) (by decide) rfl (fun ls hl => ?_)
          refine lv_goto (tgt := 6) hx hb dX2_worstStep_41 (by decide) ?_
          exact ih_6 v1_6 v2_6 (v3_6 + 1) ls _ _ (lv_sub hl [2, 3, 4, 0] rfl) hw h
        · replace h := (if_neg c5).symm.trans h
          refine lv_iload hx hb dX2_worstStep_33 (lv_at hl 0 rfl) ?_
          refine lv_istore_n (lv' := [(2, .int x4), (4, .int x4), (0, .ref (P.2.2.1 o)), (1, .int v1_6), (3, .int v3_6)]) hx hb dX2_worstStep_35 rfl hl (by decide) rfl (fun ls hl => ?_)
          refine lv_iload_n hx hb dX2_worstStep_36 rfl (lv_at hl 4 rfl) ?_
          refine lv_istore_n (lv' := [(1, .int v3_6), (2, .int x4), (4, .int x4), (0, .ref (P.2.2.1 o)), (3, .int v3_6)]) hx hb dX2_worstStep_37 rfl hl (by decide) rfl (fun ls hl => ?_)
          refine lv_iinc (v := (v3_6 + 1)) (lv' := [(3, .int (v3_6 + 1)), (1, .int v3_6), (2, .int x4), (4, .int x4), (0, .ref (P.2.2.1 o))]) (k := 4) hx hb dX2_worstStep_38 hl rfl (congrArg (fun z => v3_6 + z) (by decide)) (by decide) rfl (fun ls hl => ?_)
          refine lv_goto (tgt := 6) hx hb dX2_worstStep_41 (by decide) ?_
          exact ih_6 v3_6 x4 (v3_6 + 1) ls _ _ (lv_sub hl [4, 1, 2, 0] rfl) hw h
  refine lv_iconst (v := (-1)) hx hb dX2_worstStep_0 (by decide) ?_
  refine lv_istore_n (lv' := [(1, .int (-1)), (0, .ref (P.2.2.1 o))]) hx hb dX2_worstStep_1 rfl hl (by decide) rfl (fun ls hl => ?_)
  refine lv_iconst (v := 0) hx hb dX2_worstStep_2 (by decide) ?_
  refine lv_istore_n (lv' := [(2, .int 0), (1, .int (-1)), (0, .ref (P.2.2.1 o))]) hx hb dX2_worstStep_3 rfl hl (by decide) rfl (fun ls hl => ?_)
  refine lv_iconst (v := 0) hx hb dX2_worstStep_4 (by decide) ?_
  refine lv_istore_n (lv' := [(3, .int 0), (2, .int 0), (1, .int (-1)), (0, .ref (P.2.2.1 o))]) hx hb dX2_worstStep_5 rfl hl (by decide) rfl (fun ls hl => ?_)
  exact cut_6 FU (-1) 0 0 ls _ _ (lv_sub hl [3, 2, 1, 0] rfl) hw h
set_option maxRecDepth 100000 in
set_option maxHeartbeats 4000000 in
theorem c_X2_crackingIn {l : Launch} {P : Wp} {E : State → Heap → Prop} (hW : Wok shC P E) {o : Nat} {p1 : Int32} {M : Mem} {r : Int32} (ho : shC.1[o]? = some (0, 2)) (h : f_X2_crackingIn o p1 M = some r) : CT l shC P E yX2_crackingIn bX2_crackingIn 4 ((some .int)) 1 23 [.ref (P.2.2.1 o), .int p1] (some (.int r)) M M := by
  refine ct_of hW (by decide) (Nat.le_of_ble_eq_true rfl) (fun p e s m args below meth c C ls hl hw => ?_)
  have hx := C.1
  have hb := C.2.1
  replace hl : lv_has ls 4 [(0, .ref (P.2.2.1 o)), (1, .int p1)] := hl
  have cut_4 : ∀ (n_4 : Nat) (v2_4 : Int32) (v3_4 : Int32) (ls : Array Slot) (H : Heap) (locs : List Loc), lv_has ls 4 [(0, .ref (P.2.2.1 o)), (1, .int p1), (2, .int v2_4), (3, .int v3_4)] → Hw shC P M s H locs → lq2 (L_X2_crackingIn_4 o p1 M) n_4 v2_4 v3_4 = some r → W p l e { frames := 1, cells := 0, slots := 0, locals := 23 } s m args below meth c H locs 0 0 (MQ below (CQ shC P E (some (.int r)) M) args s 0 0 (wA shC P)) (F0 m 4 ls []) := by
    intro n_4
    induction n_4 with
    | zero => intro v2_4 v3_4 ls H locs hl hw h; cases h
    | succ n_4 ih_4 =>
      intro v2_4 v3_4 ls H locs hl hw h
      replace h := lq2_succ h
      refine lv_iload_n hx hb dX2_crackingIn_4 rfl (lv_at hl 3 rfl) ?_
      refine lv_aload_n hx hb dX2_crackingIn_5 rfl (lv_at hl 0 rfl) ?_
      refine wgetR (t := (rC o 1)) C hw flX2_43 ho rfl dX2_crackingIn_6 ?_
      refine wgetI C hw flX2_66 (refC (k := 1) ho rfl : _ = some (0, 5)) dX2_crackingIn_9 ?_
      refine lv_icmp_ge (tgt := 52) hx hb dX2_crackingIn_12 (by decide) (fun c1 => ?_) (fun c1 => ?_)
      · replace h := (if_pos c1).symm.trans h
        refine lv_iload_n hx hb dX2_crackingIn_52 rfl (lv_at hl 2 rfl) ?_
        exact wretI_R C hw h dX2_crackingIn_53
      · replace h := (if_neg c1).symm.trans h
        refine lv_aload_n hx hb dX2_crackingIn_15 rfl (lv_at hl 0 rfl) ?_
        refine wgetR (t := (rC o 6)) C hw flX2_21 ho rfl dX2_crackingIn_16 ?_
        refine lv_iload_n hx hb dX2_crackingIn_19 rfl (lv_at hl 3 rfl) ?_
        obtain ⟨g2, h⟩ := grd h
        refine wald C hw (refC (k := 6) ho rfl : _ = some (1, 6)) g2 dX2_crackingIn_20 ?_
        refine lv_iconst (v := (-1)) hx hb dX2_crackingIn_21 (by decide) ?_
        refine lv_icmp_eq (tgt := 46) hx hb dX2_crackingIn_22 (by decide) (fun c3 => ?_) (fun c3 => ?_)
        · replace h := (if_pos c3).symm.trans h
          refine lv_iinc (v := (v3_4 + 1)) (lv' := [(3, .int (v3_4 + 1)), (0, .ref (P.2.2.1 o)), (1, .int p1), (2, .int v2_4)]) (k := 3) hx hb dX2_crackingIn_46 hl rfl (congrArg (fun z => v3_4 + z) (by decide)) (by decide) rfl (fun ls hl => ?_)
          refine lv_goto (tgt := 4) hx hb dX2_crackingIn_49 (by decide) ?_
          exact ih_4 v2_4 (v3_4 + 1) ls _ _ (lv_sub hl [1, 2, 3, 0] rfl) hw h
        · replace h := (if_neg c3).symm.trans h
          refine lv_aload_n hx hb dX2_crackingIn_25 rfl (lv_at hl 0 rfl) ?_
          refine wgetR (t := (rC o 1)) C hw flX2_43 ho rfl dX2_crackingIn_26 ?_
          refine lv_iload_n hx hb dX2_crackingIn_29 rfl (lv_at hl 3 rfl) ?_
          refine lv_aload_n hx hb dX2_crackingIn_30 rfl (lv_at hl 0 rfl) ?_
          refine wgetR (t := (rC o 6)) C hw flX2_21 ho rfl dX2_crackingIn_31 ?_
          refine lv_iload_n hx hb dX2_crackingIn_34 rfl (lv_at hl 3 rfl) ?_
          obtain ⟨g4, h⟩ := grd h
          refine wald C hw (refC (k := 6) ho rfl : _ = some (1, 6)) g4 dX2_crackingIn_35 ?_
          obtain ⟨r5, e6, h⟩ := bnd_some h
          refine wcallV1 (As := [.int v3_4, .int (M.1 (rC o 6) (ix v3_4))]) (rest := []) C hw (c_X5_placeAt hW (refC (k := 1) ho rfl : _ = some (0, 5)) e6) vlX2_79 ⟨Nat.le_of_ble_eq_true rfl, Nat.le_of_ble_eq_true rfl⟩ (refC (k := 1) ho rfl : _ = some (0, 5)) rfl rfl rfl hl.1 (Nat.le_of_ble_eq_true rfl) dX2_crackingIn_36 ⟨Nat.zero_le _, Nat.zero_le _⟩ (fun H locs hw => ?_)
          refine lv_iload_n hx hb dX2_crackingIn_39 rfl (lv_at hl 1 rfl) ?_
          refine lv_icmp_ne (tgt := 46) hx hb dX2_crackingIn_40 (by decide) (fun c7 => ?_) (fun c7 => ?_)
          · replace h := (if_neg c7).symm.trans h
            refine lv_iinc (v := (v3_4 + 1)) (lv' := [(3, .int (v3_4 + 1)), (0, .ref (P.2.2.1 o)), (1, .int p1), (2, .int v2_4)]) (k := 3) hx hb dX2_crackingIn_46 hl rfl (congrArg (fun z => v3_4 + z) (by decide)) (by decide) rfl (fun ls hl => ?_)
            refine lv_goto (tgt := 4) hx hb dX2_crackingIn_49 (by decide) ?_
            exact ih_4 v2_4 (v3_4 + 1) ls _ _ (lv_sub hl [1, 2, 3, 0] rfl) hw h
          · replace h := (if_pos c7).symm.trans h
            refine lv_iinc (v := (v2_4 + 1)) (lv' := [(2, .int (v2_4 + 1)), (0, .ref (P.2.2.1 o)), (1, .int p1), (3, .int v3_4)]) (k := 2) hx hb dX2_crackingIn_43 hl rfl (congrArg (fun z => v2_4 + z) (by decide)) (by decide) rfl (fun ls hl => ?_)
            refine lv_iinc (v := (v3_4 + 1)) (lv' := [(3, .int (v3_4 + 1)), (2, .int (v2_4 + 1)), (0, .ref (P.2.2.1 o)), (1, .int p1)]) (k := 3) hx hb dX2_crackingIn_46 hl rfl (congrArg (fun z => v3_4 + z) (by decide)) (by decide) rfl (fun ls hl => ?_)
            refine lv_goto (tgt := 4) hx hb dX2_crackingIn_49 (by decide) ?_
            exact ih_4 (v2_4 + 1) (v3_4 + 1) ls _ _ (lv_sub hl [2, 3, 1, 0] rfl) hw h
  refine lv_iconst (v := 0) hx hb dX2_crackingIn_0 (by decide) ?_
  refine lv_istore_n (lv' := [(2, .int 0), (0, .ref (P.2.2.1 o)), (1, .int p1)]) hx hb dX2_crackingIn_1 rfl hl (by decide) rfl (fun ls hl => ?_)
  refine lv_iconst (v := 0) hx hb dX2_crackingIn_2 (by decide) ?_
  refine lv_istore_n (lv' := [(3, .int 0), (2, .int 0), (0, .ref (P.2.2.1 o)), (1, .int p1)]) hx hb dX2_crackingIn_3 rfl hl (by decide) rfl (fun ls hl => ?_)
  exact cut_4 FU 0 0 ls _ _ (lv_sub hl [2, 3, 1, 0] rfl) hw h
set_option maxRecDepth 100000 in
set_option maxHeartbeats 4000000 in
theorem c_X2_sorestZone {l : Launch} {P : Wp} {E : State → Heap → Prop} (hW : Wok shC P E) {o : Nat} {M : Mem} {r : Int32} (ho : shC.1[o]? = some (0, 2)) (h : f_X2_sorestZone o M = some r) : CT l shC P E yX2_sorestZone bX2_sorestZone 5 ((some .int)) 2 46 [.ref (P.2.2.1 o)] (some (.int r)) M M := by
  refine ct_of hW (by decide) (Nat.le_of_ble_eq_true rfl) (fun p e s m args below meth c C ls hl hw => ?_)
  have hx := C.1
  have hb := C.2.1
  replace hl : lv_has ls 5 [(0, .ref (P.2.2.1 o))] := hl
  have cut_6 : ∀ (n_6 : Nat) (v1_6 : Int32) (v2_6 : Int32) (v3_6 : Int32) (ls : Array Slot) (H : Heap) (locs : List Loc), lv_has ls 5 [(0, .ref (P.2.2.1 o)), (1, .int v1_6), (2, .int v2_6), (3, .int v3_6)] → Hw shC P M s H locs → lq3 (L_X2_sorestZone_6 o M) n_6 v1_6 v2_6 v3_6 = some r → W p l e { frames := 2, cells := 0, slots := 0, locals := 46 } s m args below meth c H locs 0 0 (MQ below (CQ shC P E (some (.int r)) M) args s 0 0 (wA shC P)) (F0 m 6 ls []) := by
    intro n_6
    induction n_6 with
    | zero => intro v1_6 v2_6 v3_6 ls H locs hl hw h; cases h
    | succ n_6 ih_6 =>
      intro v1_6 v2_6 v3_6 ls H locs hl hw h
      replace h := lq3_succ h
      refine lv_iload_n hx hb dX2_sorestZone_6 rfl (lv_at hl 3 rfl) ?_
      refine lv_aload_n hx hb dX2_sorestZone_7 rfl (lv_at hl 0 rfl) ?_
      refine wgetR (t := (rC o 1)) C hw flX2_43 ho rfl dX2_sorestZone_8 ?_
      refine wgetI C hw flX2_149 (refC (k := 1) ho rfl : _ = some (0, 5)) dX2_sorestZone_11 ?_
      refine lv_icmp_ge (tgt := 41) hx hb dX2_sorestZone_14 (by decide) (fun c1 => ?_) (fun c1 => ?_)
      · replace h := (if_pos c1).symm.trans h
        refine lv_iload_n hx hb dX2_sorestZone_41 rfl (lv_at hl 1 rfl) ?_
        exact wretI_R C hw h dX2_sorestZone_42
      · replace h := (if_neg c1).symm.trans h
        refine lv_aload_n hx hb dX2_sorestZone_17 rfl (lv_at hl 0 rfl) ?_
        refine lv_iload_n hx hb dX2_sorestZone_18 rfl (lv_at hl 3 rfl) ?_
        obtain ⟨r2, e3, h⟩ := bnd_some h
        refine wcallV1 (As := [.int v3_6]) (rest := []) C hw (c_X2_crackingIn hW ho e3) vlX2_152 ⟨Nat.le_of_ble_eq_true rfl, Nat.le_of_ble_eq_true rfl⟩ ho rfl rfl rfl hl.1 (Nat.le_of_ble_eq_true rfl) dX2_sorestZone_19 ⟨Nat.zero_le _, Nat.zero_le _⟩ (fun H locs hw => ?_)
        refine lv_istore (lv' := [(4, .int r2), (0, .ref (P.2.2.1 o)), (1, .int v1_6), (2, .int v2_6), (3, .int v3_6)]) hx hb dX2_sorestZone_22 hl (by decide) rfl (fun ls hl => ?_)
        refine lv_iload hx hb dX2_sorestZone_24 (lv_at hl 0 rfl) ?_
        refine lv_iload_n hx hb dX2_sorestZone_26 rfl (lv_at hl 3 rfl) ?_
        refine lv_icmp_le (tgt := 35) hx hb dX2_sorestZone_27 (by decide) (fun c4 => ?_) (fun c4 => ?_)
        · replace h := (if_pos c4).symm.trans h
          refine lv_iinc (v := (v3_6 + 1)) (lv' := [(3, .int (v3_6 + 1)), (4, .int r2), (0, .ref (P.2.2.1 o)), (1, .int v1_6), (2, .int v2_6)]) (k := 4) hx hb dX2_sorestZone_35 hl rfl (congrArg (fun z => v3_6 + z) (by decide)) (by decide) rfl (fun ls hl => ?_)
          refine lv_goto (tgt := 6) hx hb dX2_sorestZone_38 (by decide) ?_
          exact ih_6 v1_6 v2_6 (v3_6 + 1) ls _ _ (lv_sub hl [2, 3, 4, 0] rfl) hw h
        · replace h := (if_neg c4).symm.trans h
          refine lv_iload hx hb dX2_sorestZone_30 (lv_at hl 0 rfl) ?_
          refine lv_istore_n (lv' := [(2, .int r2), (4, .int r2), (0, .ref (P.2.2.1 o)), (1, .int v1_6), (3, .int v3_6)]) hx hb dX2_sorestZone_32 rfl hl (by decide) rfl (fun ls hl => ?_)
          refine lv_iload_n hx hb dX2_sorestZone_33 rfl (lv_at hl 4 rfl) ?_
          refine lv_istore_n (lv' := [(1, .int v3_6), (2, .int r2), (4, .int r2), (0, .ref (P.2.2.1 o)), (3, .int v3_6)]) hx hb dX2_sorestZone_34 rfl hl (by decide) rfl (fun ls hl => ?_)
          refine lv_iinc (v := (v3_6 + 1)) (lv' := [(3, .int (v3_6 + 1)), (1, .int v3_6), (2, .int r2), (4, .int r2), (0, .ref (P.2.2.1 o))]) (k := 4) hx hb dX2_sorestZone_35 hl rfl (congrArg (fun z => v3_6 + z) (by decide)) (by decide) rfl (fun ls hl => ?_)
          refine lv_goto (tgt := 6) hx hb dX2_sorestZone_38 (by decide) ?_
          exact ih_6 v3_6 r2 (v3_6 + 1) ls _ _ (lv_sub hl [4, 1, 2, 0] rfl) hw h
  refine lv_iconst (v := (-1)) hx hb dX2_sorestZone_0 (by decide) ?_
  refine lv_istore_n (lv' := [(1, .int (-1)), (0, .ref (P.2.2.1 o))]) hx hb dX2_sorestZone_1 rfl hl (by decide) rfl (fun ls hl => ?_)
  refine lv_iconst (v := 0) hx hb dX2_sorestZone_2 (by decide) ?_
  refine lv_istore_n (lv' := [(2, .int 0), (1, .int (-1)), (0, .ref (P.2.2.1 o))]) hx hb dX2_sorestZone_3 rfl hl (by decide) rfl (fun ls hl => ?_)
  refine lv_iconst (v := 0) hx hb dX2_sorestZone_4 (by decide) ?_
  refine lv_istore_n (lv' := [(3, .int 0), (2, .int 0), (1, .int (-1)), (0, .ref (P.2.2.1 o))]) hx hb dX2_sorestZone_5 rfl hl (by decide) rfl (fun ls hl => ?_)
  exact cut_6 FU (-1) 0 0 ls _ _ (lv_sub hl [3, 2, 1, 0] rfl) hw h
set_option maxRecDepth 100000 in
set_option maxHeartbeats 4000000 in
theorem c_X2_countOfReason {l : Launch} {P : Wp} {E : State → Heap → Prop} (hW : Wok shC P E) {o : Nat} {p1 : Int32} {M : Mem} {r : Int32} (ho : shC.1[o]? = some (0, 2)) (h : f_X2_countOfReason o p1 M = some r) : CT l shC P E yX2_countOfReason bX2_countOfReason 4 ((some .int)) 0 0 [.ref (P.2.2.1 o), .int p1] (some (.int r)) M M := by
  refine ct_of hW (by decide) (Nat.le_of_ble_eq_true rfl) (fun p e s m args below meth c C ls hl hw => ?_)
  have hx := C.1
  have hb := C.2.1
  replace hl : lv_has ls 4 [(0, .ref (P.2.2.1 o)), (1, .int p1)] := hl
  have cut_4 : ∀ (n_4 : Nat) (v2_4 : Int32) (v3_4 : Int32) (ls : Array Slot) (H : Heap) (locs : List Loc), lv_has ls 4 [(0, .ref (P.2.2.1 o)), (1, .int p1), (2, .int v2_4), (3, .int v3_4)] → Hw shC P M s H locs → lq2 (L_X2_countOfReason_4 o p1 M) n_4 v2_4 v3_4 = some r → W p l e { frames := 0, cells := 0, slots := 0, locals := 0 } s m args below meth c H locs 0 0 (MQ below (CQ shC P E (some (.int r)) M) args s 0 0 (wA shC P)) (F0 m 4 ls []) := by
    intro n_4
    induction n_4 with
    | zero => intro v2_4 v3_4 ls H locs hl hw h; cases h
    | succ n_4 ih_4 =>
      intro v2_4 v3_4 ls H locs hl hw h
      replace h := lq2_succ h
      refine lv_iload_n hx hb dX2_countOfReason_4 rfl (lv_at hl 3 rfl) ?_
      refine lv_aload_n hx hb dX2_countOfReason_5 rfl (lv_at hl 0 rfl) ?_
      refine wgetR (t := (rC o 1)) C hw flX2_43 ho rfl dX2_countOfReason_6 ?_
      refine wgetI C hw flX2_66 (refC (k := 1) ho rfl : _ = some (0, 5)) dX2_countOfReason_9 ?_
      refine lv_icmp_ge (tgt := 34) hx hb dX2_countOfReason_12 (by decide) (fun c1 => ?_) (fun c1 => ?_)
      · replace h := (if_pos c1).symm.trans h
        refine lv_iload_n hx hb dX2_countOfReason_34 rfl (lv_at hl 2 rfl) ?_
        exact wretI_R C hw h dX2_countOfReason_35
      · replace h := (if_neg c1).symm.trans h
        refine lv_aload_n hx hb dX2_countOfReason_15 rfl (lv_at hl 0 rfl) ?_
        refine wgetR (t := (rC o 7)) C hw flX2_24 ho rfl dX2_countOfReason_16 ?_
        refine lv_iload_n hx hb dX2_countOfReason_19 rfl (lv_at hl 3 rfl) ?_
        obtain ⟨g2, h⟩ := grd h
        refine wald C hw (refC (k := 7) ho rfl : _ = some (1, 6)) g2 dX2_countOfReason_20 ?_
        refine lv_iload_n hx hb dX2_countOfReason_21 rfl (lv_at hl 1 rfl) ?_
        refine lv_icmp_ne (tgt := 28) hx hb dX2_countOfReason_22 (by decide) (fun c3 => ?_) (fun c3 => ?_)
        · replace h := (if_neg c3).symm.trans h
          refine lv_iinc (v := (v3_4 + 1)) (lv' := [(3, .int (v3_4 + 1)), (0, .ref (P.2.2.1 o)), (1, .int p1), (2, .int v2_4)]) (k := 3) hx hb dX2_countOfReason_28 hl rfl (congrArg (fun z => v3_4 + z) (by decide)) (by decide) rfl (fun ls hl => ?_)
          refine lv_goto (tgt := 4) hx hb dX2_countOfReason_31 (by decide) ?_
          exact ih_4 v2_4 (v3_4 + 1) ls _ _ (lv_sub hl [1, 2, 3, 0] rfl) hw h
        · replace h := (if_pos c3).symm.trans h
          refine lv_iinc (v := (v2_4 + 1)) (lv' := [(2, .int (v2_4 + 1)), (0, .ref (P.2.2.1 o)), (1, .int p1), (3, .int v3_4)]) (k := 2) hx hb dX2_countOfReason_25 hl rfl (congrArg (fun z => v2_4 + z) (by decide)) (by decide) rfl (fun ls hl => ?_)
          refine lv_iinc (v := (v3_4 + 1)) (lv' := [(3, .int (v3_4 + 1)), (2, .int (v2_4 + 1)), (0, .ref (P.2.2.1 o)), (1, .int p1)]) (k := 3) hx hb dX2_countOfReason_28 hl rfl (congrArg (fun z => v3_4 + z) (by decide)) (by decide) rfl (fun ls hl => ?_)
          refine lv_goto (tgt := 4) hx hb dX2_countOfReason_31 (by decide) ?_
          exact ih_4 (v2_4 + 1) (v3_4 + 1) ls _ _ (lv_sub hl [2, 3, 1, 0] rfl) hw h
  refine lv_iconst (v := 0) hx hb dX2_countOfReason_0 (by decide) ?_
  refine lv_istore_n (lv' := [(2, .int 0), (0, .ref (P.2.2.1 o)), (1, .int p1)]) hx hb dX2_countOfReason_1 rfl hl (by decide) rfl (fun ls hl => ?_)
  refine lv_iconst (v := 0) hx hb dX2_countOfReason_2 (by decide) ?_
  refine lv_istore_n (lv' := [(3, .int 0), (2, .int 0), (0, .ref (P.2.2.1 o)), (1, .int p1)]) hx hb dX2_countOfReason_3 rfl hl (by decide) rfl (fun ls hl => ?_)
  exact cut_4 FU 0 0 ls _ _ (lv_sub hl [2, 3, 1, 0] rfl) hw h
set_option maxRecDepth 100000 in
set_option maxHeartbeats 4000000 in
theorem c_X2_tenseSteps {l : Launch} {P : Wp} {E : State → Heap → Prop} (hW : Wok shC P E) {o : Nat} {p1 : Int32} {M : Mem} {r : Int32} (ho : shC.1[o]? = some (0, 2)) (h : f_X2_tenseSteps o p1 M = some r) : CT l shC P E yX2_tenseSteps bX2_tenseSteps 4 ((some .int)) 3 86 [.ref (P.2.2.1 o), .int p1] (some (.int r)) M M := by
  refine ct_of hW (by decide) (Nat.le_of_ble_eq_true rfl) (fun p e s m args below meth c C ls hl hw => ?_)
  have hx := C.1
  have hb := C.2.1
  replace hl : lv_has ls 4 [(0, .ref (P.2.2.1 o)), (1, .int p1)] := hl
  have cut_4 : ∀ (n_4 : Nat) (v2_4 : Int32) (v3_4 : Int32) (ls : Array Slot) (H : Heap) (locs : List Loc), lv_has ls 4 [(0, .ref (P.2.2.1 o)), (1, .int p1), (2, .int v2_4), (3, .int v3_4)] → Hw shC P M s H locs → lq2 (L_X2_tenseSteps_4 o p1 M) n_4 v2_4 v3_4 = some r → W p l e { frames := 3, cells := 0, slots := 0, locals := 86 } s m args below meth c H locs 0 0 (MQ below (CQ shC P E (some (.int r)) M) args s 0 0 (wA shC P)) (F0 m 4 ls []) := by
    intro n_4
    induction n_4 with
    | zero => intro v2_4 v3_4 ls H locs hl hw h; cases h
    | succ n_4 ih_4 =>
      intro v2_4 v3_4 ls H locs hl hw h
      replace h := lq2_succ h
      refine lv_iload_n hx hb dX2_tenseSteps_4 rfl (lv_at hl 3 rfl) ?_
      refine lv_aload_n hx hb dX2_tenseSteps_5 rfl (lv_at hl 0 rfl) ?_
      refine wgetR (t := (rC o 1)) C hw flX2_43 ho rfl dX2_tenseSteps_6 ?_
      refine wgetI C hw flX2_122 (refC (k := 1) ho rfl : _ = some (0, 5)) dX2_tenseSteps_9 ?_
      refine lv_icmp_gt (tgt := 52) hx hb dX2_tenseSteps_12 (by decide) (fun c1 => ?_) (fun c1 => ?_)
      · replace h := (if_pos c1).symm.trans h
        refine lv_iload_n hx hb dX2_tenseSteps_52 rfl (lv_at hl 2 rfl) ?_
        exact wretI_R C hw h dX2_tenseSteps_53
      · replace h := (if_neg c1).symm.trans h
        refine lv_aload_n hx hb dX2_tenseSteps_15 rfl (lv_at hl 0 rfl) ?_
        refine wgetR (t := (rC o 1)) C hw flX2_43 ho rfl dX2_tenseSteps_16 ?_
        refine lv_iload_n hx hb dX2_tenseSteps_19 rfl (lv_at hl 1 rfl) ?_
        refine lv_iload_n hx hb dX2_tenseSteps_20 rfl (lv_at hl 3 rfl) ?_
        obtain ⟨r2, e3, h⟩ := bnd_some h
        refine wcallV1 (As := [.int p1, .int v3_4]) (rest := []) C hw (c_X5_hasCome hW (refC (k := 1) ho rfl : _ = some (0, 5)) e3) vlX2_134 ⟨Nat.le_of_ble_eq_true rfl, Nat.le_of_ble_eq_true rfl⟩ (refC (k := 1) ho rfl : _ = some (0, 5)) rfl rfl rfl hl.1 (Nat.le_of_ble_eq_true rfl) dX2_tenseSteps_21 ⟨Nat.zero_le _, Nat.zero_le _⟩ (fun H locs hw => ?_)
        refine lv_if_eq (tgt := 46) hx hb dX2_tenseSteps_24 (by decide) (fun c4 => ?_) (fun c4 => ?_)
        · replace h := (if_pos c4).symm.trans h
          refine lv_iinc (v := (v3_4 + 1)) (lv' := [(3, .int (v3_4 + 1)), (0, .ref (P.2.2.1 o)), (1, .int p1), (2, .int v2_4)]) (k := 3) hx hb dX2_tenseSteps_46 hl rfl (congrArg (fun z => v3_4 + z) (by decide)) (by decide) rfl (fun ls hl => ?_)
          refine lv_goto (tgt := 4) hx hb dX2_tenseSteps_49 (by decide) ?_
          exact ih_4 v2_4 (v3_4 + 1) ls _ _ (lv_sub hl [1, 2, 3, 0] rfl) hw h
        · replace h := (if_neg c4).symm.trans h
          refine lv_aload_n hx hb dX2_tenseSteps_27 rfl (lv_at hl 0 rfl) ?_
          refine lv_iload_n hx hb dX2_tenseSteps_28 rfl (lv_at hl 1 rfl) ?_
          refine lv_iload_n hx hb dX2_tenseSteps_29 rfl (lv_at hl 3 rfl) ?_
          obtain ⟨r5, e6, h⟩ := bnd_some h
          refine wcallV1 (As := [.int p1, .int v3_4]) (rest := []) C hw (c_X2_skinAt hW ho e6) vlX2_119 ⟨Nat.le_of_ble_eq_true rfl, Nat.le_of_ble_eq_true rfl⟩ ho rfl rfl rfl hl.1 (Nat.le_of_ble_eq_true rfl) dX2_tenseSteps_30 ⟨Nat.zero_le _, Nat.zero_le _⟩ (fun H locs hw => ?_)
          refine lv_aload_n hx hb dX2_tenseSteps_33 rfl (lv_at hl 0 rfl) ?_
          refine lv_iconst (v := 1) hx hb dX2_tenseSteps_34 (by decide) ?_
          refine lv_iload_n hx hb dX2_tenseSteps_35 rfl (lv_at hl 1 rfl) ?_
          refine lv_iload_n hx hb dX2_tenseSteps_36 rfl (lv_at hl 3 rfl) ?_
          obtain ⟨r7, e8, h⟩ := bnd_some h
          refine wcallV1 (As := [.int 1, .int p1, .int v3_4]) (rest := [.int r5]) C hw (c_X2_valueAt hW ho e8) vlX2_116 ⟨Nat.le_of_ble_eq_true rfl, Nat.le_of_ble_eq_true rfl⟩ ho rfl rfl rfl hl.1 (Nat.le_of_ble_eq_true rfl) dX2_tenseSteps_37 ⟨Nat.zero_le _, Nat.zero_le _⟩ (fun H locs hw => ?_)
          refine lv_icmp_ge (tgt := 46) hx hb dX2_tenseSteps_40 (by decide) (fun c9 => ?_) (fun c9 => ?_)
          · replace h := (if_pos c9).symm.trans h
            refine lv_iinc (v := (v3_4 + 1)) (lv' := [(3, .int (v3_4 + 1)), (0, .ref (P.2.2.1 o)), (1, .int p1), (2, .int v2_4)]) (k := 3) hx hb dX2_tenseSteps_46 hl rfl (congrArg (fun z => v3_4 + z) (by decide)) (by decide) rfl (fun ls hl => ?_)
            refine lv_goto (tgt := 4) hx hb dX2_tenseSteps_49 (by decide) ?_
            exact ih_4 v2_4 (v3_4 + 1) ls _ _ (lv_sub hl [1, 2, 3, 0] rfl) hw h
          · replace h := (if_neg c9).symm.trans h
            refine lv_iinc (v := (v2_4 + 1)) (lv' := [(2, .int (v2_4 + 1)), (0, .ref (P.2.2.1 o)), (1, .int p1), (3, .int v3_4)]) (k := 2) hx hb dX2_tenseSteps_43 hl rfl (congrArg (fun z => v2_4 + z) (by decide)) (by decide) rfl (fun ls hl => ?_)
            refine lv_iinc (v := (v3_4 + 1)) (lv' := [(3, .int (v3_4 + 1)), (2, .int (v2_4 + 1)), (0, .ref (P.2.2.1 o)), (1, .int p1)]) (k := 3) hx hb dX2_tenseSteps_46 hl rfl (congrArg (fun z => v3_4 + z) (by decide)) (by decide) rfl (fun ls hl => ?_)
            refine lv_goto (tgt := 4) hx hb dX2_tenseSteps_49 (by decide) ?_
            exact ih_4 (v2_4 + 1) (v3_4 + 1) ls _ _ (lv_sub hl [2, 3, 1, 0] rfl) hw h
  refine lv_iconst (v := 0) hx hb dX2_tenseSteps_0 (by decide) ?_
  refine lv_istore_n (lv' := [(2, .int 0), (0, .ref (P.2.2.1 o)), (1, .int p1)]) hx hb dX2_tenseSteps_1 rfl hl (by decide) rfl (fun ls hl => ?_)
  refine lv_iconst (v := 0) hx hb dX2_tenseSteps_2 (by decide) ?_
  refine lv_istore_n (lv' := [(3, .int 0), (2, .int 0), (0, .ref (P.2.2.1 o)), (1, .int p1)]) hx hb dX2_tenseSteps_3 rfl hl (by decide) rfl (fun ls hl => ?_)
  exact cut_4 FU 0 0 ls _ _ (lv_sub hl [2, 3, 1, 0] rfl) hw h
set_option maxRecDepth 100000 in
set_option maxHeartbeats 4000000 in
theorem c_X2_warmingSteps {l : Launch} {P : Wp} {E : State → Heap → Prop} (hW : Wok shC P E) {o : Nat} {p1 : Int32} {M : Mem} {r : Int32} (ho : shC.1[o]? = some (0, 2)) (h : f_X2_warmingSteps o p1 M = some r) : CT l shC P E yX2_warmingSteps bX2_warmingSteps 4 ((some .int)) 4 108 [.ref (P.2.2.1 o), .int p1] (some (.int r)) M M := by
  refine ct_of hW (by decide) (Nat.le_of_ble_eq_true rfl) (fun p e s m args below meth c C ls hl hw => ?_)
  have hx := C.1
  have hb := C.2.1
  replace hl : lv_has ls 4 [(0, .ref (P.2.2.1 o)), (1, .int p1)] := hl
  have cut_4 : ∀ (n_4 : Nat) (v2_4 : Int32) (v3_4 : Int32) (ls : Array Slot) (H : Heap) (locs : List Loc), lv_has ls 4 [(0, .ref (P.2.2.1 o)), (1, .int p1), (2, .int v2_4), (3, .int v3_4)] → Hw shC P M s H locs → lq2 (L_X2_warmingSteps_4 o p1 M) n_4 v2_4 v3_4 = some r → W p l e { frames := 4, cells := 0, slots := 0, locals := 108 } s m args below meth c H locs 0 0 (MQ below (CQ shC P E (some (.int r)) M) args s 0 0 (wA shC P)) (F0 m 4 ls []) := by
    intro n_4
    induction n_4 with
    | zero => intro v2_4 v3_4 ls H locs hl hw h; cases h
    | succ n_4 ih_4 =>
      intro v2_4 v3_4 ls H locs hl hw h
      replace h := lq2_succ h
      refine lv_iload_n hx hb dX2_warmingSteps_4 rfl (lv_at hl 3 rfl) ?_
      refine lv_aload_n hx hb dX2_warmingSteps_5 rfl (lv_at hl 0 rfl) ?_
      refine wgetR (t := (rC o 1)) C hw flX2_43 ho rfl dX2_warmingSteps_6 ?_
      refine wgetI C hw flX2_122 (refC (k := 1) ho rfl : _ = some (0, 5)) dX2_warmingSteps_9 ?_
      refine lv_icmp_ge (tgt := 33) hx hb dX2_warmingSteps_12 (by decide) (fun c1 => ?_) (fun c1 => ?_)
      · replace h := (if_pos c1).symm.trans h
        refine lv_iload_n hx hb dX2_warmingSteps_33 rfl (lv_at hl 2 rfl) ?_
        exact wretI_R C hw h dX2_warmingSteps_34
      · replace h := (if_neg c1).symm.trans h
        refine lv_aload_n hx hb dX2_warmingSteps_15 rfl (lv_at hl 0 rfl) ?_
        refine lv_iload_n hx hb dX2_warmingSteps_16 rfl (lv_at hl 1 rfl) ?_
        refine lv_iload_n hx hb dX2_warmingSteps_17 rfl (lv_at hl 3 rfl) ?_
        obtain ⟨r2, e3, h⟩ := bnd_some h
        refine wcallV1 (As := [.int p1, .int v3_4]) (rest := []) C hw (c_X2_skinFall hW ho e3) vlX2_155 ⟨Nat.le_of_ble_eq_true rfl, Nat.le_of_ble_eq_true rfl⟩ ho rfl rfl rfl hl.1 (Nat.le_of_ble_eq_true rfl) dX2_warmingSteps_18 ⟨Nat.zero_le _, Nat.zero_le _⟩ (fun H locs hw => ?_)
        refine lv_if_ge (tgt := 27) hx hb dX2_warmingSteps_21 (by decide) (fun c4 => ?_) (fun c4 => ?_)
        · replace h := (if_pos c4).symm.trans h
          refine lv_iinc (v := (v3_4 + 1)) (lv' := [(3, .int (v3_4 + 1)), (0, .ref (P.2.2.1 o)), (1, .int p1), (2, .int v2_4)]) (k := 3) hx hb dX2_warmingSteps_27 hl rfl (congrArg (fun z => v3_4 + z) (by decide)) (by decide) rfl (fun ls hl => ?_)
          refine lv_goto (tgt := 4) hx hb dX2_warmingSteps_30 (by decide) ?_
          exact ih_4 v2_4 (v3_4 + 1) ls _ _ (lv_sub hl [1, 2, 3, 0] rfl) hw h
        · replace h := (if_neg c4).symm.trans h
          refine lv_iinc (v := (v2_4 + 1)) (lv' := [(2, .int (v2_4 + 1)), (0, .ref (P.2.2.1 o)), (1, .int p1), (3, .int v3_4)]) (k := 2) hx hb dX2_warmingSteps_24 hl rfl (congrArg (fun z => v2_4 + z) (by decide)) (by decide) rfl (fun ls hl => ?_)
          refine lv_iinc (v := (v3_4 + 1)) (lv' := [(3, .int (v3_4 + 1)), (2, .int (v2_4 + 1)), (0, .ref (P.2.2.1 o)), (1, .int p1)]) (k := 3) hx hb dX2_warmingSteps_27 hl rfl (congrArg (fun z => v3_4 + z) (by decide)) (by decide) rfl (fun ls hl => ?_)
          refine lv_goto (tgt := 4) hx hb dX2_warmingSteps_30 (by decide) ?_
          exact ih_4 (v2_4 + 1) (v3_4 + 1) ls _ _ (lv_sub hl [2, 3, 1, 0] rfl) hw h
  refine lv_iconst (v := 0) hx hb dX2_warmingSteps_0 (by decide) ?_
  refine lv_istore_n (lv' := [(2, .int 0), (0, .ref (P.2.2.1 o)), (1, .int p1)]) hx hb dX2_warmingSteps_1 rfl hl (by decide) rfl (fun ls hl => ?_)
  refine lv_iconst (v := 0) hx hb dX2_warmingSteps_2 (by decide) ?_
  refine lv_istore_n (lv' := [(3, .int 0), (2, .int 0), (0, .ref (P.2.2.1 o)), (1, .int p1)]) hx hb dX2_warmingSteps_3 rfl hl (by decide) rfl (fun ls hl => ?_)
  exact cut_4 FU 0 0 ls _ _ (lv_sub hl [2, 3, 1, 0] rfl) hw h
set_option maxRecDepth 100000 in
set_option maxHeartbeats 4000000 in
theorem c_X2_firstStepAtMost {l : Launch} {P : Wp} {E : State → Heap → Prop} (hW : Wok shC P E) {o : Nat} {p1 : Int32} {p2 : Int32} {M : Mem} {r : Int32} (ho : shC.1[o]? = some (0, 2)) (h : f_X2_firstStepAtMost o p1 p2 M = some r) : CT l shC P E yX2_firstStepAtMost bX2_firstStepAtMost 4 ((some .int)) 3 86 [.ref (P.2.2.1 o), .int p1, .int p2] (some (.int r)) M M := by
  refine ct_of hW (by decide) (Nat.le_of_ble_eq_true rfl) (fun p e s m args below meth c C ls hl hw => ?_)
  have hx := C.1
  have hb := C.2.1
  replace hl : lv_has ls 4 [(0, .ref (P.2.2.1 o)), (1, .int p1), (2, .int p2)] := hl
  have cut_2 : ∀ (n_2 : Nat) (v3_2 : Int32) (ls : Array Slot) (H : Heap) (locs : List Loc), lv_has ls 4 [(0, .ref (P.2.2.1 o)), (1, .int p1), (2, .int p2), (3, .int v3_2)] → Hw shC P M s H locs → lq1 (L_X2_firstStepAtMost_2 o p1 p2 M) n_2 v3_2 = some r → W p l e { frames := 3, cells := 0, slots := 0, locals := 86 } s m args below meth c H locs 0 0 (MQ below (CQ shC P E (some (.int r)) M) args s 0 0 (wA shC P)) (F0 m 2 ls []) := by
    intro n_2
    induction n_2 with
    | zero => intro v3_2 ls H locs hl hw h; cases h
    | succ n_2 ih_2 =>
      intro v3_2 ls H locs hl hw h
      replace h := lq1_succ h
      refine lv_iload_n hx hb dX2_firstStepAtMost_2 rfl (lv_at hl 3 rfl) ?_
      refine lv_aload_n hx hb dX2_firstStepAtMost_3 rfl (lv_at hl 0 rfl) ?_
      refine wgetR (t := (rC o 1)) C hw flX2_43 ho rfl dX2_firstStepAtMost_4 ?_
      refine wgetI C hw flX2_122 (refC (k := 1) ho rfl : _ = some (0, 5)) dX2_firstStepAtMost_7 ?_
      refine lv_icmp_gt (tgt := 43) hx hb dX2_firstStepAtMost_10 (by decide) (fun c1 => ?_) (fun c1 => ?_)
      · replace h := (if_pos c1).symm.trans h
        refine lv_iconst (v := (-1)) hx hb dX2_firstStepAtMost_43 (by decide) ?_
        exact wretI_R C hw h dX2_firstStepAtMost_44
      · replace h := (if_neg c1).symm.trans h
        refine lv_aload_n hx hb dX2_firstStepAtMost_13 rfl (lv_at hl 0 rfl) ?_
        refine wgetR (t := (rC o 1)) C hw flX2_43 ho rfl dX2_firstStepAtMost_14 ?_
        refine lv_iload_n hx hb dX2_firstStepAtMost_17 rfl (lv_at hl 1 rfl) ?_
        refine lv_iload_n hx hb dX2_firstStepAtMost_18 rfl (lv_at hl 3 rfl) ?_
        obtain ⟨r2, e3, h⟩ := bnd_some h
        refine wcallV1 (As := [.int p1, .int v3_2]) (rest := []) C hw (c_X5_hasCome hW (refC (k := 1) ho rfl : _ = some (0, 5)) e3) vlX2_134 ⟨Nat.le_of_ble_eq_true rfl, Nat.le_of_ble_eq_true rfl⟩ (refC (k := 1) ho rfl : _ = some (0, 5)) rfl rfl rfl hl.1 (Nat.le_of_ble_eq_true rfl) dX2_firstStepAtMost_19 ⟨Nat.zero_le _, Nat.zero_le _⟩ (fun H locs hw => ?_)
        refine lv_if_eq (tgt := 37) hx hb dX2_firstStepAtMost_22 (by decide) (fun c4 => ?_) (fun c4 => ?_)
        · replace h := (if_pos c4).symm.trans h
          refine lv_iinc (v := (v3_2 + 1)) (lv' := [(3, .int (v3_2 + 1)), (0, .ref (P.2.2.1 o)), (1, .int p1), (2, .int p2)]) (k := 3) hx hb dX2_firstStepAtMost_37 hl rfl (congrArg (fun z => v3_2 + z) (by decide)) (by decide) rfl (fun ls hl => ?_)
          refine lv_goto (tgt := 2) hx hb dX2_firstStepAtMost_40 (by decide) ?_
          exact ih_2 (v3_2 + 1) ls _ _ (lv_sub hl [1, 2, 3, 0] rfl) hw h
        · replace h := (if_neg c4).symm.trans h
          refine lv_aload_n hx hb dX2_firstStepAtMost_25 rfl (lv_at hl 0 rfl) ?_
          refine lv_iload_n hx hb dX2_firstStepAtMost_26 rfl (lv_at hl 1 rfl) ?_
          refine lv_iload_n hx hb dX2_firstStepAtMost_27 rfl (lv_at hl 3 rfl) ?_
          obtain ⟨r5, e6, h⟩ := bnd_some h
          refine wcallV1 (As := [.int p1, .int v3_2]) (rest := []) C hw (c_X2_skinAt hW ho e6) vlX2_119 ⟨Nat.le_of_ble_eq_true rfl, Nat.le_of_ble_eq_true rfl⟩ ho rfl rfl rfl hl.1 (Nat.le_of_ble_eq_true rfl) dX2_firstStepAtMost_28 ⟨Nat.zero_le _, Nat.zero_le _⟩ (fun H locs hw => ?_)
          refine lv_iload_n hx hb dX2_firstStepAtMost_31 rfl (lv_at hl 2 rfl) ?_
          refine lv_icmp_gt (tgt := 37) hx hb dX2_firstStepAtMost_32 (by decide) (fun c7 => ?_) (fun c7 => ?_)
          · replace h := (if_pos c7).symm.trans h
            refine lv_iinc (v := (v3_2 + 1)) (lv' := [(3, .int (v3_2 + 1)), (0, .ref (P.2.2.1 o)), (1, .int p1), (2, .int p2)]) (k := 3) hx hb dX2_firstStepAtMost_37 hl rfl (congrArg (fun z => v3_2 + z) (by decide)) (by decide) rfl (fun ls hl => ?_)
            refine lv_goto (tgt := 2) hx hb dX2_firstStepAtMost_40 (by decide) ?_
            exact ih_2 (v3_2 + 1) ls _ _ (lv_sub hl [1, 2, 3, 0] rfl) hw h
          · replace h := (if_neg c7).symm.trans h
            refine lv_iload_n hx hb dX2_firstStepAtMost_35 rfl (lv_at hl 3 rfl) ?_
            exact wretI_R C hw h dX2_firstStepAtMost_36
  refine lv_iconst (v := 0) hx hb dX2_firstStepAtMost_0 (by decide) ?_
  refine lv_istore_n (lv' := [(3, .int 0), (0, .ref (P.2.2.1 o)), (1, .int p1), (2, .int p2)]) hx hb dX2_firstStepAtMost_1 rfl hl (by decide) rfl (fun ls hl => ?_)
  exact cut_2 FU 0 ls _ _ (lv_sub hl [1, 2, 3, 0] rfl) hw h
set_option maxRecDepth 100000 in
set_option maxHeartbeats 4000000 in
theorem c_X2_stillFrom {l : Launch} {P : Wp} {E : State → Heap → Prop} (hW : Wok shC P E) {o : Nat} {p1 : Int32} {M : Mem} {r : Int32} (ho : shC.1[o]? = some (0, 2)) (h : f_X2_stillFrom o p1 M = some r) : CT l shC P E yX2_stillFrom bX2_stillFrom 3 ((some .int)) 3 86 [.ref (P.2.2.1 o), .int p1] (some (.int r)) M M := by
  refine ct_of hW (by decide) (Nat.le_of_ble_eq_true rfl) (fun p e s m args below meth c C ls hl hw => ?_)
  have hx := C.1
  have hb := C.2.1
  replace hl : lv_has ls 3 [(0, .ref (P.2.2.1 o)), (1, .int p1)] := hl
  have cut_8 : ∀ (n_8 : Nat) (v2_8 : Int32) (ls : Array Slot) (H : Heap) (locs : List Loc), lv_has ls 3 [(0, .ref (P.2.2.1 o)), (1, .int p1), (2, .int v2_8)] → Hw shC P M s H locs → lq1 (L_X2_stillFrom_8 o p1 M) n_8 v2_8 = some r → W p l e { frames := 3, cells := 0, slots := 0, locals := 86 } s m args below meth c H locs 0 0 (MQ below (CQ shC P E (some (.int r)) M) args s 0 0 (wA shC P)) (F0 m 8 ls []) := by
    intro n_8
    induction n_8 with
    | zero => intro v2_8 ls H locs hl hw h; cases h
    | succ n_8 ih_8 =>
      intro v2_8 ls H locs hl hw h
      replace h := lq1_succ h
      refine lv_iload_n hx hb dX2_stillFrom_8 rfl (lv_at hl 2 rfl) ?_
      refine lv_if_le (tgt := 41) hx hb dX2_stillFrom_9 (by decide) (fun c2 => ?_) (fun c2 => ?_)
      · replace h := (if_pos c2).symm.trans h
        refine lv_iload_n hx hb dX2_stillFrom_41 rfl (lv_at hl 2 rfl) ?_
        exact wretI_R C hw h dX2_stillFrom_42
      · replace h := (if_neg c2).symm.trans h
        refine lv_aload_n hx hb dX2_stillFrom_12 rfl (lv_at hl 0 rfl) ?_
        refine lv_iload_n hx hb dX2_stillFrom_13 rfl (lv_at hl 1 rfl) ?_
        refine lv_iload_n hx hb dX2_stillFrom_14 rfl (lv_at hl 2 rfl) ?_
        refine lv_iconst (v := 1) hx hb dX2_stillFrom_15 (by decide) ?_
        refine lv_isub hx hb dX2_stillFrom_16 ?_
        obtain ⟨r3, e4, h⟩ := bnd_some h
        refine wcallV1 (As := [.int p1, .int (v2_8 - (1 : Int32))]) (rest := []) C hw (c_X2_skinAt hW ho e4) vlX2_119 ⟨Nat.le_of_ble_eq_true rfl, Nat.le_of_ble_eq_true rfl⟩ ho rfl rfl rfl hl.1 (Nat.le_of_ble_eq_true rfl) dX2_stillFrom_17 ⟨Nat.zero_le _, Nat.zero_le _⟩ (fun H locs hw => ?_)
        refine lv_aload_n hx hb dX2_stillFrom_20 rfl (lv_at hl 0 rfl) ?_
        refine lv_iload_n hx hb dX2_stillFrom_21 rfl (lv_at hl 1 rfl) ?_
        refine lv_aload_n hx hb dX2_stillFrom_22 rfl (lv_at hl 0 rfl) ?_
        refine wgetR (t := (rC o 1)) C hw flX2_43 ho rfl dX2_stillFrom_23 ?_
        refine wgetI C hw flX2_122 (refC (k := 1) ho rfl : _ = some (0, 5)) dX2_stillFrom_26 ?_
        obtain ⟨r5, e6, h⟩ := bnd_some h
        refine wcallV1 (As := [.int p1, .int (M.1 (rC o 1) 1)]) (rest := [.int r3]) C hw (c_X2_skinAt hW ho e6) vlX2_119 ⟨Nat.le_of_ble_eq_true rfl, Nat.le_of_ble_eq_true rfl⟩ ho rfl rfl rfl hl.1 (Nat.le_of_ble_eq_true rfl) dX2_stillFrom_29 ⟨Nat.zero_le _, Nat.zero_le _⟩ (fun H locs hw => ?_)
        refine lv_icmp_ne (tgt := 41) hx hb dX2_stillFrom_32 (by decide) (fun c7 => ?_) (fun c7 => ?_)
        · replace h := (if_neg c7).symm.trans h
          refine lv_iload_n hx hb dX2_stillFrom_41 rfl (lv_at hl 2 rfl) ?_
          exact wretI_R C hw h dX2_stillFrom_42
        · replace h := (if_pos c7).symm.trans h
          refine lv_iinc (v := (v2_8 + (-1))) (lv' := [(2, .int (v2_8 + (-1))), (0, .ref (P.2.2.1 o)), (1, .int p1)]) (k := 2) hx hb dX2_stillFrom_35 hl rfl (congrArg (fun z => v2_8 + z) (by decide)) (by decide) rfl (fun ls hl => ?_)
          refine lv_goto (tgt := 8) hx hb dX2_stillFrom_38 (by decide) ?_
          exact ih_8 (v2_8 + (-1)) ls _ _ (lv_sub hl [1, 2, 0] rfl) hw h
  refine lv_aload_n hx hb dX2_stillFrom_0 rfl (lv_at hl 0 rfl) ?_
  refine wgetR (t := (rC o 1)) C hw flX2_43 ho rfl dX2_stillFrom_1 ?_
  refine wgetI C hw flX2_122 (refC (k := 1) ho rfl : _ = some (0, 5)) dX2_stillFrom_4 ?_
  refine lv_topi (fun x1 ex1 => ?_)
  replace h := letv_at ex1 h
  refine lv_istore_n (lv' := [(2, .int x1), (0, .ref (P.2.2.1 o)), (1, .int p1)]) hx hb dX2_stillFrom_7 rfl hl (by decide) rfl (fun ls hl => ?_)
  exact cut_8 FU x1 ls _ _ (lv_sub hl [1, 2, 0] rfl) hw h
set_option maxRecDepth 100000 in
set_option maxHeartbeats 4000000 in
theorem c_X2_leastSkin {l : Launch} {P : Wp} {E : State → Heap → Prop} (hW : Wok shC P E) {o : Nat} {p1 : Int32} {M : Mem} {r : Int32} (ho : shC.1[o]? = some (0, 2)) (h : f_X2_leastSkin o p1 M = some r) : CT l shC P E yX2_leastSkin bX2_leastSkin 5 ((some .int)) 3 86 [.ref (P.2.2.1 o), .int p1] (some (.int r)) M M := by
  refine ct_of hW (by decide) (Nat.le_of_ble_eq_true rfl) (fun p e s m args below meth c C ls hl hw => ?_)
  have hx := C.1
  have hb := C.2.1
  replace hl : lv_has ls 5 [(0, .ref (P.2.2.1 o)), (1, .int p1)] := hl
  have cut_4 : ∀ (n_4 : Nat) (v2_4 : Int32) (v3_4 : Int32) (ls : Array Slot) (H : Heap) (locs : List Loc), lv_has ls 5 [(0, .ref (P.2.2.1 o)), (1, .int p1), (2, .int v2_4), (3, .int v3_4)] → Hw shC P M s H locs → lq2 (L_X2_leastSkin_4 o p1 M) n_4 v2_4 v3_4 = some r → W p l e { frames := 3, cells := 0, slots := 0, locals := 86 } s m args below meth c H locs 0 0 (MQ below (CQ shC P E (some (.int r)) M) args s 0 0 (wA shC P)) (F0 m 4 ls []) := by
    intro n_4
    induction n_4 with
    | zero => intro v2_4 v3_4 ls H locs hl hw h; cases h
    | succ n_4 ih_4 =>
      intro v2_4 v3_4 ls H locs hl hw h
      replace h := lq2_succ h
      refine lv_iload_n hx hb dX2_leastSkin_4 rfl (lv_at hl 3 rfl) ?_
      refine lv_aload_n hx hb dX2_leastSkin_5 rfl (lv_at hl 0 rfl) ?_
      refine wgetR (t := (rC o 1)) C hw flX2_43 ho rfl dX2_leastSkin_6 ?_
      refine wgetI C hw flX2_122 (refC (k := 1) ho rfl : _ = some (0, 5)) dX2_leastSkin_9 ?_
      refine lv_icmp_gt (tgt := 55) hx hb dX2_leastSkin_12 (by decide) (fun c1 => ?_) (fun c1 => ?_)
      · replace h := (if_pos c1).symm.trans h
        refine lv_iload_n hx hb dX2_leastSkin_55 rfl (lv_at hl 2 rfl) ?_
        exact wretI_R C hw h dX2_leastSkin_56
      · replace h := (if_neg c1).symm.trans h
        refine lv_aload_n hx hb dX2_leastSkin_15 rfl (lv_at hl 0 rfl) ?_
        refine lv_iload_n hx hb dX2_leastSkin_16 rfl (lv_at hl 1 rfl) ?_
        refine lv_iload_n hx hb dX2_leastSkin_17 rfl (lv_at hl 3 rfl) ?_
        obtain ⟨r2, e3, h⟩ := bnd_some h
        refine wcallV1 (As := [.int p1, .int v3_4]) (rest := []) C hw (c_X2_skinAt hW ho e3) vlX2_119 ⟨Nat.le_of_ble_eq_true rfl, Nat.le_of_ble_eq_true rfl⟩ ho rfl rfl rfl hl.1 (Nat.le_of_ble_eq_true rfl) dX2_leastSkin_18 ⟨Nat.zero_le _, Nat.zero_le _⟩ (fun H locs hw => ?_)
        refine lv_istore (lv' := [(4, .int r2), (0, .ref (P.2.2.1 o)), (1, .int p1), (2, .int v2_4), (3, .int v3_4)]) hx hb dX2_leastSkin_21 hl (by decide) rfl (fun ls hl => ?_)
        refine lv_aload_n hx hb dX2_leastSkin_23 rfl (lv_at hl 1 rfl) ?_
        refine wgetR (t := (rC o 1)) C hw flX2_43 ho rfl dX2_leastSkin_24 ?_
        refine lv_iload_n hx hb dX2_leastSkin_27 rfl (lv_at hl 2 rfl) ?_
        refine lv_iload_n hx hb dX2_leastSkin_28 rfl (lv_at hl 4 rfl) ?_
        obtain ⟨r4, e5, h⟩ := bnd_some h
        refine wcallV1 (As := [.int p1, .int v3_4]) (rest := []) C hw (c_X5_hasCome hW (refC (k := 1) ho rfl : _ = some (0, 5)) e5) vlX2_134 ⟨Nat.le_of_ble_eq_true rfl, Nat.le_of_ble_eq_true rfl⟩ (refC (k := 1) ho rfl : _ = some (0, 5)) rfl rfl rfl hl.1 (Nat.le_of_ble_eq_true rfl) dX2_leastSkin_29 ⟨Nat.zero_le _, Nat.zero_le _⟩ (fun H locs hw => ?_)
        refine lv_if_eq (tgt := 49) hx hb dX2_leastSkin_32 (by decide) (fun c6 => ?_) (fun c6 => ?_)
        · replace h := (if_pos c6).symm.trans h
          refine lv_iinc (v := (v3_4 + 1)) (lv' := [(3, .int (v3_4 + 1)), (4, .int r2), (0, .ref (P.2.2.1 o)), (1, .int p1), (2, .int v2_4)]) (k := 4) hx hb dX2_leastSkin_49 hl rfl (congrArg (fun z => v3_4 + z) (by decide)) (by decide) rfl (fun ls hl => ?_)
          refine lv_goto (tgt := 4) hx hb dX2_leastSkin_52 (by decide) ?_
          exact ih_4 v2_4 (v3_4 + 1) ls _ _ (lv_sub hl [2, 3, 4, 0] rfl) hw h
        · replace h := (if_neg c6).symm.trans h
          refine lv_iload_n hx hb dX2_leastSkin_35 rfl (lv_at hl 3 rfl) ?_
          refine lv_iconst (v := (-1)) hx hb dX2_leastSkin_36 (by decide) ?_
          refine lv_icmp_eq (tgt := 46) hx hb dX2_leastSkin_37 (by decide) (fun c7 => ?_) (fun c7 => ?_)
          · replace h := (if_pos c7).symm.trans h
            refine lv_iload hx hb dX2_leastSkin_46 (lv_at hl 0 rfl) ?_
            refine lv_istore_n (lv' := [(2, .int r2), (4, .int r2), (0, .ref (P.2.2.1 o)), (1, .int p1), (3, .int v3_4)]) hx hb dX2_leastSkin_48 rfl hl (by decide) rfl (fun ls hl => ?_)
            refine lv_iinc (v := (v3_4 + 1)) (lv' := [(3, .int (v3_4 + 1)), (2, .int r2), (4, .int r2), (0, .ref (P.2.2.1 o)), (1, .int p1)]) (k := 4) hx hb dX2_leastSkin_49 hl rfl (congrArg (fun z => v3_4 + z) (by decide)) (by decide) rfl (fun ls hl => ?_)
            refine lv_goto (tgt := 4) hx hb dX2_leastSkin_52 (by decide) ?_
            exact ih_4 r2 (v3_4 + 1) ls _ _ (lv_sub hl [3, 4, 1, 0] rfl) hw h
          · replace h := (if_neg c7).symm.trans h
            refine lv_iload hx hb dX2_leastSkin_40 (lv_at hl 0 rfl) ?_
            refine lv_iload_n hx hb dX2_leastSkin_42 rfl (lv_at hl 3 rfl) ?_
            refine lv_icmp_ge (tgt := 49) hx hb dX2_leastSkin_43 (by decide) (fun c8 => ?_) (fun c8 => ?_)
            · replace h := (if_pos c8).symm.trans h
              refine lv_iinc (v := (v3_4 + 1)) (lv' := [(3, .int (v3_4 + 1)), (4, .int r2), (0, .ref (P.2.2.1 o)), (1, .int p1), (2, .int v2_4)]) (k := 4) hx hb dX2_leastSkin_49 hl rfl (congrArg (fun z => v3_4 + z) (by decide)) (by decide) rfl (fun ls hl => ?_)
              refine lv_goto (tgt := 4) hx hb dX2_leastSkin_52 (by decide) ?_
              exact ih_4 v2_4 (v3_4 + 1) ls _ _ (lv_sub hl [2, 3, 4, 0] rfl) hw h
            · replace h := (if_neg c8).symm.trans h
              refine lv_iload hx hb dX2_leastSkin_46 (lv_at hl 0 rfl) ?_
              refine lv_istore_n (lv' := [(2, .int r2), (4, .int r2), (0, .ref (P.2.2.1 o)), (1, .int p1), (3, .int v3_4)]) hx hb dX2_leastSkin_48 rfl hl (by decide) rfl (fun ls hl => ?_)
              refine lv_iinc (v := (v3_4 + 1)) (lv' := [(3, .int (v3_4 + 1)), (2, .int r2), (4, .int r2), (0, .ref (P.2.2.1 o)), (1, .int p1)]) (k := 4) hx hb dX2_leastSkin_49 hl rfl (congrArg (fun z => v3_4 + z) (by decide)) (by decide) rfl (fun ls hl => ?_)
              refine lv_goto (tgt := 4) hx hb dX2_leastSkin_52 (by decide) ?_
              exact ih_4 r2 (v3_4 + 1) ls _ _ (lv_sub hl [3, 4, 1, 0] rfl) hw h
  refine lv_iconst (v := (-1)) hx hb dX2_leastSkin_0 (by decide) ?_
  refine lv_istore_n (lv' := [(2, .int (-1)), (0, .ref (P.2.2.1 o)), (1, .int p1)]) hx hb dX2_leastSkin_1 rfl hl (by decide) rfl (fun ls hl => ?_)
  refine lv_iconst (v := 0) hx hb dX2_leastSkin_2 (by decide) ?_
  refine lv_istore_n (lv' := [(3, .int 0), (2, .int (-1)), (0, .ref (P.2.2.1 o)), (1, .int p1)]) hx hb dX2_leastSkin_3 rfl hl (by decide) rfl (fun ls hl => ?_)
  exact cut_4 FU (-1) 0 ls _ _ (lv_sub hl [2, 3, 1, 0] rfl) hw h
set_option maxRecDepth 100000 in
set_option maxHeartbeats 4000000 in
theorem c_X2_chillStep {l : Launch} {P : Wp} {E : State → Heap → Prop} (hW : Wok shC P E) {o : Nat} {p1 : Int32} {M : Mem} {r : Int32} (ho : shC.1[o]? = some (0, 2)) (h : f_X2_chillStep o p1 M = some r) : CT l shC P E yX2_chillStep bX2_chillStep 5 ((some .int)) 4 108 [.ref (P.2.2.1 o), .int p1] (some (.int r)) M M := by
  refine ct_of hW (by decide) (Nat.le_of_ble_eq_true rfl) (fun p e s m args below meth c C ls hl hw => ?_)
  have hx := C.1
  have hb := C.2.1
  replace hl : lv_has ls 5 [(0, .ref (P.2.2.1 o)), (1, .int p1)] := hl
  have cut_7 : ∀ (n_7 : Nat) (v2_7 : Int32) (v3_7 : Int32) (v4_7 : Int32) (ls : Array Slot) (H : Heap) (locs : List Loc), lv_has ls 5 [(0, .ref (P.2.2.1 o)), (1, .int p1), (2, .int v2_7), (3, .int v3_7), (4, .int v4_7)] → Hw shC P M s H locs → lq3 (L_X2_chillStep_7 o p1 M) n_7 v2_7 v3_7 v4_7 = some r → W p l e { frames := 4, cells := 0, slots := 0, locals := 108 } s m args below meth c H locs 0 0 (MQ below (CQ shC P E (some (.int r)) M) args s 0 0 (wA shC P)) (F0 m 7 ls []) := by
    intro n_7
    induction n_7 with
    | zero => intro v2_7 v3_7 v4_7 ls H locs hl hw h; cases h
    | succ n_7 ih_7 =>
      intro v2_7 v3_7 v4_7 ls H locs hl hw h
      replace h := lq3_succ h
      refine lv_iload hx hb dX2_chillStep_7 (lv_at hl 4 rfl) ?_
      refine lv_aload_n hx hb dX2_chillStep_9 rfl (lv_at hl 0 rfl) ?_
      refine wgetR (t := (rC o 1)) C hw flX2_43 ho rfl dX2_chillStep_10 ?_
      refine wgetI C hw flX2_122 (refC (k := 1) ho rfl : _ = some (0, 5)) dX2_chillStep_13 ?_
      refine lv_icmp_ge (tgt := 47) hx hb dX2_chillStep_16 (by decide) (fun c1 => ?_) (fun c1 => ?_)
      · replace h := (if_pos c1).symm.trans h
        refine lv_iload_n hx hb dX2_chillStep_47 rfl (lv_at hl 2 rfl) ?_
        exact wretI_R C hw h dX2_chillStep_48
      · replace h := (if_neg c1).symm.trans h
        refine lv_aload_n hx hb dX2_chillStep_19 rfl (lv_at hl 0 rfl) ?_
        refine lv_iload_n hx hb dX2_chillStep_20 rfl (lv_at hl 1 rfl) ?_
        refine lv_iload hx hb dX2_chillStep_21 (lv_at hl 4 rfl) ?_
        obtain ⟨r2, e3, h⟩ := bnd_some h
        refine wcallV1 (As := [.int p1, .int v4_7]) (rest := []) C hw (c_X2_skinFall hW ho e3) vlX2_155 ⟨Nat.le_of_ble_eq_true rfl, Nat.le_of_ble_eq_true rfl⟩ ho rfl rfl rfl hl.1 (Nat.le_of_ble_eq_true rfl) dX2_chillStep_23 ⟨Nat.zero_le _, Nat.zero_le _⟩ (fun H locs hw => ?_)
        refine lv_iload_n hx hb dX2_chillStep_26 rfl (lv_at hl 3 rfl) ?_
        refine lv_icmp_le (tgt := 41) hx hb dX2_chillStep_27 (by decide) (fun c4 => ?_) (fun c4 => ?_)
        · replace h := (if_pos c4).symm.trans h
          refine lv_iinc (v := (v4_7 + 1)) (lv' := [(4, .int (v4_7 + 1)), (0, .ref (P.2.2.1 o)), (1, .int p1), (2, .int v2_7), (3, .int v3_7)]) (k := 4) hx hb dX2_chillStep_41 hl rfl (congrArg (fun z => v4_7 + z) (by decide)) (by decide) rfl (fun ls hl => ?_)
          refine lv_goto (tgt := 7) hx hb dX2_chillStep_44 (by decide) ?_
          exact ih_7 v2_7 v3_7 (v4_7 + 1) ls _ _ (lv_sub hl [1, 2, 3, 4, 0] rfl) hw h
        · replace h := (if_neg c4).symm.trans h
          refine lv_aload_n hx hb dX2_chillStep_30 rfl (lv_at hl 0 rfl) ?_
          refine lv_iload_n hx hb dX2_chillStep_31 rfl (lv_at hl 1 rfl) ?_
          refine lv_iload hx hb dX2_chillStep_32 (lv_at hl 4 rfl) ?_
          obtain ⟨r5, e6, h⟩ := bnd_some h
          refine wcallV1 (As := [.int p1, .int v4_7]) (rest := []) C hw (c_X2_skinFall hW ho e6) vlX2_155 ⟨Nat.le_of_ble_eq_true rfl, Nat.le_of_ble_eq_true rfl⟩ ho rfl rfl rfl hl.1 (Nat.le_of_ble_eq_true rfl) dX2_chillStep_34 ⟨Nat.zero_le _, Nat.zero_le _⟩ (fun H locs hw => ?_)
          refine lv_istore_n (lv' := [(3, .int r5), (0, .ref (P.2.2.1 o)), (1, .int p1), (2, .int v2_7), (4, .int v4_7)]) hx hb dX2_chillStep_37 rfl hl (by decide) rfl (fun ls hl => ?_)
          refine lv_iload hx hb dX2_chillStep_38 (lv_at hl 4 rfl) ?_
          refine lv_istore_n (lv' := [(2, .int v4_7), (3, .int r5), (0, .ref (P.2.2.1 o)), (1, .int p1), (4, .int v4_7)]) hx hb dX2_chillStep_40 rfl hl (by decide) rfl (fun ls hl => ?_)
          refine lv_iinc (v := (v4_7 + 1)) (lv' := [(4, .int (v4_7 + 1)), (2, .int v4_7), (3, .int r5), (0, .ref (P.2.2.1 o)), (1, .int p1)]) (k := 4) hx hb dX2_chillStep_41 hl rfl (congrArg (fun z => v4_7 + z) (by decide)) (by decide) rfl (fun ls hl => ?_)
          refine lv_goto (tgt := 7) hx hb dX2_chillStep_44 (by decide) ?_
          exact ih_7 v4_7 r5 (v4_7 + 1) ls _ _ (lv_sub hl [3, 4, 1, 2, 0] rfl) hw h
  refine lv_iconst (v := (-1)) hx hb dX2_chillStep_0 (by decide) ?_
  refine lv_istore_n (lv' := [(2, .int (-1)), (0, .ref (P.2.2.1 o)), (1, .int p1)]) hx hb dX2_chillStep_1 rfl hl (by decide) rfl (fun ls hl => ?_)
  refine lv_iconst (v := 0) hx hb dX2_chillStep_2 (by decide) ?_
  refine lv_istore_n (lv' := [(3, .int 0), (2, .int (-1)), (0, .ref (P.2.2.1 o)), (1, .int p1)]) hx hb dX2_chillStep_3 rfl hl (by decide) rfl (fun ls hl => ?_)
  refine lv_iconst (v := 0) hx hb dX2_chillStep_4 (by decide) ?_
  refine lv_istore (lv' := [(4, .int 0), (3, .int 0), (2, .int (-1)), (0, .ref (P.2.2.1 o)), (1, .int p1)]) hx hb dX2_chillStep_5 hl (by decide) rfl (fun ls hl => ?_)
  exact cut_7 FU (-1) 0 0 ls _ _ (lv_sub hl [3, 4, 2, 1, 0] rfl) hw h
set_option maxRecDepth 100000 in
set_option maxHeartbeats 4000000 in
theorem c_X2_strainedSteps {l : Launch} {P : Wp} {E : State → Heap → Prop} (hW : Wok shC P E) {o : Nat} {p1 : Int32} {M : Mem} {r : Int32} (ho : shC.1[o]? = some (0, 2)) (h : f_X2_strainedSteps o p1 M = some r) : CT l shC P E yX2_strainedSteps bX2_strainedSteps 4 ((some .int)) 3 86 [.ref (P.2.2.1 o), .int p1] (some (.int r)) M M := by
  refine ct_of hW (by decide) (Nat.le_of_ble_eq_true rfl) (fun p e s m args below meth c C ls hl hw => ?_)
  have hx := C.1
  have hb := C.2.1
  replace hl : lv_has ls 4 [(0, .ref (P.2.2.1 o)), (1, .int p1)] := hl
  have cut_17 : ∀ (n_17 : Nat) (v2_17 : Int32) (v3_17 : Int32) (ls : Array Slot) (H : Heap) (locs : List Loc), lv_has ls 4 [(0, .ref (P.2.2.1 o)), (1, .int p1), (2, .int v2_17), (3, .int v3_17)] → Hw shC P M s H locs → lq2 (L_X2_strainedSteps_17 o p1 M) n_17 v2_17 v3_17 = some r → W p l e { frames := 3, cells := 0, slots := 0, locals := 86 } s m args below meth c H locs 0 0 (MQ below (CQ shC P E (some (.int r)) M) args s 0 0 (wA shC P)) (F0 m 17 ls []) := by
    intro n_17
    induction n_17 with
    | zero => intro v2_17 v3_17 ls H locs hl hw h; cases h
    | succ n_17 ih_17 =>
      intro v2_17 v3_17 ls H locs hl hw h
      replace h := lq2_succ h
      refine lv_iload_n hx hb dX2_strainedSteps_17 rfl (lv_at hl 3 rfl) ?_
      refine lv_aload_n hx hb dX2_strainedSteps_18 rfl (lv_at hl 0 rfl) ?_
      refine wgetR (t := (rC o 1)) C hw flX2_43 ho rfl dX2_strainedSteps_19 ?_
      refine wgetI C hw flX2_122 (refC (k := 1) ho rfl : _ = some (0, 5)) dX2_strainedSteps_22 ?_
      refine lv_icmp_gt (tgt := 57) hx hb dX2_strainedSteps_25 (by decide) (fun c2 => ?_) (fun c2 => ?_)
      · replace h := (if_pos c2).symm.trans h
        refine lv_iload_n hx hb dX2_strainedSteps_57 rfl (lv_at hl 2 rfl) ?_
        exact wretI_R C hw h dX2_strainedSteps_58
      · replace h := (if_neg c2).symm.trans h
        refine lv_aload_n hx hb dX2_strainedSteps_28 rfl (lv_at hl 0 rfl) ?_
        refine lv_iload_n hx hb dX2_strainedSteps_29 rfl (lv_at hl 1 rfl) ?_
        refine lv_iload_n hx hb dX2_strainedSteps_30 rfl (lv_at hl 3 rfl) ?_
        obtain ⟨r3, e4, h⟩ := bnd_some h
        refine wcallV1 (As := [.int p1, .int v3_17]) (rest := []) C hw (c_X2_strainAt hW ho e4) vlX2_125 ⟨Nat.le_of_ble_eq_true rfl, Nat.le_of_ble_eq_true rfl⟩ ho rfl rfl rfl hl.1 (Nat.le_of_ble_eq_true rfl) dX2_strainedSteps_31 ⟨Nat.zero_le _, Nat.zero_le _⟩ (fun H locs hw => ?_)
        refine lv_aload_n hx hb dX2_strainedSteps_34 rfl (lv_at hl 0 rfl) ?_
        refine wgetR (t := (rC o 1)) C hw flX2_43 ho rfl dX2_strainedSteps_35 ?_
        refine wgetR (t := (rC (rC o 1) 11)) C hw flX2_109 (refC (k := 1) ho rfl : _ = some (0, 5)) rfl dX2_strainedSteps_38 ?_
        refine lv_iload_n hx hb dX2_strainedSteps_41 rfl (lv_at hl 1 rfl) ?_
        obtain ⟨g5, h⟩ := grd h
        refine wald C hw (refC (k := 11) (refC (k := 1) ho rfl : _ = some (0, 5)) rfl : _ = some (1, 6)) g5 dX2_strainedSteps_42 ?_
        refine lv_iconst (v := 2) hx hb dX2_strainedSteps_43 (by decide) ?_
        refine lv_idiv hx hb dX2_strainedSteps_44 (by decide) ?_
        refine lv_icmp_le (tgt := 51) hx hb dX2_strainedSteps_45 (by decide) (fun c6 => ?_) (fun c6 => ?_)
        · replace h := (if_pos c6).symm.trans h
          refine lv_iinc (v := (v3_17 + 1)) (lv' := [(3, .int (v3_17 + 1)), (0, .ref (P.2.2.1 o)), (1, .int p1), (2, .int v2_17)]) (k := 3) hx hb dX2_strainedSteps_51 hl rfl (congrArg (fun z => v3_17 + z) (by decide)) (by decide) rfl (fun ls hl => ?_)
          refine lv_goto (tgt := 17) hx hb dX2_strainedSteps_54 (by decide) ?_
          exact ih_17 v2_17 (v3_17 + 1) ls _ _ (lv_sub hl [1, 2, 3, 0] rfl) hw h
        · replace h := (if_neg c6).symm.trans h
          refine lv_iinc (v := (v2_17 + 1)) (lv' := [(2, .int (v2_17 + 1)), (0, .ref (P.2.2.1 o)), (1, .int p1), (3, .int v3_17)]) (k := 2) hx hb dX2_strainedSteps_48 hl rfl (congrArg (fun z => v2_17 + z) (by decide)) (by decide) rfl (fun ls hl => ?_)
          refine lv_iinc (v := (v3_17 + 1)) (lv' := [(3, .int (v3_17 + 1)), (2, .int (v2_17 + 1)), (0, .ref (P.2.2.1 o)), (1, .int p1)]) (k := 3) hx hb dX2_strainedSteps_51 hl rfl (congrArg (fun z => v3_17 + z) (by decide)) (by decide) rfl (fun ls hl => ?_)
          refine lv_goto (tgt := 17) hx hb dX2_strainedSteps_54 (by decide) ?_
          exact ih_17 (v2_17 + 1) (v3_17 + 1) ls _ _ (lv_sub hl [2, 3, 1, 0] rfl) hw h
  refine lv_aload_n hx hb dX2_strainedSteps_0 rfl (lv_at hl 0 rfl) ?_
  refine wgetR (t := (rC o 1)) C hw flX2_43 ho rfl dX2_strainedSteps_1 ?_
  refine lv_iload_n hx hb dX2_strainedSteps_4 rfl (lv_at hl 1 rfl) ?_
  refine wcallV1 (As := [.int p1]) (rest := []) C hw (c_X5_hasPiece hW (refC (k := 1) ho rfl : _ = some (0, 5)) rfl) vlX2_112 ⟨Nat.le_of_ble_eq_true rfl, Nat.le_of_ble_eq_true rfl⟩ (refC (k := 1) ho rfl : _ = some (0, 5)) rfl rfl rfl hl.1 (Nat.le_of_ble_eq_true rfl) dX2_strainedSteps_5 ⟨Nat.zero_le _, Nat.zero_le _⟩ (fun H locs hw => ?_)
  refine lv_if_ne (tgt := 13) hx hb dX2_strainedSteps_8 (by decide) (fun c1 => ?_) (fun c1 => ?_)
  · replace h := (if_neg c1).symm.trans h
    refine lv_iconst (v := 0) hx hb dX2_strainedSteps_13 (by decide) ?_
    refine lv_istore_n (lv' := [(2, .int 0), (0, .ref (P.2.2.1 o)), (1, .int p1)]) hx hb dX2_strainedSteps_14 rfl hl (by decide) rfl (fun ls hl => ?_)
    refine lv_iconst (v := 0) hx hb dX2_strainedSteps_15 (by decide) ?_
    refine lv_istore_n (lv' := [(3, .int 0), (2, .int 0), (0, .ref (P.2.2.1 o)), (1, .int p1)]) hx hb dX2_strainedSteps_16 rfl hl (by decide) rfl (fun ls hl => ?_)
    exact cut_17 FU 0 0 ls _ _ (lv_sub hl [2, 3, 1, 0] rfl) hw h
  · replace h := (if_pos c1).symm.trans h
    refine lv_iconst (v := 0) hx hb dX2_strainedSteps_11 (by decide) ?_
    exact wretI_R C hw h dX2_strainedSteps_12
