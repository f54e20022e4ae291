theorem flX6_22 : FL "LehrBelt$Reader" 22 6 3 0 := ⟨(RX6, TX6, 6), rfl, inX6, by decide, List.mem_of_getElem? (i := 162) (by decide +kernel), rfl⟩
theorem fpX6_125 : FP "LehrBelt$Reader" 125 6 2 0 .int := ⟨(RX6, TX6, 6), rfl, inX6, by decide, List.mem_of_getElem? (i := 161) (by decide +kernel), rfl, ⟨tyX6, tyX6_ok⟩, nmX6, rfl, by decide +kernel⟩
theorem flX6_125 : FL "LehrBelt$Reader" 125 6 2 0 := ⟨(RX6, TX6, 6), rfl, inX6, by decide, List.mem_of_getElem? (i := 161) (by decide +kernel), rfl⟩
theorem flX6_9 : FL "LehrBelt$Reader" 9 6 0 2 := ⟨(RX6, TX6, 6), rfl, inX6, by decide, List.mem_of_getElem? (i := 159) (by decide +kernel), rfl⟩
theorem flX6_149 : FL "LehrBelt$Reader" 149 8 1 0 := ⟨(RX8, TX8, 2), rfl, inX8, by decide, List.mem_of_getElem? (i := 145) (by decide +kernel), rfl⟩
theorem fpX6_22 : FP "LehrBelt$Reader" 22 6 3 0 .int := ⟨(RX6, TX6, 6), rfl, inX6, by decide, List.mem_of_getElem? (i := 162) (by decide +kernel), rfl, ⟨tyX6, tyX6_ok⟩, nmX6, rfl, by decide +kernel⟩
theorem vlX6_133 : VL "LehrBelt$Reader" 133 yX8_byteAt bX8_byteAt 2 ((some .int)) 1 := ⟨List.mem_of_getElem? (i := 518) (by decide +kernel), List.mem_of_getElem? (i := 519) (by decide +kernel), List.mem_of_getElem? (i := 520) (by decide +kernel), List.mem_of_getElem? (i := 105) (by decide +kernel), List.mem_of_getElem? (i := 521) (by decide +kernel), by decide +kernel, by decide +kernel, by decide +kernel⟩
theorem slX6_155 : SL "LehrBelt$Reader" 155 yX6_kindOf bX6_kindOf 1 ((some .int)) 1 := ⟨List.mem_of_getElem? (i := 525) (by decide +kernel), List.mem_of_getElem? (i := 526) (by decide +kernel), List.mem_of_getElem? (i := 106) (by decide +kernel), List.mem_of_getElem? (i := 527) (by decide +kernel), by decide +kernel, by decide +kernel, by decide +kernel⟩
theorem fpX6_28 : FP "LehrBelt$Reader" 28 6 1 0 .int := ⟨(RX6, TX6, 6), rfl, inX6, by decide, List.mem_of_getElem? (i := 160) (by decide +kernel), rfl, ⟨tyX6, tyX6_ok⟩, nmX6, rfl, by decide +kernel⟩
theorem flX6_28 : FL "LehrBelt$Reader" 28 6 1 0 := ⟨(RX6, TX6, 6), rfl, inX6, by decide, List.mem_of_getElem? (i := 160) (by decide +kernel), rfl⟩
theorem slX6_151 : SL "LehrBelt$Reader" 151 yX6_isBlank bX6_isBlank 1 ((some .boolean)) 1 := ⟨List.mem_of_getElem? (i := 522) (by decide +kernel), List.mem_of_getElem? (i := 523) (by decide +kernel), List.mem_of_getElem? (i := 106) (by decide +kernel), List.mem_of_getElem? (i := 524) (by decide +kernel), by decide +kernel, by decide +kernel, by decide +kernel⟩
theorem vlX6_128 : VL "LehrBelt$Reader" 128 yJ0_length_8abf5 bJ0_length_8abf5 1 ((some .int)) 0 := ⟨List.mem_of_getElem? (i := 545) (by decide +kernel), List.mem_of_getElem? (i := 546) (by decide +kernel), List.mem_of_getElem? (i := 547) (by decide +kernel), List.mem_of_getElem? (i := 116) (by decide +kernel), List.mem_of_getElem? (i := 548) (by decide +kernel), by decide +kernel, by decide +kernel, by decide +kernel⟩
theorem vlX6_139 : VL "LehrBelt$Reader" 139 yJ0_charAt_5068e bJ0_charAt_5068e 2 ((some .char)) 1 := ⟨List.mem_of_getElem? (i := 555) (by decide +kernel), List.mem_of_getElem? (i := 556) (by decide +kernel), List.mem_of_getElem? (i := 557) (by decide +kernel), List.mem_of_getElem? (i := 116) (by decide +kernel), List.mem_of_getElem? (i := 558) (by decide +kernel), by decide +kernel, by decide +kernel, by decide +kernel⟩
theorem fpX6_15 : FP "LehrBelt$Reader" 15 6 4 0 .int := ⟨(RX6, TX6, 6), rfl, inX6, by decide, List.mem_of_getElem? (i := 163) (by decide +kernel), rfl, ⟨tyX6, tyX6_ok⟩, nmX6, rfl, by decide +kernel⟩
theorem fpX6_19 : FP "LehrBelt$Reader" 19 6 5 0 .int := ⟨(RX6, TX6, 6), rfl, inX6, by decide, List.mem_of_getElem? (i := 165) (by decide +kernel), rfl, ⟨tyX6, tyX6_ok⟩, nmX6, rfl, by decide +kernel⟩
theorem flX6_15 : FL "LehrBelt$Reader" 15 6 4 0 := ⟨(RX6, TX6, 6), rfl, inX6, by decide, List.mem_of_getElem? (i := 163) (by decide +kernel), rfl⟩
theorem vlX6_45 : VL "LehrBelt$Reader" 45 yX6_isWord bX6_isWord 3 ((some .boolean)) 1 := ⟨List.mem_of_getElem? (i := 541) (by decide +kernel), List.mem_of_getElem? (i := 543) (by decide +kernel), List.mem_of_getElem? (i := 4) (by decide +kernel), List.mem_of_getElem? (i := 106) (by decide +kernel), List.mem_of_getElem? (i := 544) (by decide +kernel), by decide +kernel, by decide +kernel, by decide +kernel⟩
theorem vlX6_57 : VL "LehrBelt$Reader" 57 yX6_fail bX6_fail 2 (none) 1 := ⟨List.mem_of_getElem? (i := 593) (by decide +kernel), List.mem_of_getElem? (i := 595) (by decide +kernel), List.mem_of_getElem? (i := 5) (by decide +kernel), List.mem_of_getElem? (i := 106) (by decide +kernel), List.mem_of_getElem? (i := 596) (by decide +kernel), by decide +kernel, by decide +kernel, by decide +kernel⟩
theorem vlX6_25 : VL "LehrBelt$Reader" 25 yX6_nextToken bX6_nextToken 1 (none) 0 := ⟨List.mem_of_getElem? (i := 514) (by decide +kernel), List.mem_of_getElem? (i := 516) (by decide +kernel), List.mem_of_getElem? (i := 0) (by decide +kernel), List.mem_of_getElem? (i := 106) (by decide +kernel), List.mem_of_getElem? (i := 517) (by decide +kernel), by decide +kernel, by decide +kernel, by decide +kernel⟩
theorem mlX6_143 : ML "LehrBelt$Reader" 143 Lib.Math.min.name Lib.Math.min.code 2 (some .int) := ⟨List.mem_of_getElem? (i := 606) (by decide +kernel), List.mem_of_getElem? (i := 607) (by decide +kernel), List.mem_of_getElem? (i := 120) (by decide +kernel), List.mem_of_getElem? (i := 608) (by decide +kernel)⟩
theorem vlX6_66 : VL "LehrBelt$Reader" 66 yX6_expectWord bX6_expectWord 2 (none) 1 := ⟨List.mem_of_getElem? (i := 537) (by decide +kernel), List.mem_of_getElem? (i := 539) (by decide +kernel), List.mem_of_getElem? (i := 3) (by decide +kernel), List.mem_of_getElem? (i := 106) (by decide +kernel), List.mem_of_getElem? (i := 540) (by decide +kernel), by decide +kernel, by decide +kernel, by decide +kernel⟩
theorem vlX6_121 : VL "LehrBelt$Reader" 121 yX6_tokenNumber bX6_tokenNumber 3 ((some .int)) 0 := ⟨List.mem_of_getElem? (i := 602) (by decide +kernel), List.mem_of_getElem? (i := 604) (by decide +kernel), List.mem_of_getElem? (i := 7) (by decide +kernel), List.mem_of_getElem? (i := 106) (by decide +kernel), List.mem_of_getElem? (i := 605) (by decide +kernel), by decide +kernel, by decide +kernel, by decide +kernel⟩
theorem vlX6_72 : VL "LehrBelt$Reader" 72 yX6_readNamed bX6_readNamed 5 ((some .int)) 3 := ⟨List.mem_of_getElem? (i := 598) (by decide +kernel), List.mem_of_getElem? (i := 600) (by decide +kernel), List.mem_of_getElem? (i := 6) (by decide +kernel), List.mem_of_getElem? (i := 106) (by decide +kernel), List.mem_of_getElem? (i := 601) (by decide +kernel), by decide +kernel, by decide +kernel, by decide +kernel⟩
theorem fpX6_76 : FP "LehrBelt$Reader" 76 5 1 0 .int := ⟨(RX5, TX5, 13), rfl, inX5, by decide, List.mem_of_getElem? (i := 192) (by decide +kernel), rfl, ⟨tyX5, tyX5_ok⟩, nmX5, rfl, by decide +kernel⟩
theorem fpX6_80 : FP "LehrBelt$Reader" 80 5 2 0 .int := ⟨(RX5, TX5, 13), rfl, inX5, by decide, List.mem_of_getElem? (i := 198) (by decide +kernel), rfl, ⟨tyX5, tyX5_ok⟩, nmX5, rfl, by decide +kernel⟩
theorem fpX6_84 : FP "LehrBelt$Reader" 84 5 3 0 .int := ⟨(RX5, TX5, 13), rfl, inX5, by decide, List.mem_of_getElem? (i := 203) (by decide +kernel), rfl, ⟨tyX5, tyX5_ok⟩, nmX5, rfl, by decide +kernel⟩
theorem fpX6_88 : FP "LehrBelt$Reader" 88 5 4 0 .int := ⟨(RX5, TX5, 13), rfl, inX5, by decide, List.mem_of_getElem? (i := 206) (by decide +kernel), rfl, ⟨tyX5, tyX5_ok⟩, nmX5, rfl, by decide +kernel⟩
theorem fpX6_92 : FP "LehrBelt$Reader" 92 5 5 0 .int := ⟨(RX5, TX5, 13), rfl, inX5, by decide, List.mem_of_getElem? (i := 210) (by decide +kernel), rfl, ⟨tyX5, tyX5_ok⟩, nmX5, rfl, by decide +kernel⟩
theorem flX6_94 : FL "LehrBelt$Reader" 94 5 6 0 := ⟨(RX5, TX5, 13), rfl, inX5, by decide, List.mem_of_getElem? (i := 214) (by decide +kernel), rfl⟩
theorem flX6_97 : FL "LehrBelt$Reader" 97 5 8 2 := ⟨(RX5, TX5, 13), rfl, inX5, by decide, List.mem_of_getElem? (i := 225) (by decide +kernel), rfl⟩
theorem fpX6_94 : FP "LehrBelt$Reader" 94 5 6 0 .int := ⟨(RX5, TX5, 13), rfl, inX5, by decide, List.mem_of_getElem? (i := 214) (by decide +kernel), rfl, ⟨tyX5, tyX5_ok⟩, nmX5, rfl, by decide +kernel⟩
theorem flX6_101 : FL "LehrBelt$Reader" 101 5 7 0 := ⟨(RX5, TX5, 13), rfl, inX5, by decide, List.mem_of_getElem? (i := 220) (by decide +kernel), rfl⟩
theorem flX6_104 : FL "LehrBelt$Reader" 104 5 9 2 := ⟨(RX5, TX5, 13), rfl, inX5, by decide, List.mem_of_getElem? (i := 230) (by decide +kernel), rfl⟩
theorem flX6_108 : FL "LehrBelt$Reader" 108 5 10 2 := ⟨(RX5, TX5, 13), rfl, inX5, by decide, List.mem_of_getElem? (i := 235) (by decide +kernel), rfl⟩
theorem flX6_112 : FL "LehrBelt$Reader" 112 5 11 2 := ⟨(RX5, TX5, 13), rfl, inX5, by decide, List.mem_of_getElem? (i := 239) (by decide +kernel), rfl⟩
theorem flX6_116 : FL "LehrBelt$Reader" 116 5 12 2 := ⟨(RX5, TX5, 13), rfl, inX5, by decide, List.mem_of_getElem? (i := 243) (by decide +kernel), rfl⟩
theorem fpX6_101 : FP "LehrBelt$Reader" 101 5 7 0 .int := ⟨(RX5, TX5, 13), rfl, inX5, by decide, List.mem_of_getElem? (i := 220) (by decide +kernel), rfl, ⟨tyX5, tyX5_ok⟩, nmX5, rfl, by decide +kernel⟩
theorem flX6_35 : FL "LehrBelt$Reader" 35 5 0 0 := ⟨(RX5, TX5, 13), rfl, inX5, by decide, List.mem_of_getElem? (i := 187) (by decide +kernel), rfl⟩
theorem vlX6_61 : VL "LehrBelt$Reader" 61 yX6_expectSign bX6_expectSign 1 (none) 0 := ⟨List.mem_of_getElem? (i := 627) (by decide +kernel), List.mem_of_getElem? (i := 629) (by decide +kernel), List.mem_of_getElem? (i := 10) (by decide +kernel), List.mem_of_getElem? (i := 106) (by decide +kernel), List.mem_of_getElem? (i := 630) (by decide +kernel), by decide +kernel, by decide +kernel, by decide +kernel⟩
theorem fpX6_35 : FP "LehrBelt$Reader" 35 5 0 0 .int := ⟨(RX5, TX5, 13), rfl, inX5, by decide, List.mem_of_getElem? (i := 187) (by decide +kernel), rfl, ⟨tyX5, tyX5_ok⟩, nmX5, rfl, by decide +kernel⟩
theorem vlX6_54 : VL "LehrBelt$Reader" 54 yX6_readPiece bX6_readPiece 3 (none) 1 := ⟨List.mem_of_getElem? (i := 619) (by decide +kernel), List.mem_of_getElem? (i := 621) (by decide +kernel), List.mem_of_getElem? (i := 9) (by decide +kernel), List.mem_of_getElem? (i := 106) (by decide +kernel), List.mem_of_getElem? (i := 622) (by decide +kernel), by decide +kernel, by decide +kernel, by decide +kernel⟩
theorem vlX6_49 : VL "LehrBelt$Reader" 49 yX6_readZone bX6_readZone 2 (none) 1 := ⟨List.mem_of_getElem? (i := 614) (by decide +kernel), List.mem_of_getElem? (i := 616) (by decide +kernel), List.mem_of_getElem? (i := 8) (by decide +kernel), List.mem_of_getElem? (i := 106) (by decide +kernel), List.mem_of_getElem? (i := 617) (by decide +kernel), by decide +kernel, by decide +kernel, by decide +kernel⟩
theorem vlX6_40 : VL "LehrBelt$Reader" 40 yX6_readHead bX6_readHead 2 (none) 1 := ⟨List.mem_of_getElem? (i := 532) (by decide +kernel), List.mem_of_getElem? (i := 534) (by decide +kernel), List.mem_of_getElem? (i := 2) (by decide +kernel), List.mem_of_getElem? (i := 106) (by decide +kernel), List.mem_of_getElem? (i := 535) (by decide +kernel), by decide +kernel, by decide +kernel, by decide +kernel⟩
theorem vlX6_31 : VL "LehrBelt$Reader" 31 yX6_readLine bX6_readLine 2 (none) 1 := ⟨List.mem_of_getElem? (i := 528) (by decide +kernel), List.mem_of_getElem? (i := 530) (by decide +kernel), List.mem_of_getElem? (i := 1) (by decide +kernel), List.mem_of_getElem? (i := 106) (by decide +kernel), List.mem_of_getElem? (i := 531) (by decide +kernel), by decide +kernel, by decide +kernel, by decide +kernel⟩
theorem z_X6_isBlank {p0 : Int32} {M : Mem} : f_X6_isBlank p0 M = 0 ∨ f_X6_isBlank p0 M = 1 := by
  unfold f_X6_isBlank
  repeat' split
  all_goals first | exact Or.inl rfl | exact Or.inr rfl
set_option maxRecDepth 100000 in
set_option maxHeartbeats 4000000 in
theorem c_X6_isBlank {l : Launch} {P : Wp} {E : State → Heap → Prop} (hW : Wok shC P E) {p0 : Int32} {M : Mem} {r : Int32} (h : f_X6_isBlank p0 M = r) : CT l shC P E yX6_isBlank bX6_isBlank 1 ((some .boolean)) 0 0 [.int p0] (some (.int r)) M M := by
  refine ct_of hW (by decide) (Nat.le_of_ble_eq_true rfl) (fun p e s m args below meth c C ls hl hw => ?_)
  have hx := C.1
  have hb := C.2.1
  replace hl : lv_has ls 1 [(0, .int p0)] := hl
  refine lv_iload_n hx hb dX6_isBlank_0 rfl (lv_at hl 0 rfl) ?_
  refine lv_bipush (v := 32) hx hb dX6_isBlank_1 (by decide) ?_
  refine lv_icmp_eq (tgt := 12) hx hb dX6_isBlank_3 (by decide) (fun c1 => ?_) (fun c1 => ?_)
  · replace h := (if_pos c1).symm.trans h
    refine lv_iconst (v := 1) hx hb dX6_isBlank_12 (by decide) ?_
    refine lv_goto (tgt := 17) hx hb dX6_isBlank_13 (by decide) ?_
    exact wretZ_T C hw (Or.inr rfl) h dX6_isBlank_17
  · replace h := (if_neg c1).symm.trans h
    refine lv_iload_n hx hb dX6_isBlank_6 rfl (lv_at hl 0 rfl) ?_
    refine lv_bipush (v := 10) hx hb dX6_isBlank_7 (by decide) ?_
    refine lv_icmp_ne (tgt := 16) hx hb dX6_isBlank_9 (by decide) (fun c2 => ?_) (fun c2 => ?_)
    · replace h := (if_neg c2).symm.trans h
      refine lv_iconst (v := 0) hx hb dX6_isBlank_16 (by decide) ?_
      exact wretZ_T C hw (Or.inl rfl) h dX6_isBlank_17
    · replace h := (if_pos c2).symm.trans h
      refine lv_iconst (v := 1) hx hb dX6_isBlank_12 (by decide) ?_
      refine lv_goto (tgt := 17) hx hb dX6_isBlank_13 (by decide) ?_
      exact wretZ_T C hw (Or.inr rfl) h dX6_isBlank_17
set_option maxRecDepth 100000 in
set_option maxHeartbeats 4000000 in
theorem c_X6_kindOf {l : Launch} {P : Wp} {E : State → Heap → Prop} (hW : Wok shC P E) {p0 : Int32} {M : Mem} {r : Int32} (h : f_X6_kindOf p0 M = r) : CT l shC P E yX6_kindOf bX6_kindOf 1 ((some .int)) 0 0 [.int p0] (some (.int r)) M M := by
  refine ct_of hW (by decide) (Nat.le_of_ble_eq_true rfl) (fun p e s m args below meth c C ls hl hw => ?_)
  have hx := C.1
  have hb := C.2.1
  replace hl : lv_has ls 1 [(0, .int p0)] := hl
  have cut_14 : ∀ (ls : Array Slot) (H : Heap) (locs : List Loc), lv_has ls 1 [(0, .int p0)] → Hw shC P M s H locs → J_X6_kindOf_14 p0 M = r → W p l e { frames := 0, cells := 0, slots := 0, locals := 0 } s m args below meth c H locs 0 0 (MQ below (CQ shC P E (some (.int r)) M) args s 0 0 (wA shC P)) (F0 m 14 ls []) := by
    intro ls H locs hl hw h
    refine lv_iload_n hx hb dX6_kindOf_14 rfl (lv_at hl 0 rfl) ?_
    refine lv_bipush (v := 48) hx hb dX6_kindOf_15 (by decide) ?_
    refine lv_icmp_lt (tgt := 28) hx hb dX6_kindOf_17 (by decide) (fun c2 => ?_) (fun c2 => ?_)
    · replace h := (if_pos c2).symm.trans h
      refine lv_iload_n hx hb dX6_kindOf_28 rfl (lv_at hl 0 rfl) ?_
      refine lv_bipush (v := 59) hx hb dX6_kindOf_29 (by decide) ?_
      refine lv_icmp_ne (tgt := 38) hx hb dX6_kindOf_31 (by decide) (fun c3 => ?_) (fun c3 => ?_)
      · replace h := (if_neg c3).symm.trans h
        refine lv_iconst (v := 0) hx hb dX6_kindOf_38 (by decide) ?_
        exact wretI_T C hw h dX6_kindOf_39
      · replace h := (if_pos c3).symm.trans h
        refine lv_iconst (v := 3) hx hb dX6_kindOf_34 (by decide) ?_
        refine lv_goto (tgt := 39) hx hb dX6_kindOf_35 (by decide) ?_
        exact wretI_T C hw h dX6_kindOf_39
    · replace h := (if_neg c2).symm.trans h
      refine lv_iload_n hx hb dX6_kindOf_20 rfl (lv_at hl 0 rfl) ?_
      refine lv_bipush (v := 57) hx hb dX6_kindOf_21 (by decide) ?_
      refine lv_icmp_gt (tgt := 28) hx hb dX6_kindOf_23 (by decide) (fun c4 => ?_) (fun c4 => ?_)
      · replace h := (if_pos c4).symm.trans h
        refine lv_iload_n hx hb dX6_kindOf_28 rfl (lv_at hl 0 rfl) ?_
        refine lv_bipush (v := 59) hx hb dX6_kindOf_29 (by decide) ?_
        refine lv_icmp_ne (tgt := 38) hx hb dX6_kindOf_31 (by decide) (fun c5 => ?_) (fun c5 => ?_)
        · replace h := (if_neg c5).symm.trans h
          refine lv_iconst (v := 0) hx hb dX6_kindOf_38 (by decide) ?_
          exact wretI_T C hw h dX6_kindOf_39
        · replace h := (if_pos c5).symm.trans h
          refine lv_iconst (v := 3) hx hb dX6_kindOf_34 (by decide) ?_
          refine lv_goto (tgt := 39) hx hb dX6_kindOf_35 (by decide) ?_
          exact wretI_T C hw h dX6_kindOf_39
      · replace h := (if_neg c4).symm.trans h
        refine lv_iconst (v := 2) hx hb dX6_kindOf_26 (by decide) ?_
        exact wretI_T C hw h dX6_kindOf_27
  refine lv_iload_n hx hb dX6_kindOf_0 rfl (lv_at hl 0 rfl) ?_
  refine lv_bipush (v := 97) hx hb dX6_kindOf_1 (by decide) ?_
  refine lv_icmp_lt (tgt := 14) hx hb dX6_kindOf_3 (by decide) (fun c1 => ?_) (fun c1 => ?_)
  · replace h := (if_pos c1).symm.trans h
    exact cut_14 ls _ _ (lv_sub hl [0] rfl) hw h
  · replace h := (if_neg c1).symm.trans h
    refine lv_iload_n hx hb dX6_kindOf_6 rfl (lv_at hl 0 rfl) ?_
    refine lv_bipush (v := 122) hx hb dX6_kindOf_7 (by decide) ?_
    refine lv_icmp_gt (tgt := 14) hx hb dX6_kindOf_9 (by decide) (fun c6 => ?_) (fun c6 => ?_)
    · replace h := (if_pos c6).symm.trans h
      exact cut_14 ls _ _ (lv_sub hl [0] rfl) hw h
    · replace h := (if_neg c6).symm.trans h
      refine lv_iconst (v := 1) hx hb dX6_kindOf_12 (by decide) ?_
      exact wretI_T C hw h dX6_kindOf_13
set_option maxRecDepth 100000 in
set_option maxHeartbeats 4000000 in
theorem c_X6_nextToken {l : Launch} {P : Wp} {E : State → Heap → Prop} (hW : Wok shC P E) {M : Mem} {M' : Mem} (h : f_X6_nextToken M = some M') : CT l shC P E yX6_nextToken bX6_nextToken 1 (none) 1 21 [.ref (P.2.2.1 6)] none M M' := by
  refine ct_of hW (by decide) (Nat.le_of_ble_eq_true rfl) (fun p e s m args below meth c C ls hl hw => ?_)
  have hx := C.1
  have hb := C.2.1
  replace hl : lv_has ls 1 [(0, .ref (P.2.2.1 6))] := hl
  have cut_125 : ∀ (n_125 : Nat) (M_125 : Mem) (ls : Array Slot) (H : Heap) (locs : List Loc), lv_has ls 1 [(0, .ref (P.2.2.1 6))] → Hw shC P M_125 s H locs → lq1 (L_X6_nextToken_125) n_125 M_125 = some M' → W p l e { frames := 1, cells := 0, slots := 0, locals := 21 } s m args below meth c H locs 0 0 (MQ below (CQ shC P E none M') args s 0 0 (wA shC P)) (F0 m 125 ls []) := by
    intro n_125
    induction n_125 with
    | zero => intro M_125 ls H locs hl hw h; cases h
    | succ n_125 ih_125 =>
      intro M_125 ls H locs hl hw h
      replace h := lq1_succ h
      refine lv_aload_n hx hb dX6_nextToken_125 rfl (lv_at hl 0 rfl) ?_
      refine wgetI C hw flX6_22 (rfl : _ = some (0, 6)) dX6_nextToken_126 ?_
      refine lv_aload_n hx hb dX6_nextToken_129 rfl (lv_at hl 0 rfl) ?_
      refine wgetR (t := 4) C hw flX6_9 (rfl : _ = some (0, 6)) rfl dX6_nextToken_130 ?_
      refine wgetI C hw flX6_149 (rfl : _ = some (0, 8)) dX6_nextToken_133 ?_
      refine lv_icmp_ge (tgt := 173) hx hb dX6_nextToken_136 (by decide) (fun c10 => ?_) (fun c10 => ?_)
      · replace h := (if_pos c10).symm.trans h
        exact wretV_W C hw h dX6_nextToken_173
      · replace h := (if_neg c10).symm.trans h
        refine lv_aload_n hx hb dX6_nextToken_139 rfl (lv_at hl 0 rfl) ?_
        refine wgetR (t := 4) C hw flX6_9 (rfl : _ = some (0, 6)) rfl dX6_nextToken_140 ?_
        refine lv_aload_n hx hb dX6_nextToken_143 rfl (lv_at hl 0 rfl) ?_
        refine wgetI C hw flX6_22 (rfl : _ = some (0, 6)) dX6_nextToken_144 ?_
        obtain ⟨r11, e12, h⟩ := bnd_some h
        refine wcallV1 (As := [.int (M_125.1 6 3)]) (rest := []) C hw (c_X8_byteAt hW  e12) vlX6_133 ⟨Nat.le_of_ble_eq_true rfl, Nat.le_of_ble_eq_true rfl⟩ (rfl : _ = some (0, 8)) rfl rfl rfl hl.1 (Nat.le_of_ble_eq_true rfl) dX6_nextToken_147 ⟨Nat.zero_le _, Nat.zero_le _⟩ (fun H locs hw => ?_)
        refine wcallS1 (As := [.int r11]) (rest := []) C hw (c_X6_kindOf hW  rfl) slX6_155 ⟨Nat.le_of_ble_eq_true rfl, Nat.le_of_ble_eq_true rfl⟩ rfl rfl hl.1 (Nat.le_of_ble_eq_true rfl) dX6_nextToken_150 ⟨Nat.zero_le _, Nat.zero_le _⟩ (fun H locs hw => ?_)
        refine lv_aload_n hx hb dX6_nextToken_153 rfl (lv_at hl 0 rfl) ?_
        refine wgetI C hw flX6_28 (rfl : _ = some (0, 6)) dX6_nextToken_154 ?_
        refine lv_icmp_ne (tgt := 173) hx hb dX6_nextToken_157 (by decide) (fun c13 => ?_) (fun c13 => ?_)
        · replace h := (if_neg c13).symm.trans h
          exact wretV_W C hw h dX6_nextToken_173
        · replace h := (if_pos c13).symm.trans h
          refine lv_aload_n hx hb dX6_nextToken_160 rfl (lv_at hl 0 rfl) ?_
          refine lv_dup hx hb dX6_nextToken_161 rfl ?_
          refine wgetI C hw flX6_22 (rfl : _ = some (0, 6)) dX6_nextToken_162 ?_
          refine lv_iconst (v := 1) hx hb dX6_nextToken_165 (by decide) ?_
          refine lv_iadd hx hb dX6_nextToken_166 ?_
          refine wputI C hw fpX6_22 (rfl : _ = some (0, 6)) dX6_nextToken_167 (fun M14 eM14 H locs hw => ?_)
          replace h := letv_at eM14 h
          refine lv_goto (tgt := 125) hx hb dX6_nextToken_170 (by decide) ?_
          exact ih_125 M14 ls _ _ (lv_sub hl [0] rfl) hw h
  have cut_52 : ∀ (M_52 : Mem) (ls : Array Slot) (H : Heap) (locs : List Loc), lv_has ls 1 [(0, .ref (P.2.2.1 6))] → Hw shC P M_52 s H locs → J_X6_nextToken_52 M_52 = some M' → W p l e { frames := 1, cells := 0, slots := 0, locals := 21 } s m args below meth c H locs 0 0 (MQ below (CQ shC P E none M') args s 0 0 (wA shC P)) (F0 m 52 ls []) := by
    intro M_52 ls H locs hl hw h
    refine lv_aload_n hx hb dX6_nextToken_52 rfl (lv_at hl 0 rfl) ?_
    refine lv_aload_n hx hb dX6_nextToken_53 rfl (lv_at hl 0 rfl) ?_
    refine wgetI C hw flX6_125 (rfl : _ = some (0, 6)) dX6_nextToken_54 ?_
    refine wputI C hw fpX6_22 (rfl : _ = some (0, 6)) dX6_nextToken_57 (fun M3 eM3 H locs hw => ?_)
    replace h := letv_at eM3 h
    refine lv_aload_n hx hb dX6_nextToken_60 rfl (lv_at hl 0 rfl) ?_
    refine wgetI C hw flX6_125 (rfl : _ = some (0, 6)) dX6_nextToken_61 ?_
    refine lv_aload_n hx hb dX6_nextToken_64 rfl (lv_at hl 0 rfl) ?_
    refine wgetR (t := 4) C hw flX6_9 (rfl : _ = some (0, 6)) rfl dX6_nextToken_65 ?_
    refine wgetI C hw flX6_149 (rfl : _ = some (0, 8)) dX6_nextToken_68 ?_
    refine lv_icmp_lt (tgt := 80) hx hb dX6_nextToken_71 (by decide) (fun c4 => ?_) (fun c4 => ?_)
    · replace h := (if_pos c4).symm.trans h
      refine lv_aload_n hx hb dX6_nextToken_80 rfl (lv_at hl 0 rfl) ?_
      refine lv_aload_n hx hb dX6_nextToken_81 rfl (lv_at hl 0 rfl) ?_
      refine wgetR (t := 4) C hw flX6_9 (rfl : _ = some (0, 6)) rfl dX6_nextToken_82 ?_
      refine lv_aload_n hx hb dX6_nextToken_85 rfl (lv_at hl 0 rfl) ?_
      refine wgetI C hw flX6_125 (rfl : _ = some (0, 6)) dX6_nextToken_86 ?_
      obtain ⟨r5, e6, h⟩ := bnd_some h
      refine wcallV1 (As := [.int (M3.1 6 2)]) (rest := [.ref (P.2.2.1 6)]) C hw (c_X8_byteAt hW  e6) vlX6_133 ⟨Nat.le_of_ble_eq_true rfl, Nat.le_of_ble_eq_true rfl⟩ (rfl : _ = some (0, 8)) rfl rfl rfl hl.1 (Nat.le_of_ble_eq_true rfl) dX6_nextToken_89 ⟨Nat.zero_le _, Nat.zero_le _⟩ (fun H locs hw => ?_)
      refine wcallS1 (As := [.int r5]) (rest := [.ref (P.2.2.1 6)]) C hw (c_X6_kindOf hW  rfl) slX6_155 ⟨Nat.le_of_ble_eq_true rfl, Nat.le_of_ble_eq_true rfl⟩ rfl rfl hl.1 (Nat.le_of_ble_eq_true rfl) dX6_nextToken_92 ⟨Nat.zero_le _, Nat.zero_le _⟩ (fun H locs hw => ?_)
      refine wputI C hw fpX6_28 (rfl : _ = some (0, 6)) dX6_nextToken_95 (fun M7 eM7 H locs hw => ?_)
      replace h := letv_at eM7 h
      refine lv_aload_n hx hb dX6_nextToken_98 rfl (lv_at hl 0 rfl) ?_
      refine lv_dup hx hb dX6_nextToken_99 rfl ?_
      refine wgetI C hw flX6_22 (rfl : _ = some (0, 6)) dX6_nextToken_100 ?_
      refine lv_iconst (v := 1) hx hb dX6_nextToken_103 (by decide) ?_
      refine lv_iadd hx hb dX6_nextToken_104 ?_
      refine wputI C hw fpX6_22 (rfl : _ = some (0, 6)) dX6_nextToken_105 (fun M8 eM8 H locs hw => ?_)
      replace h := letv_at eM8 h
      refine lv_aload_n hx hb dX6_nextToken_108 rfl (lv_at hl 0 rfl) ?_
      refine wgetI C hw flX6_28 (rfl : _ = some (0, 6)) dX6_nextToken_109 ?_
      refine lv_iconst (v := 1) hx hb dX6_nextToken_112 (by decide) ?_
      refine lv_icmp_eq (tgt := 125) hx hb dX6_nextToken_113 (by decide) (fun c9 => ?_) (fun c9 => ?_)
      · replace h := (if_pos c9).symm.trans h
        exact cut_125 FU M8 ls _ _ (lv_sub hl [0] rfl) hw h
      · replace h := (if_neg c9).symm.trans h
        refine lv_aload_n hx hb dX6_nextToken_116 rfl (lv_at hl 0 rfl) ?_
        refine wgetI C hw flX6_28 (rfl : _ = some (0, 6)) dX6_nextToken_117 ?_
        refine lv_iconst (v := 2) hx hb dX6_nextToken_120 (by decide) ?_
        refine lv_icmp_eq (tgt := 125) hx hb dX6_nextToken_121 (by decide) (fun c15 => ?_) (fun c15 => ?_)
        · replace h := (if_pos c15).symm.trans h
          exact cut_125 FU M8 ls _ _ (lv_sub hl [0] rfl) hw h
        · replace h := (if_neg c15).symm.trans h
          exact wretV_W C hw h dX6_nextToken_124
    · replace h := (if_neg c4).symm.trans h
      refine lv_aload_n hx hb dX6_nextToken_74 rfl (lv_at hl 0 rfl) ?_
      refine lv_iconst (v := 4) hx hb dX6_nextToken_75 (by decide) ?_
      refine wputI C hw fpX6_28 (rfl : _ = some (0, 6)) dX6_nextToken_76 (fun M16 eM16 H locs hw => ?_)
      replace h := letv_at eM16 h
      exact wretV_W C hw h dX6_nextToken_79
  have cut_8 : ∀ (n_8 : Nat) (M_8 : Mem) (ls : Array Slot) (H : Heap) (locs : List Loc), lv_has ls 1 [(0, .ref (P.2.2.1 6))] → Hw shC P M_8 s H locs → lq1 (L_X6_nextToken_8) n_8 M_8 = some M' → W p l e { frames := 1, cells := 0, slots := 0, locals := 21 } s m args below meth c H locs 0 0 (MQ below (CQ shC P E none M') args s 0 0 (wA shC P)) (F0 m 8 ls []) := by
    intro n_8
    induction n_8 with
    | zero => intro M_8 ls H locs hl hw h; cases h
    | succ n_8 ih_8 =>
      intro M_8 ls H locs hl hw h
      replace h := lq1_succ h
      refine lv_aload_n hx hb dX6_nextToken_8 rfl (lv_at hl 0 rfl) ?_
      refine wgetI C hw flX6_125 (rfl : _ = some (0, 6)) dX6_nextToken_9 ?_
      refine lv_aload_n hx hb dX6_nextToken_12 rfl (lv_at hl 0 rfl) ?_
      refine wgetR (t := 4) C hw flX6_9 (rfl : _ = some (0, 6)) rfl dX6_nextToken_13 ?_
      refine wgetI C hw flX6_149 (rfl : _ = some (0, 8)) dX6_nextToken_16 ?_
      refine lv_icmp_ge (tgt := 52) hx hb dX6_nextToken_19 (by decide) (fun c2 => ?_) (fun c2 => ?_)
      · replace h := (if_pos c2).symm.trans h
        exact cut_52 M_8 ls _ _ (lv_sub hl [0] rfl) hw h
      · replace h := (if_neg c2).symm.trans h
        refine lv_aload_n hx hb dX6_nextToken_22 rfl (lv_at hl 0 rfl) ?_
        refine wgetR (t := 4) C hw flX6_9 (rfl : _ = some (0, 6)) rfl dX6_nextToken_23 ?_
        refine lv_aload_n hx hb dX6_nextToken_26 rfl (lv_at hl 0 rfl) ?_
        refine wgetI C hw flX6_125 (rfl : _ = some (0, 6)) dX6_nextToken_27 ?_
        obtain ⟨r17, e18, h⟩ := bnd_some h
        refine wcallV1 (As := [.int (M_8.1 6 2)]) (rest := []) C hw (c_X8_byteAt hW  e18) vlX6_133 ⟨Nat.le_of_ble_eq_true rfl, Nat.le_of_ble_eq_true rfl⟩ (rfl : _ = some (0, 8)) rfl rfl rfl hl.1 (Nat.le_of_ble_eq_true rfl) dX6_nextToken_30 ⟨Nat.zero_le _, Nat.zero_le _⟩ (fun H locs hw => ?_)
        refine wcallS1 (As := [.int r17]) (rest := []) C hw (c_X6_isBlank hW  rfl) slX6_151 ⟨Nat.le_of_ble_eq_true rfl, Nat.le_of_ble_eq_true rfl⟩ rfl rfl hl.1 (Nat.le_of_ble_eq_true rfl) dX6_nextToken_33 ⟨Nat.zero_le _, Nat.zero_le _⟩ (fun H locs hw => ?_)
        refine lv_if_eq (tgt := 52) hx hb dX6_nextToken_36 (by decide) (fun c19 => ?_) (fun c19 => ?_)
        · replace h := (if_pos c19).symm.trans h
          exact cut_52 M_8 ls _ _ (lv_sub hl [0] rfl) hw h
        · replace h := (if_neg c19).symm.trans h
          refine lv_aload_n hx hb dX6_nextToken_39 rfl (lv_at hl 0 rfl) ?_
          refine lv_dup hx hb dX6_nextToken_40 rfl ?_
          refine wgetI C hw flX6_125 (rfl : _ = some (0, 6)) dX6_nextToken_41 ?_
          refine lv_iconst (v := 1) hx hb dX6_nextToken_44 (by decide) ?_
          refine lv_iadd hx hb dX6_nextToken_45 ?_
          refine wputI C hw fpX6_125 (rfl : _ = some (0, 6)) dX6_nextToken_46 (fun M20 eM20 H locs hw => ?_)
          replace h := letv_at eM20 h
          refine lv_goto (tgt := 8) hx hb dX6_nextToken_49 (by decide) ?_
          exact ih_8 M20 ls _ _ (lv_sub hl [0] rfl) hw h
  refine lv_aload_n hx hb dX6_nextToken_0 rfl (lv_at hl 0 rfl) ?_
  refine lv_aload_n hx hb dX6_nextToken_1 rfl (lv_at hl 0 rfl) ?_
  refine wgetI C hw flX6_22 (rfl : _ = some (0, 6)) dX6_nextToken_2 ?_
  refine wputI C hw fpX6_125 (rfl : _ = some (0, 6)) dX6_nextToken_5 (fun M1 eM1 H locs hw => ?_)
  replace h := letv_at eM1 h
  exact cut_8 FU M1 ls _ _ (lv_sub hl [0] rfl) hw h
set_option maxRecDepth 100000 in
set_option maxHeartbeats 4000000 in
theorem c_X6_isWord {l : Launch} {P : Wp} {E : State → Heap → Prop} (hW : Wok shC P E) {p1 : Nat} {M : Mem} {r : Int32} (hp1 : p1 < 12) (h : f_X6_isWord p1 M = some r) : CT l shC P E yX6_isWord bX6_isWord 3 ((some .boolean)) 4 85 [.ref (P.2.2.1 6), .ref (P.2.2.2 p1)] (some (.int r)) M M := by
  refine ct_of hW (by decide) (Nat.le_of_ble_eq_true rfl) (fun p e s m args below meth c C ls hl hw => ?_)
  have hx := C.1
  have hb := C.2.1
  replace hl : lv_has ls 3 [(0, .ref (P.2.2.1 6)), (1, .ref (P.2.2.2 p1))] := hl
  have cut_28 : ∀ (n_28 : Nat) (v2_28 : Int32) (ls : Array Slot) (H : Heap) (locs : List Loc), lv_has ls 3 [(0, .ref (P.2.2.1 6)), (1, .ref (P.2.2.2 p1)), (2, .int v2_28)] → Hw shC P M s H locs → lq1 (L_X6_isWord_28 p1 M) n_28 v2_28 = some r → W p l e { frames := 4, cells := 0, slots := 0, locals := 85 } s m args below meth c H locs 0 0 (MQ below (CQ shC P E (some (.int r)) M) args s 0 0 (wA shC P)) (F0 m 28 ls []) := by
    intro n_28
    induction n_28 with
    | zero => intro v2_28 ls H locs hl hw h; cases h
    | succ n_28 ih_28 =>
      intro v2_28 ls H locs hl hw h
      replace h := lq1_succ h
      refine lv_iload_n hx hb dX6_isWord_28 rfl (lv_at hl 2 rfl) ?_
      refine lv_aload_n hx hb dX6_isWord_29 rfl (lv_at hl 1 rfl) ?_
      refine wcallW1 (As := []) (rest := [.int v2_28]) C hw hp1 (c_J0_length_8abf5 hW hp1 rfl) vlX6_128 ⟨Nat.le_of_ble_eq_true rfl, Nat.le_of_ble_eq_true rfl⟩ rfl rfl hl.1 (Nat.le_of_ble_eq_true rfl) dX6_isWord_30 ⟨Nat.zero_le _, Nat.zero_le _⟩ (fun H locs hw => ?_)
      refine lv_icmp_ge (tgt := 65) hx hb dX6_isWord_33 (by decide) (fun c3 => ?_) (fun c3 => ?_)
      · replace h := (if_pos c3).symm.trans h
        refine lv_iconst (v := 1) hx hb dX6_isWord_65 (by decide) ?_
        exact wretZ_R C hw (Or.inr rfl) h dX6_isWord_66
      · replace h := (if_neg c3).symm.trans h
        refine lv_aload_n hx hb dX6_isWord_36 rfl (lv_at hl 0 rfl) ?_
        refine wgetR (t := 4) C hw flX6_9 (rfl : _ = some (0, 6)) rfl dX6_isWord_37 ?_
        refine lv_aload_n hx hb dX6_isWord_40 rfl (lv_at hl 0 rfl) ?_
        refine wgetI C hw flX6_125 (rfl : _ = some (0, 6)) dX6_isWord_41 ?_
        refine lv_iload_n hx hb dX6_isWord_44 rfl (lv_at hl 2 rfl) ?_
        refine lv_iadd hx hb dX6_isWord_45 ?_
        obtain ⟨r4, e5, h⟩ := bnd_some h
        refine wcallV1 (As := [.int ((M.1 6 2) + v2_28)]) (rest := []) C hw (c_X8_byteAt hW  e5) vlX6_133 ⟨Nat.le_of_ble_eq_true rfl, Nat.le_of_ble_eq_true rfl⟩ (rfl : _ = some (0, 8)) rfl rfl rfl hl.1 (Nat.le_of_ble_eq_true rfl) dX6_isWord_46 ⟨Nat.zero_le _, Nat.zero_le _⟩ (fun H locs hw => ?_)
        refine lv_aload_n hx hb dX6_isWord_49 rfl (lv_at hl 1 rfl) ?_
        refine lv_iload_n hx hb dX6_isWord_50 rfl (lv_at hl 2 rfl) ?_
        obtain ⟨r6, e7, h⟩ := bnd_some h
        refine wcallW1 (As := [.int v2_28]) (rest := [.int r4]) C hw hp1 (c_J0_charAt_5068e hW hp1 e7) vlX6_139 ⟨Nat.le_of_ble_eq_true rfl, Nat.le_of_ble_eq_true rfl⟩ rfl rfl hl.1 (Nat.le_of_ble_eq_true rfl) dX6_isWord_51 ⟨Nat.zero_le _, Nat.zero_le _⟩ (fun H locs hw => ?_)
        refine lv_icmp_eq (tgt := 59) hx hb dX6_isWord_54 (by decide) (fun c8 => ?_) (fun c8 => ?_)
        · replace h := (if_pos c8).symm.trans h
          refine lv_iinc (v := (v2_28 + 1)) (lv' := [(2, .int (v2_28 + 1)), (0, .ref (P.2.2.1 6)), (1, .ref (P.2.2.2 p1))]) (k := 2) hx hb dX6_isWord_59 hl rfl (congrArg (fun z => v2_28 + z) (by decide)) (by decide) rfl (fun ls hl => ?_)
          refine lv_goto (tgt := 28) hx hb dX6_isWord_62 (by decide) ?_
          exact ih_28 (v2_28 + 1) ls _ _ (lv_sub hl [1, 2, 0] rfl) hw h
        · replace h := (if_neg c8).symm.trans h
          refine lv_iconst (v := 0) hx hb dX6_isWord_57 (by decide) ?_
          exact wretZ_R C hw (Or.inl rfl) h dX6_isWord_58
  refine lv_aload_n hx hb dX6_isWord_0 rfl (lv_at hl 0 rfl) ?_
  refine wgetI C hw flX6_28 (rfl : _ = some (0, 6)) dX6_isWord_1 ?_
  refine lv_iconst (v := 1) hx hb dX6_isWord_4 (by decide) ?_
  refine lv_icmp_ne (tgt := 24) hx hb dX6_isWord_5 (by decide) (fun c1 => ?_) (fun c1 => ?_)
  · replace h := (if_neg c1).symm.trans h
    refine lv_iconst (v := 0) hx hb dX6_isWord_24 (by decide) ?_
    exact wretZ_R C hw (Or.inl rfl) h dX6_isWord_25
  · replace h := (if_pos c1).symm.trans h
    refine lv_aload_n hx hb dX6_isWord_8 rfl (lv_at hl 0 rfl) ?_
    refine wgetI C hw flX6_22 (rfl : _ = some (0, 6)) dX6_isWord_9 ?_
    refine lv_aload_n hx hb dX6_isWord_12 rfl (lv_at hl 0 rfl) ?_
    refine wgetI C hw flX6_125 (rfl : _ = some (0, 6)) dX6_isWord_13 ?_
    refine lv_isub hx hb dX6_isWord_16 ?_
    refine lv_aload_n hx hb dX6_isWord_17 rfl (lv_at hl 1 rfl) ?_
    refine wcallW1 (As := []) (rest := [.int ((M.1 6 3) - (M.1 6 2))]) C hw hp1 (c_J0_length_8abf5 hW hp1 rfl) vlX6_128 ⟨Nat.le_of_ble_eq_true rfl, Nat.le_of_ble_eq_true rfl⟩ rfl rfl hl.1 (Nat.le_of_ble_eq_true rfl) dX6_isWord_18 ⟨Nat.zero_le _, Nat.zero_le _⟩ (fun H locs hw => ?_)
    refine lv_icmp_eq (tgt := 26) hx hb dX6_isWord_21 (by decide) (fun c2 => ?_) (fun c2 => ?_)
    · replace h := (if_pos c2).symm.trans h
      refine lv_iconst (v := 0) hx hb dX6_isWord_26 (by decide) ?_
      refine lv_istore_n (lv' := [(2, .int 0), (0, .ref (P.2.2.1 6)), (1, .ref (P.2.2.2 p1))]) hx hb dX6_isWord_27 rfl hl (by decide) rfl (fun ls hl => ?_)
      exact cut_28 FU 0 ls _ _ (lv_sub hl [1, 2, 0] rfl) hw h
    · replace h := (if_neg c2).symm.trans h
      refine lv_iconst (v := 0) hx hb dX6_isWord_24 (by decide) ?_
      exact wretZ_R C hw (Or.inl rfl) h dX6_isWord_25
set_option maxRecDepth 100000 in
set_option maxHeartbeats 4000000 in
theorem c_X6_fail {l : Launch} {P : Wp} {E : State → Heap → Prop} (hW : Wok shC P E) {p1 : Int32} {M : Mem} {M' : Mem} (h : f_X6_fail p1 M = some M') : CT l shC P E yX6_fail bX6_fail 2 (none) 0 0 [.ref (P.2.2.1 6), .int p1] none M M' := by
  refine ct_of hW (by decide) (Nat.le_of_ble_eq_true rfl) (fun p e s m args below meth c C ls hl hw => ?_)
  have hx := C.1
  have hb := C.2.1
  replace hl : lv_has ls 2 [(0, .ref (P.2.2.1 6)), (1, .int p1)] := hl
  refine lv_aload_n hx hb dX6_fail_0 rfl (lv_at hl 0 rfl) ?_
  refine lv_iload_n hx hb dX6_fail_1 rfl (lv_at hl 1 rfl) ?_
  refine wputI C hw fpX6_15 (rfl : _ = some (0, 6)) dX6_fail_2 (fun M1 eM1 H locs hw => ?_)
  replace h := letv_at eM1 h
  refine lv_aload_n hx hb dX6_fail_5 rfl (lv_at hl 0 rfl) ?_
  refine lv_aload_n hx hb dX6_fail_6 rfl (lv_at hl 0 rfl) ?_
  refine wgetI C hw flX6_125 (rfl : _ = some (0, 6)) dX6_fail_7 ?_
  refine wputI C hw fpX6_19 (rfl : _ = some (0, 6)) dX6_fail_10 (fun M2 eM2 H locs hw => ?_)
  replace h := letv_at eM2 h
  exact wretV_W C hw h dX6_fail_13
set_option maxRecDepth 100000 in
set_option maxHeartbeats 4000000 in
theorem c_X6_expectWord {l : Launch} {P : Wp} {E : State → Heap → Prop} (hW : Wok shC P E) {p1 : Nat} {M : Mem} {M' : Mem} (hp1 : p1 < 12) (h : f_X6_expectWord p1 M = some M') : CT l shC P E yX6_expectWord bX6_expectWord 2 (none) 5 107 [.ref (P.2.2.1 6), .ref (P.2.2.2 p1)] none M M' := by
  refine ct_of hW (by decide) (Nat.le_of_ble_eq_true rfl) (fun p e s m args below meth c C ls hl hw => ?_)
  have hx := C.1
  have hb := C.2.1
  replace hl : lv_has ls 2 [(0, .ref (P.2.2.1 6)), (1, .ref (P.2.2.2 p1))] := hl
  refine lv_aload_n hx hb dX6_expectWord_0 rfl (lv_at hl 0 rfl) ?_
  refine wgetI C hw flX6_15 (rfl : _ = some (0, 6)) dX6_expectWord_1 ?_
  refine lv_if_eq (tgt := 8) hx hb dX6_expectWord_4 (by decide) (fun c1 => ?_) (fun c1 => ?_)
  · replace h := (if_pos c1).symm.trans h
    refine lv_aload_n hx hb dX6_expectWord_8 rfl (lv_at hl 0 rfl) ?_
    refine lv_aload_n hx hb dX6_expectWord_9 rfl (lv_at hl 1 rfl) ?_
    obtain ⟨r2, e3, h⟩ := bnd_some h
    refine wcallV1 (As := [.ref (P.2.2.2 p1)]) (rest := []) C hw (c_X6_isWord hW hp1 e3) vlX6_45 ⟨Nat.le_of_ble_eq_true rfl, Nat.le_of_ble_eq_true rfl⟩ (rfl : _ = some (0, 6)) rfl rfl rfl hl.1 (Nat.le_of_ble_eq_true rfl) dX6_expectWord_10 ⟨Nat.zero_le _, Nat.zero_le _⟩ (fun H locs hw => ?_)
    refine lv_if_eq (tgt := 23) hx hb dX6_expectWord_13 (by decide) (fun c4 => ?_) (fun c4 => ?_)
    · replace h := (if_pos c4).symm.trans h
      refine lv_aload_n hx hb dX6_expectWord_23 rfl (lv_at hl 0 rfl) ?_
      refine lv_iconst (v := 1) hx hb dX6_expectWord_24 (by decide) ?_
      obtain ⟨M7, e6, h⟩ := bnd_some h
      refine wcallV0 (As := [.int 1]) (rest := []) C hw (c_X6_fail hW  e6) vlX6_57 ⟨Nat.le_of_ble_eq_true rfl, Nat.le_of_ble_eq_true rfl⟩ (rfl : _ = some (0, 6)) rfl rfl rfl hl.1 (Nat.le_of_ble_eq_true rfl) dX6_expectWord_25 ⟨Nat.zero_le _, Nat.zero_le _⟩ (fun H locs hw => ?_)
      exact wretV_W C hw h dX6_expectWord_28
    · replace h := (if_neg c4).symm.trans h
      refine lv_aload_n hx hb dX6_expectWord_16 rfl (lv_at hl 0 rfl) ?_
      obtain ⟨M10, e9, h⟩ := bnd_some h
      refine wcallV0 (As := []) (rest := []) C hw (c_X6_nextToken hW  e9) vlX6_25 ⟨Nat.le_of_ble_eq_true rfl, Nat.le_of_ble_eq_true rfl⟩ (rfl : _ = some (0, 6)) rfl rfl rfl hl.1 (Nat.le_of_ble_eq_true rfl) dX6_expectWord_17 ⟨Nat.zero_le _, Nat.zero_le _⟩ (fun H locs hw => ?_)
      refine lv_goto (tgt := 28) hx hb dX6_expectWord_20 (by decide) ?_
      exact wretV_W C hw h dX6_expectWord_28
  · replace h := (if_neg c1).symm.trans h
    exact wretV_W C hw h dX6_expectWord_7
set_option maxRecDepth 100000 in
set_option maxHeartbeats 4000000 in
theorem c_X6_tokenNumber {l : Launch} {P : Wp} {E : State → Heap → Prop} (hW : Wok shC P E) {M : Mem} {r : Int32} (h : f_X6_tokenNumber M = some r) : CT l shC P E yX6_tokenNumber bX6_tokenNumber 3 ((some .int)) 1 40 [.ref (P.2.2.1 6)] (some (.int r)) M M := by
  refine ct_of hW (by decide) (Nat.le_of_ble_eq_true rfl) (fun p e s m args below meth c C ls hl hw => ?_)
  have hx := C.1
  have hb := C.2.1
  replace hl : lv_has ls 3 [(0, .ref (P.2.2.1 6))] := hl
  have cut_7 : ∀ (n_7 : Nat) (v1_7 : Int32) (v2_7 : Int32) (ls : Array Slot) (H : Heap) (locs : List Loc), lv_has ls 3 [(0, .ref (P.2.2.1 6)), (1, .int v1_7), (2, .int v2_7)] → Hw shC P M s H locs → lq2 (L_X6_tokenNumber_7 M) n_7 v1_7 v2_7 = some r → W p l e { frames := 1, cells := 0, slots := 0, locals := 40 } s m args below meth c H locs 0 0 (MQ below (CQ shC P E (some (.int r)) M) args s 0 0 (wA shC P)) (F0 m 7 ls []) := by
    intro n_7
    induction n_7 with
    | zero => intro v1_7 v2_7 ls H locs hl hw h; cases h
    | succ n_7 ih_7 =>
      intro v1_7 v2_7 ls H locs hl hw h
      replace h := lq2_succ h
      refine lv_iload_n hx hb dX6_tokenNumber_7 rfl (lv_at hl 2 rfl) ?_
      refine lv_aload_n hx hb dX6_tokenNumber_8 rfl (lv_at hl 0 rfl) ?_
      refine wgetI C hw flX6_22 (rfl : _ = some (0, 6)) dX6_tokenNumber_9 ?_
      refine lv_icmp_ge (tgt := 44) hx hb dX6_tokenNumber_12 (by decide) (fun c2 => ?_) (fun c2 => ?_)
      · replace h := (if_pos c2).symm.trans h
        refine lv_iload_n hx hb dX6_tokenNumber_44 rfl (lv_at hl 1 rfl) ?_
        exact wretI_R C hw h dX6_tokenNumber_45
      · replace h := (if_neg c2).symm.trans h
        refine lv_iload_n hx hb dX6_tokenNumber_15 rfl (lv_at hl 1 rfl) ?_
        refine lv_bipush (v := 10) hx hb dX6_tokenNumber_16 (by decide) ?_
        refine lv_imul hx hb dX6_tokenNumber_18 ?_
        refine lv_aload_n hx hb dX6_tokenNumber_19 rfl (lv_at hl 0 rfl) ?_
        refine wgetR (t := 4) C hw flX6_9 (rfl : _ = some (0, 6)) rfl dX6_tokenNumber_20 ?_
        refine lv_iload_n hx hb dX6_tokenNumber_23 rfl (lv_at hl 2 rfl) ?_
        obtain ⟨r3, e4, h⟩ := bnd_some h
        refine wcallV1 (As := [.int v2_7]) (rest := [.int (v1_7 * (10 : Int32))]) C hw (c_X8_byteAt hW  e4) vlX6_133 ⟨Nat.le_of_ble_eq_true rfl, Nat.le_of_ble_eq_true rfl⟩ (rfl : _ = some (0, 8)) rfl rfl rfl hl.1 (Nat.le_of_ble_eq_true rfl) dX6_tokenNumber_24 ⟨Nat.zero_le _, Nat.zero_le _⟩ (fun H locs hw => ?_)
        refine lv_iadd hx hb dX6_tokenNumber_27 ?_
        refine lv_bipush (v := 48) hx hb dX6_tokenNumber_28 (by decide) ?_
        refine lv_isub hx hb dX6_tokenNumber_30 ?_
        refine lv_sipush (v := 601) hx hb dX6_tokenNumber_31 (by decide) ?_
        refine wmin C mlX6_143 hl.1 (Nat.le_of_ble_eq_true rfl) (Nat.le_of_ble_eq_true rfl) (Nat.zero_le _) (Nat.zero_le _) dX6_tokenNumber_34 ?_
        refine lv_topi (fun x5 ex5 => ?_)
        replace h := letv_at ex5 h
        refine lv_istore_n (lv' := [(1, .int x5), (0, .ref (P.2.2.1 6)), (2, .int v2_7)]) hx hb dX6_tokenNumber_37 rfl hl (by decide) rfl (fun ls hl => ?_)
        refine lv_iinc (v := (v2_7 + 1)) (lv' := [(2, .int (v2_7 + 1)), (1, .int x5), (0, .ref (P.2.2.1 6))]) (k := 2) hx hb dX6_tokenNumber_38 hl rfl (congrArg (fun z => v2_7 + z) (by decide)) (by decide) rfl (fun ls hl => ?_)
        refine lv_goto (tgt := 7) hx hb dX6_tokenNumber_41 (by decide) ?_
        exact ih_7 x5 (v2_7 + 1) ls _ _ (lv_sub hl [2, 1, 0] rfl) hw h
  refine lv_iconst (v := 0) hx hb dX6_tokenNumber_0 (by decide) ?_
  refine lv_istore_n (lv' := [(1, .int 0), (0, .ref (P.2.2.1 6))]) hx hb dX6_tokenNumber_1 rfl hl (by decide) rfl (fun ls hl => ?_)
  refine lv_aload_n hx hb dX6_tokenNumber_2 rfl (lv_at hl 1 rfl) ?_
  refine wgetI C hw flX6_125 (rfl : _ = some (0, 6)) dX6_tokenNumber_3 ?_
  refine lv_topi (fun x1 ex1 => ?_)
  replace h := letv_at ex1 h
  refine lv_istore_n (lv' := [(2, .int x1), (1, .int 0), (0, .ref (P.2.2.1 6))]) hx hb dX6_tokenNumber_6 rfl hl (by decide) rfl (fun ls hl => ?_)
  exact cut_7 FU 0 x1 ls _ _ (lv_sub hl [2, 1, 0] rfl) hw h
set_option maxRecDepth 100000 in
set_option maxHeartbeats 4000000 in
theorem c_X6_readNamed {l : Launch} {P : Wp} {E : State → Heap → Prop} (hW : Wok shC P E) {p1 : Nat} {p2 : Int32} {p3 : Int32} {M : Mem} {r : Int32} {M' : Mem} (hp1 : p1 < 12) (h : f_X6_readNamed p1 p2 p3 M = some (r, M')) : CT l shC P E yX6_readNamed bX6_readNamed 5 ((some .int)) 6 128 [.ref (P.2.2.1 6), .ref (P.2.2.2 p1), .int p2, .int p3] (some (.int r)) M M' := by
  refine ct_of hW (by decide) (Nat.le_of_ble_eq_true rfl) (fun p e s m args below meth c C ls hl hw => ?_)
  have hx := C.1
  have hb := C.2.1
  replace hl : lv_has ls 5 [(0, .ref (P.2.2.1 6)), (1, .ref (P.2.2.2 p1)), (2, .int p2), (3, .int p3)] := hl
  refine lv_aload_n hx hb dX6_readNamed_0 rfl (lv_at hl 0 rfl) ?_
  refine lv_aload_n hx hb dX6_readNamed_1 rfl (lv_at hl 1 rfl) ?_
  obtain ⟨M3, e2, h⟩ := bnd_some h
  refine wcallV0 (As := [.ref (P.2.2.2 p1)]) (rest := []) C hw (c_X6_expectWord hW hp1 e2) vlX6_66 ⟨Nat.le_of_ble_eq_true rfl, Nat.le_of_ble_eq_true rfl⟩ (rfl : _ = some (0, 6)) rfl rfl rfl hl.1 (Nat.le_of_ble_eq_true rfl) dX6_readNamed_2 ⟨Nat.zero_le _, Nat.zero_le _⟩ (fun H locs hw => ?_)
  refine lv_aload_n hx hb dX6_readNamed_5 rfl (lv_at hl 0 rfl) ?_
  refine wgetI C hw flX6_15 (rfl : _ = some (0, 6)) dX6_readNamed_6 ?_
  refine lv_if_eq (tgt := 14) hx hb dX6_readNamed_9 (by decide) (fun c4 => ?_) (fun c4 => ?_)
  · replace h := (if_pos c4).symm.trans h
    refine lv_aload_n hx hb dX6_readNamed_14 rfl (lv_at hl 0 rfl) ?_
    refine wgetI C hw flX6_28 (rfl : _ = some (0, 6)) dX6_readNamed_15 ?_
    refine lv_iconst (v := 2) hx hb dX6_readNamed_18 (by decide) ?_
    refine lv_icmp_eq (tgt := 29) hx hb dX6_readNamed_19 (by decide) (fun c5 => ?_) (fun c5 => ?_)
    · replace h := (if_pos c5).symm.trans h
      refine lv_aload_n hx hb dX6_readNamed_29 rfl (lv_at hl 0 rfl) ?_
      obtain ⟨r6, e7, h⟩ := bnd_some h
      refine wcallV1 (As := []) (rest := []) C hw (c_X6_tokenNumber hW  e7) vlX6_121 ⟨Nat.le_of_ble_eq_true rfl, Nat.le_of_ble_eq_true rfl⟩ (rfl : _ = some (0, 6)) rfl rfl rfl hl.1 (Nat.le_of_ble_eq_true rfl) dX6_readNamed_30 ⟨Nat.zero_le _, Nat.zero_le _⟩ (fun H locs hw => ?_)
      refine lv_istore (lv' := [(4, .int r6), (0, .ref (P.2.2.1 6)), (1, .ref (P.2.2.2 p1)), (2, .int p2), (3, .int p3)]) hx hb dX6_readNamed_33 hl (by decide) rfl (fun ls hl => ?_)
      refine lv_iload hx hb dX6_readNamed_35 (lv_at hl 0 rfl) ?_
      refine lv_iload_n hx hb dX6_readNamed_37 rfl (lv_at hl 3 rfl) ?_
      refine lv_icmp_lt (tgt := 47) hx hb dX6_readNamed_38 (by decide) (fun c8 => ?_) (fun c8 => ?_)
      · replace h := (if_pos c8).symm.trans h
        refine lv_aload_n hx hb dX6_readNamed_47 rfl (lv_at hl 1 rfl) ?_
        refine lv_iconst (v := 2) hx hb dX6_readNamed_48 (by decide) ?_
        obtain ⟨M11, e10, h⟩ := bnd_some h
        refine wcallV0 (As := [.int 2]) (rest := []) C hw (c_X6_fail hW  e10) vlX6_57 ⟨Nat.le_of_ble_eq_true rfl, Nat.le_of_ble_eq_true rfl⟩ (rfl : _ = some (0, 6)) rfl rfl rfl hl.1 (Nat.le_of_ble_eq_true rfl) dX6_readNamed_49 ⟨Nat.zero_le _, Nat.zero_le _⟩ (fun H locs hw => ?_)
        refine lv_iload_n hx hb dX6_readNamed_52 rfl (lv_at hl 3 rfl) ?_
        exact wretI_W C hw h dX6_readNamed_53
      · replace h := (if_neg c8).symm.trans h
        refine lv_iload hx hb dX6_readNamed_41 (lv_at hl 0 rfl) ?_
        refine lv_iload_n hx hb dX6_readNamed_43 rfl (lv_at hl 4 rfl) ?_
        refine lv_icmp_le (tgt := 54) hx hb dX6_readNamed_44 (by decide) (fun c12 => ?_) (fun c12 => ?_)
        · replace h := (if_pos c12).symm.trans h
          refine lv_aload_n hx hb dX6_readNamed_54 rfl (lv_at hl 1 rfl) ?_
          obtain ⟨M15, e14, h⟩ := bnd_some h
          refine wcallV0 (As := []) (rest := []) C hw (c_X6_nextToken hW  e14) vlX6_25 ⟨Nat.le_of_ble_eq_true rfl, Nat.le_of_ble_eq_true rfl⟩ (rfl : _ = some (0, 6)) rfl rfl rfl hl.1 (Nat.le_of_ble_eq_true rfl) dX6_readNamed_55 ⟨Nat.zero_le _, Nat.zero_le _⟩ (fun H locs hw => ?_)
          refine lv_iload hx hb dX6_readNamed_58 (lv_at hl 0 rfl) ?_
          exact wretI_W C hw h dX6_readNamed_60
        · replace h := (if_neg c12).symm.trans h
          refine lv_aload_n hx hb dX6_readNamed_47 rfl (lv_at hl 1 rfl) ?_
          refine lv_iconst (v := 2) hx hb dX6_readNamed_48 (by decide) ?_
          obtain ⟨M18, e17, h⟩ := bnd_some h
          refine wcallV0 (As := [.int 2]) (rest := []) C hw (c_X6_fail hW  e17) vlX6_57 ⟨Nat.le_of_ble_eq_true rfl, Nat.le_of_ble_eq_true rfl⟩ (rfl : _ = some (0, 6)) rfl rfl rfl hl.1 (Nat.le_of_ble_eq_true rfl) dX6_readNamed_49 ⟨Nat.zero_le _, Nat.zero_le _⟩ (fun H locs hw => ?_)
          refine lv_iload_n hx hb dX6_readNamed_52 rfl (lv_at hl 3 rfl) ?_
          exact wretI_W C hw h dX6_readNamed_53
    · replace h := (if_neg c5).symm.trans h
      refine lv_aload_n hx hb dX6_readNamed_22 rfl (lv_at hl 0 rfl) ?_
      refine lv_iconst (v := 1) hx hb dX6_readNamed_23 (by decide) ?_
      obtain ⟨M21, e20, h⟩ := bnd_some h
      refine wcallV0 (As := [.int 1]) (rest := []) C hw (c_X6_fail hW  e20) vlX6_57 ⟨Nat.le_of_ble_eq_true rfl, Nat.le_of_ble_eq_true rfl⟩ (rfl : _ = some (0, 6)) rfl rfl rfl hl.1 (Nat.le_of_ble_eq_true rfl) dX6_readNamed_24 ⟨Nat.zero_le _, Nat.zero_le _⟩ (fun H locs hw => ?_)
      refine lv_iload_n hx hb dX6_readNamed_27 rfl (lv_at hl 2 rfl) ?_
      exact wretI_W C hw h dX6_readNamed_28
  · replace h := (if_neg c4).symm.trans h
    refine lv_iload_n hx hb dX6_readNamed_12 rfl (lv_at hl 2 rfl) ?_
    exact wretI_W C hw h dX6_readNamed_13
set_option maxRecDepth 100000 in
set_option maxHeartbeats 4000000 in
theorem c_X6_readHead {l : Launch} {P : Wp} {E : State → Heap → Prop} (hW : Wok shC P E) {p1 : Nat} {M : Mem} {M' : Mem} (hp1 : shC.1[p1]? = some (0, 5)) (h : f_X6_readHead p1 M = some M') : CT l shC P E yX6_readHead bX6_readHead 2 (none) 7 152 [.ref (P.2.2.1 6), .ref (P.2.2.1 p1)] none M M' := by
  refine ct_of hW (by decide) (Nat.le_of_ble_eq_true rfl) (fun p e s m args below meth c C ls hl hw => ?_)
  have hx := C.1
  have hb := C.2.1
  replace hl : lv_has ls 2 [(0, .ref (P.2.2.1 6)), (1, .ref (P.2.2.1 p1))] := hl
  refine lv_aload_n hx hb dX6_readHead_0 rfl (lv_at hl 0 rfl) ?_
  refine wldcS C 0 rfl rfl dX6_readHead_1 ?_
  obtain ⟨M3, e2, h⟩ := bnd_some h
  refine wcallV0 (As := [.ref (P.2.2.2 0)]) (rest := []) C hw (c_X6_expectWord hW (by decide) e2) vlX6_66 ⟨Nat.le_of_ble_eq_true rfl, Nat.le_of_ble_eq_true rfl⟩ (rfl : _ = some (0, 6)) rfl rfl rfl hl.1 (Nat.le_of_ble_eq_true rfl) dX6_readHead_3 ⟨Nat.zero_le _, Nat.zero_le _⟩ (fun H locs hw => ?_)
  refine lv_aload_n hx hb dX6_readHead_6 rfl (lv_at hl 1 rfl) ?_
  refine lv_aload_n hx hb dX6_readHead_7 rfl (lv_at hl 0 rfl) ?_
  refine wldcS C 1 rfl rfl dX6_readHead_8 ?_
  refine lv_iconst (v := 1) hx hb dX6_readHead_10 (by decide) ?_
  refine lv_bipush (v := 14) hx hb dX6_readHead_11 (by decide) ?_
  obtain ⟨r4, M6, e5, h⟩ := bnd2_some h
  refine wcallV1 (As := [.ref (P.2.2.2 1), .int 1, .int 14]) (rest := [.ref (P.2.2.1 p1)]) C hw (c_X6_readNamed hW (by decide) e5) vlX6_72 ⟨Nat.le_of_ble_eq_true rfl, Nat.le_of_ble_eq_true rfl⟩ (rfl : _ = some (0, 6)) rfl rfl rfl hl.1 (Nat.le_of_ble_eq_true rfl) dX6_readHead_13 ⟨Nat.zero_le _, Nat.zero_le _⟩ (fun H locs hw => ?_)
  refine wputI C hw fpX6_76 hp1 dX6_readHead_16 (fun M7 eM7 H locs hw => ?_)
  replace h := letv_at eM7 h
  refine lv_aload_n hx hb dX6_readHead_19 rfl (lv_at hl 1 rfl) ?_
  refine lv_aload_n hx hb dX6_readHead_20 rfl (lv_at hl 0 rfl) ?_
  refine wldcS C 2 rfl rfl dX6_readHead_21 ?_
  refine lv_iconst (v := 0) hx hb dX6_readHead_23 (by decide) ?_
  refine lv_iconst (v := 3) hx hb dX6_readHead_24 (by decide) ?_
  obtain ⟨r8, M10, e9, h⟩ := bnd2_some h
  refine wcallV1 (As := [.ref (P.2.2.2 2), .int 0, .int 3]) (rest := [.ref (P.2.2.1 p1)]) C hw (c_X6_readNamed hW (by decide) e9) vlX6_72 ⟨Nat.le_of_ble_eq_true rfl, Nat.le_of_ble_eq_true rfl⟩ (rfl : _ = some (0, 6)) rfl rfl rfl hl.1 (Nat.le_of_ble_eq_true rfl) dX6_readHead_25 ⟨Nat.zero_le _, Nat.zero_le _⟩ (fun H locs hw => ?_)
  refine wputI C hw fpX6_80 hp1 dX6_readHead_28 (fun M11 eM11 H locs hw => ?_)
  replace h := letv_at eM11 h
  refine lv_aload_n hx hb dX6_readHead_31 rfl (lv_at hl 1 rfl) ?_
  refine lv_aload_n hx hb dX6_readHead_32 rfl (lv_at hl 0 rfl) ?_
  refine wldcS C 3 rfl rfl dX6_readHead_33 ?_
  refine lv_iconst (v := 0) hx hb dX6_readHead_35 (by decide) ?_
  refine lv_bipush (v := 10) hx hb dX6_readHead_36 (by decide) ?_
  obtain ⟨r12, M14, e13, h⟩ := bnd2_some h
  refine wcallV1 (As := [.ref (P.2.2.2 3), .int 0, .int 10]) (rest := [.ref (P.2.2.1 p1)]) C hw (c_X6_readNamed hW (by decide) e13) vlX6_72 ⟨Nat.le_of_ble_eq_true rfl, Nat.le_of_ble_eq_true rfl⟩ (rfl : _ = some (0, 6)) rfl rfl rfl hl.1 (Nat.le_of_ble_eq_true rfl) dX6_readHead_38 ⟨Nat.zero_le _, Nat.zero_le _⟩ (fun H locs hw => ?_)
  refine wputI C hw fpX6_84 hp1 dX6_readHead_41 (fun M15 eM15 H locs hw => ?_)
  replace h := letv_at eM15 h
  refine lv_aload_n hx hb dX6_readHead_44 rfl (lv_at hl 1 rfl) ?_
  refine lv_aload_n hx hb dX6_readHead_45 rfl (lv_at hl 0 rfl) ?_
  refine wldcS C 4 rfl rfl dX6_readHead_46 ?_
  refine lv_iconst (v := 1) hx hb dX6_readHead_48 (by decide) ?_
  refine lv_iconst (v := 4) hx hb dX6_readHead_49 (by decide) ?_
  obtain ⟨r16, M18, e17, h⟩ := bnd2_some h
  refine wcallV1 (As := [.ref (P.2.2.2 4), .int 1, .int 4]) (rest := [.ref (P.2.2.1 p1)]) C hw (c_X6_readNamed hW (by decide) e17) vlX6_72 ⟨Nat.le_of_ble_eq_true rfl, Nat.le_of_ble_eq_true rfl⟩ (rfl : _ = some (0, 6)) rfl rfl rfl hl.1 (Nat.le_of_ble_eq_true rfl) dX6_readHead_50 ⟨Nat.zero_le _, Nat.zero_le _⟩ (fun H locs hw => ?_)
  refine wputI C hw fpX6_88 hp1 dX6_readHead_53 (fun M19 eM19 H locs hw => ?_)
  replace h := letv_at eM19 h
  refine lv_aload_n hx hb dX6_readHead_56 rfl (lv_at hl 1 rfl) ?_
  refine lv_aload_n hx hb dX6_readHead_57 rfl (lv_at hl 0 rfl) ?_
  refine wldcS C 5 rfl rfl dX6_readHead_58 ?_
  refine lv_iconst (v := 0) hx hb dX6_readHead_60 (by decide) ?_
  refine lv_sipush (v := 600) hx hb dX6_readHead_61 (by decide) ?_
  obtain ⟨r20, M22, e21, h⟩ := bnd2_some h
  refine wcallV1 (As := [.ref (P.2.2.2 5), .int 0, .int 600]) (rest := [.ref (P.2.2.1 p1)]) C hw (c_X6_readNamed hW (by decide) e21) vlX6_72 ⟨Nat.le_of_ble_eq_true rfl, Nat.le_of_ble_eq_true rfl⟩ (rfl : _ = some (0, 6)) rfl rfl rfl hl.1 (Nat.le_of_ble_eq_true rfl) dX6_readHead_64 ⟨Nat.zero_le _, Nat.zero_le _⟩ (fun H locs hw => ?_)
  refine wputI C hw fpX6_92 hp1 dX6_readHead_67 (fun M23 eM23 H locs hw => ?_)
  replace h := letv_at eM23 h
  exact wretV_W C hw h dX6_readHead_70
set_option maxRecDepth 100000 in
set_option maxHeartbeats 4000000 in
theorem c_X6_readZone {l : Launch} {P : Wp} {E : State → Heap → Prop} (hW : Wok shC P E) {p1 : Nat} {M : Mem} {M' : Mem} (hp1 : shC.1[p1]? = some (0, 5)) (h : f_X6_readZone p1 M = some M') : CT l shC P E yX6_readZone bX6_readZone 2 (none) 7 152 [.ref (P.2.2.1 6), .ref (P.2.2.1 p1)] none M M' := by
  refine ct_of hW (by decide) (Nat.le_of_ble_eq_true rfl) (fun p e s m args below meth c C ls hl hw => ?_)
  have hx := C.1
  have hb := C.2.1
  replace hl : lv_has ls 2 [(0, .ref (P.2.2.1 6)), (1, .ref (P.2.2.1 p1))] := hl
  refine lv_aload_n hx hb dX6_readZone_0 rfl (lv_at hl 1 rfl) ?_
  refine wgetI C hw flX6_94 hp1 dX6_readZone_1 ?_
  refine lv_bipush (v := 7) hx hb dX6_readZone_4 (by decide) ?_
  refine lv_icmp_lt (tgt := 15) hx hb dX6_readZone_6 (by decide) (fun c1 => ?_) (fun c1 => ?_)
  · replace h := (if_pos c1).symm.trans h
    refine lv_aload_n hx hb dX6_readZone_15 rfl (lv_at hl 1 rfl) ?_
    refine wgetR (t := (rC p1 8)) C hw flX6_97 hp1 rfl dX6_readZone_16 ?_
    refine lv_aload_n hx hb dX6_readZone_19 rfl (lv_at hl 1 rfl) ?_
    refine wgetI C hw flX6_94 hp1 dX6_readZone_20 ?_
    refine lv_aload_n hx hb dX6_readZone_23 rfl (lv_at hl 0 rfl) ?_
    refine wldcS C 6 rfl rfl dX6_readZone_24 ?_
    refine lv_iconst (v := 0) hx hb dX6_readZone_26 (by decide) ?_
    refine lv_sipush (v := 600) hx hb dX6_readZone_27 (by decide) ?_
    obtain ⟨r2, M4, e3, h⟩ := bnd2_some h
    refine wcallV1 (As := [.ref (P.2.2.2 6), .int 0, .int 600]) (rest := [.int (M.1 p1 6), .ref (P.2.2.1 (rC p1 8))]) C hw (c_X6_readNamed hW (by decide) e3) vlX6_72 ⟨Nat.le_of_ble_eq_true rfl, Nat.le_of_ble_eq_true rfl⟩ (rfl : _ = some (0, 6)) rfl rfl rfl hl.1 (Nat.le_of_ble_eq_true rfl) dX6_readZone_30 ⟨Nat.zero_le _, Nat.zero_le _⟩ (fun H locs hw => ?_)
    obtain ⟨g6, h⟩ := grd h
    refine wast C hw (refC (k := 8) hp1 rfl : _ = some (1, 7)) g6 dX6_readZone_33 (fun M5 eM5 H locs hw => ?_)
    replace h := letv_at eM5 h
    refine lv_aload_n hx hb dX6_readZone_34 rfl (lv_at hl 1 rfl) ?_
    refine lv_dup hx hb dX6_readZone_35 rfl ?_
    refine wgetI C hw flX6_94 hp1 dX6_readZone_36 ?_
    refine lv_iconst (v := 1) hx hb dX6_readZone_39 (by decide) ?_
    refine lv_iadd hx hb dX6_readZone_40 ?_
    refine wputI C hw fpX6_94 hp1 dX6_readZone_41 (fun M7 eM7 H locs hw => ?_)
    replace h := letv_at eM7 h
    exact wretV_W C hw h dX6_readZone_44
  · replace h := (if_neg c1).symm.trans h
    refine lv_aload_n hx hb dX6_readZone_9 rfl (lv_at hl 0 rfl) ?_
    refine lv_iconst (v := 3) hx hb dX6_readZone_10 (by decide) ?_
    obtain ⟨M10, e9, h⟩ := bnd_some h
    refine wcallV0 (As := [.int 3]) (rest := []) C hw (c_X6_fail hW  e9) vlX6_57 ⟨Nat.le_of_ble_eq_true rfl, Nat.le_of_ble_eq_true rfl⟩ (rfl : _ = some (0, 6)) rfl rfl rfl hl.1 (Nat.le_of_ble_eq_true rfl) dX6_readZone_11 ⟨Nat.zero_le _, Nat.zero_le _⟩ (fun H locs hw => ?_)
    exact wretV_W C hw h dX6_readZone_14
set_option maxRecDepth 100000 in
set_option maxHeartbeats 4000000 in
theorem c_X6_readPiece {l : Launch} {P : Wp} {E : State → Heap → Prop} (hW : Wok shC P E) {p1 : Nat} {M : Mem} {M' : Mem} (hp1 : shC.1[p1]? = some (0, 5)) (h : f_X6_readPiece p1 M = some M') : CT l shC P E yX6_readPiece bX6_readPiece 3 (none) 7 152 [.ref (P.2.2.1 6), .ref (P.2.2.1 p1)] none M M' := by
  refine ct_of hW (by decide) (Nat.le_of_ble_eq_true rfl) (fun p e s m args below meth c C ls hl hw => ?_)
  have hx := C.1
  have hb := C.2.1
  replace hl : lv_has ls 3 [(0, .ref (P.2.2.1 6)), (1, .ref (P.2.2.1 p1))] := hl
  refine lv_aload_n hx hb dX6_readPiece_0 rfl (lv_at hl 1 rfl) ?_
  refine wgetI C hw flX6_101 hp1 dX6_readPiece_1 ?_
  refine lv_bipush (v := 6) hx hb dX6_readPiece_4 (by decide) ?_
  refine lv_icmp_lt (tgt := 15) hx hb dX6_readPiece_6 (by decide) (fun c1 => ?_) (fun c1 => ?_)
  · replace h := (if_pos c1).symm.trans h
    refine lv_aload_n hx hb dX6_readPiece_15 rfl (lv_at hl 1 rfl) ?_
    refine wgetI C hw flX6_101 hp1 dX6_readPiece_16 ?_
    refine lv_topi (fun x2 ex2 => ?_)
    replace h := letv_at ex2 h
    refine lv_istore_n (lv' := [(2, .int x2), (0, .ref (P.2.2.1 6)), (1, .ref (P.2.2.1 p1))]) hx hb dX6_readPiece_19 rfl hl (by decide) rfl (fun ls hl => ?_)
    refine lv_aload_n hx hb dX6_readPiece_20 rfl (lv_at hl 1 rfl) ?_
    refine wldcS C 7 rfl rfl dX6_readPiece_21 ?_
    obtain ⟨M5, e4, h⟩ := bnd_some h
    refine wcallV0 (As := [.ref (P.2.2.2 7)]) (rest := []) C hw (c_X6_expectWord hW (by decide) e4) vlX6_66 ⟨Nat.le_of_ble_eq_true rfl, Nat.le_of_ble_eq_true rfl⟩ (rfl : _ = some (0, 6)) rfl rfl rfl hl.1 (Nat.le_of_ble_eq_true rfl) dX6_readPiece_23 ⟨Nat.zero_le _, Nat.zero_le _⟩ (fun H locs hw => ?_)
    refine lv_aload_n hx hb dX6_readPiece_26 rfl (lv_at hl 2 rfl) ?_
    refine wgetR (t := (rC p1 9)) C hw flX6_104 hp1 rfl dX6_readPiece_27 ?_
    refine lv_iload_n hx hb dX6_readPiece_30 rfl (lv_at hl 0 rfl) ?_
    refine lv_aload_n hx hb dX6_readPiece_31 rfl (lv_at hl 1 rfl) ?_
    refine wldcS C 8 rfl rfl dX6_readPiece_32 ?_
    refine lv_iconst (v := 0) hx hb dX6_readPiece_34 (by decide) ?_
    refine lv_sipush (v := 600) hx hb dX6_readPiece_35 (by decide) ?_
    obtain ⟨r6, M8, e7, h⟩ := bnd2_some h
    refine wcallV1 (As := [.ref (P.2.2.2 8), .int 0, .int 600]) (rest := [.int x2, .ref (P.2.2.1 (rC p1 9))]) C hw (c_X6_readNamed hW (by decide) e7) vlX6_72 ⟨Nat.le_of_ble_eq_true rfl, Nat.le_of_ble_eq_true rfl⟩ (rfl : _ = some (0, 6)) rfl rfl rfl hl.1 (Nat.le_of_ble_eq_true rfl) dX6_readPiece_38 ⟨Nat.zero_le _, Nat.zero_le _⟩ (fun H locs hw => ?_)
    obtain ⟨g10, h⟩ := grd h
    refine wast C hw (refC (k := 9) hp1 rfl : _ = some (1, 6)) g10 dX6_readPiece_41 (fun M9 eM9 H locs hw => ?_)
    replace h := letv_at eM9 h
    refine lv_aload_n hx hb dX6_readPiece_42 rfl (lv_at hl 2 rfl) ?_
    refine wgetR (t := (rC p1 10)) C hw flX6_108 hp1 rfl dX6_readPiece_43 ?_
    refine lv_iload_n hx hb dX6_readPiece_46 rfl (lv_at hl 0 rfl) ?_
    refine lv_aload_n hx hb dX6_readPiece_47 rfl (lv_at hl 1 rfl) ?_
    refine wldcS C 9 rfl rfl dX6_readPiece_48 ?_
    refine lv_iconst (v := 1) hx hb dX6_readPiece_50 (by decide) ?_
    refine lv_bipush (v := 9) hx hb dX6_readPiece_51 (by decide) ?_
    obtain ⟨r11, M13, e12, h⟩ := bnd2_some h
    refine wcallV1 (As := [.ref (P.2.2.2 9), .int 1, .int 9]) (rest := [.int x2, .ref (P.2.2.1 (rC p1 10))]) C hw (c_X6_readNamed hW (by decide) e12) vlX6_72 ⟨Nat.le_of_ble_eq_true rfl, Nat.le_of_ble_eq_true rfl⟩ (rfl : _ = some (0, 6)) rfl rfl rfl hl.1 (Nat.le_of_ble_eq_true rfl) dX6_readPiece_53 ⟨Nat.zero_le _, Nat.zero_le _⟩ (fun H locs hw => ?_)
    obtain ⟨g15, h⟩ := grd h
    refine wast C hw (refC (k := 10) hp1 rfl : _ = some (1, 6)) g15 dX6_readPiece_56 (fun M14 eM14 H locs hw => ?_)
    replace h := letv_at eM14 h
    refine lv_aload_n hx hb dX6_readPiece_57 rfl (lv_at hl 2 rfl) ?_
    refine wgetR (t := (rC p1 11)) C hw flX6_112 hp1 rfl dX6_readPiece_58 ?_
    refine lv_iload_n hx hb dX6_readPiece_61 rfl (lv_at hl 0 rfl) ?_
    refine lv_aload_n hx hb dX6_readPiece_62 rfl (lv_at hl 1 rfl) ?_
    refine wldcS C 10 rfl rfl dX6_readPiece_63 ?_
    refine lv_iconst (v := 0) hx hb dX6_readPiece_65 (by decide) ?_
    refine lv_sipush (v := 300) hx hb dX6_readPiece_66 (by decide) ?_
    obtain ⟨r16, M18, e17, h⟩ := bnd2_some h
    refine wcallV1 (As := [.ref (P.2.2.2 10), .int 0, .int 300]) (rest := [.int x2, .ref (P.2.2.1 (rC p1 11))]) C hw (c_X6_readNamed hW (by decide) e17) vlX6_72 ⟨Nat.le_of_ble_eq_true rfl, Nat.le_of_ble_eq_true rfl⟩ (rfl : _ = some (0, 6)) rfl rfl rfl hl.1 (Nat.le_of_ble_eq_true rfl) dX6_readPiece_69 ⟨Nat.zero_le _, Nat.zero_le _⟩ (fun H locs hw => ?_)
    obtain ⟨g20, h⟩ := grd h
    refine wast C hw (refC (k := 11) hp1 rfl : _ = some (1, 6)) g20 dX6_readPiece_72 (fun M19 eM19 H locs hw => ?_)
    replace h := letv_at eM19 h
    refine lv_aload_n hx hb dX6_readPiece_73 rfl (lv_at hl 2 rfl) ?_
    refine wgetR (t := (rC p1 12)) C hw flX6_116 hp1 rfl dX6_readPiece_74 ?_
    refine lv_iload_n hx hb dX6_readPiece_77 rfl (lv_at hl 0 rfl) ?_
    refine lv_aload_n hx hb dX6_readPiece_78 rfl (lv_at hl 1 rfl) ?_
    refine wldcS C 11 rfl rfl dX6_readPiece_79 ?_
    refine lv_iconst (v := 0) hx hb dX6_readPiece_81 (by decide) ?_
    refine lv_bipush (v := 14) hx hb dX6_readPiece_82 (by decide) ?_
    obtain ⟨r21, M23, e22, h⟩ := bnd2_some h
    refine wcallV1 (As := [.ref (P.2.2.2 11), .int 0, .int 14]) (rest := [.int x2, .ref (P.2.2.1 (rC p1 12))]) C hw (c_X6_readNamed hW (by decide) e22) vlX6_72 ⟨Nat.le_of_ble_eq_true rfl, Nat.le_of_ble_eq_true rfl⟩ (rfl : _ = some (0, 6)) rfl rfl rfl hl.1 (Nat.le_of_ble_eq_true rfl) dX6_readPiece_84 ⟨Nat.zero_le _, Nat.zero_le _⟩ (fun H locs hw => ?_)
    obtain ⟨g25, h⟩ := grd h
    refine wast C hw (refC (k := 12) hp1 rfl : _ = some (1, 6)) g25 dX6_readPiece_87 (fun M24 eM24 H locs hw => ?_)
    replace h := letv_at eM24 h
    refine lv_aload_n hx hb dX6_readPiece_88 rfl (lv_at hl 2 rfl) ?_
    refine lv_dup hx hb dX6_readPiece_89 rfl ?_
    refine wgetI C hw flX6_101 hp1 dX6_readPiece_90 ?_
    refine lv_iconst (v := 1) hx hb dX6_readPiece_93 (by decide) ?_
    refine lv_iadd hx hb dX6_readPiece_94 ?_
    refine wputI C hw fpX6_101 hp1 dX6_readPiece_95 (fun M26 eM26 H locs hw => ?_)
    replace h := letv_at eM26 h
    exact wretV_W C hw h dX6_readPiece_98
  · replace h := (if_neg c1).symm.trans h
    refine lv_aload_n hx hb dX6_readPiece_9 rfl (lv_at hl 0 rfl) ?_
    refine lv_iconst (v := 3) hx hb dX6_readPiece_10 (by decide) ?_
    obtain ⟨M29, e28, h⟩ := bnd_some h
    refine wcallV0 (As := [.int 3]) (rest := []) C hw (c_X6_fail hW  e28) vlX6_57 ⟨Nat.le_of_ble_eq_true rfl, Nat.le_of_ble_eq_true rfl⟩ (rfl : _ = some (0, 6)) rfl rfl rfl hl.1 (Nat.le_of_ble_eq_true rfl) dX6_readPiece_11 ⟨Nat.zero_le _, Nat.zero_le _⟩ (fun H locs hw => ?_)
    exact wretV_W C hw h dX6_readPiece_14
set_option maxRecDepth 100000 in
set_option maxHeartbeats 4000000 in
theorem c_X6_expectSign {l : Launch} {P : Wp} {E : State → Heap → Prop} (hW : Wok shC P E) {M : Mem} {M' : Mem} (h : f_X6_expectSign M = some M') : CT l shC P E yX6_expectSign bX6_expectSign 1 (none) 2 41 [.ref (P.2.2.1 6)] none M M' := by
  refine ct_of hW (by decide) (Nat.le_of_ble_eq_true rfl) (fun p e s m args below meth c C ls hl hw => ?_)
  have hx := C.1
  have hb := C.2.1
  replace hl : lv_has ls 1 [(0, .ref (P.2.2.1 6))] := hl
  refine lv_aload_n hx hb dX6_expectSign_0 rfl (lv_at hl 0 rfl) ?_
  refine wgetI C hw flX6_15 (rfl : _ = some (0, 6)) dX6_expectSign_1 ?_
  refine lv_if_eq (tgt := 8) hx hb dX6_expectSign_4 (by decide) (fun c1 => ?_) (fun c1 => ?_)
  · replace h := (if_pos c1).symm.trans h
    refine lv_aload_n hx hb dX6_expectSign_8 rfl (lv_at hl 0 rfl) ?_
    refine wgetI C hw flX6_28 (rfl : _ = some (0, 6)) dX6_expectSign_9 ?_
    refine lv_iconst (v := 3) hx hb dX6_expectSign_12 (by decide) ?_
    refine lv_icmp_ne (tgt := 23) hx hb dX6_expectSign_13 (by decide) (fun c2 => ?_) (fun c2 => ?_)
    · replace h := (if_neg c2).symm.trans h
      refine lv_aload_n hx hb dX6_expectSign_23 rfl (lv_at hl 0 rfl) ?_
      refine lv_iconst (v := 1) hx hb dX6_expectSign_24 (by decide) ?_
      obtain ⟨M5, e4, h⟩ := bnd_some h
      refine wcallV0 (As := [.int 1]) (rest := []) C hw (c_X6_fail hW  e4) vlX6_57 ⟨Nat.le_of_ble_eq_true rfl, Nat.le_of_ble_eq_true rfl⟩ (rfl : _ = some (0, 6)) rfl rfl rfl hl.1 (Nat.le_of_ble_eq_true rfl) dX6_expectSign_25 ⟨Nat.zero_le _, Nat.zero_le _⟩ (fun H locs hw => ?_)
      exact wretV_W C hw h dX6_expectSign_28
    · replace h := (if_pos c2).symm.trans h
      refine lv_aload_n hx hb dX6_expectSign_16 rfl (lv_at hl 0 rfl) ?_
      obtain ⟨M8, e7, h⟩ := bnd_some h
      refine wcallV0 (As := []) (rest := []) C hw (c_X6_nextToken hW  e7) vlX6_25 ⟨Nat.le_of_ble_eq_true rfl, Nat.le_of_ble_eq_true rfl⟩ (rfl : _ = some (0, 6)) rfl rfl rfl hl.1 (Nat.le_of_ble_eq_true rfl) dX6_expectSign_17 ⟨Nat.zero_le _, Nat.zero_le _⟩ (fun H locs hw => ?_)
      refine lv_goto (tgt := 28) hx hb dX6_expectSign_20 (by decide) ?_
      exact wretV_W C hw h dX6_expectSign_28
  · replace h := (if_neg c1).symm.trans h
    exact wretV_W C hw h dX6_expectSign_7
set_option maxRecDepth 100000 in
set_option maxHeartbeats 4000000 in
theorem c_X6_readLine {l : Launch} {P : Wp} {E : State → Heap → Prop} (hW : Wok shC P E) {p1 : Nat} {M : Mem} {M' : Mem} (hp1 : shC.1[p1]? = some (0, 5)) (h : f_X6_readLine p1 M = some M') : CT l shC P E yX6_readLine bX6_readLine 2 (none) 8 174 [.ref (P.2.2.1 6), .ref (P.2.2.1 p1)] none M M' := by
  refine ct_of hW (by decide) (Nat.le_of_ble_eq_true rfl) (fun p e s m args below meth c C ls hl hw => ?_)
  have hx := C.1
  have hb := C.2.1
  replace hl : lv_has ls 2 [(0, .ref (P.2.2.1 6)), (1, .ref (P.2.2.1 p1))] := hl
  have cut_54 : ∀ (M_54 : Mem) (ls : Array Slot) (H : Heap) (locs : List Loc), lv_has ls 2 [(0, .ref (P.2.2.1 6)), (1, .ref (P.2.2.1 p1))] → Hw shC P M_54 s H locs → J_X6_readLine_54 p1 M_54 = some M' → W p l e { frames := 8, cells := 0, slots := 0, locals := 174 } s m args below meth c H locs 0 0 (MQ below (CQ shC P E none M') args s 0 0 (wA shC P)) (F0 m 54 ls []) := by
    intro M_54 ls H locs hl hw h
    refine lv_aload_n hx hb dX6_readLine_54 rfl (lv_at hl 0 rfl) ?_
    obtain ⟨M13, e12, h⟩ := bnd_some h
    refine wcallV0 (As := []) (rest := []) C hw (c_X6_expectSign hW  e12) vlX6_61 ⟨Nat.le_of_ble_eq_true rfl, Nat.le_of_ble_eq_true rfl⟩ (rfl : _ = some (0, 6)) rfl rfl rfl hl.1 (Nat.le_of_ble_eq_true rfl) dX6_readLine_55 ⟨Nat.zero_le _, Nat.zero_le _⟩ (fun H locs hw => ?_)
    refine lv_aload_n hx hb dX6_readLine_58 rfl (lv_at hl 0 rfl) ?_
    refine wgetI C hw flX6_15 (rfl : _ = some (0, 6)) dX6_readLine_59 ?_
    refine lv_if_ne (tgt := 75) hx hb dX6_readLine_62 (by decide) (fun c14 => ?_) (fun c14 => ?_)
    · replace h := (if_neg c14).symm.trans h
      exact wretV_W C hw h dX6_readLine_75
    · replace h := (if_pos c14).symm.trans h
      refine lv_aload_n hx hb dX6_readLine_65 rfl (lv_at hl 1 rfl) ?_
      refine lv_dup hx hb dX6_readLine_66 rfl ?_
      refine wgetI C hw flX6_35 hp1 dX6_readLine_67 ?_
      refine lv_iconst (v := 1) hx hb dX6_readLine_70 (by decide) ?_
      refine lv_iadd hx hb dX6_readLine_71 ?_
      refine wputI C hw fpX6_35 hp1 dX6_readLine_72 (fun M15 eM15 H locs hw => ?_)
      replace h := letv_at eM15 h
      exact wretV_W C hw h dX6_readLine_75
  refine lv_aload_n hx hb dX6_readLine_0 rfl (lv_at hl 1 rfl) ?_
  refine wgetI C hw flX6_35 hp1 dX6_readLine_1 ?_
  refine lv_if_ne (tgt := 15) hx hb dX6_readLine_4 (by decide) (fun c1 => ?_) (fun c1 => ?_)
  · replace h := (if_neg c1).symm.trans h
    refine lv_aload_n hx hb dX6_readLine_15 rfl (lv_at hl 0 rfl) ?_
    refine wldcS C 6 rfl rfl dX6_readLine_16 ?_
    obtain ⟨r2, e3, h⟩ := bnd_some h
    refine wcallV1 (As := [.ref (P.2.2.2 6)]) (rest := []) C hw (c_X6_isWord hW (by decide) e3) vlX6_45 ⟨Nat.le_of_ble_eq_true rfl, Nat.le_of_ble_eq_true rfl⟩ (rfl : _ = some (0, 6)) rfl rfl rfl hl.1 (Nat.le_of_ble_eq_true rfl) dX6_readLine_18 ⟨Nat.zero_le _, Nat.zero_le _⟩ (fun H locs hw => ?_)
    refine lv_if_eq (tgt := 32) hx hb dX6_readLine_21 (by decide) (fun c4 => ?_) (fun c4 => ?_)
    · replace h := (if_pos c4).symm.trans h
      refine lv_aload_n hx hb dX6_readLine_32 rfl (lv_at hl 0 rfl) ?_
      refine wldcS C 7 rfl rfl dX6_readLine_33 ?_
      obtain ⟨r5, e6, h⟩ := bnd_some h
      refine wcallV1 (As := [.ref (P.2.2.2 7)]) (rest := []) C hw (c_X6_isWord hW (by decide) e6) vlX6_45 ⟨Nat.le_of_ble_eq_true rfl, Nat.le_of_ble_eq_true rfl⟩ (rfl : _ = some (0, 6)) rfl rfl rfl hl.1 (Nat.le_of_ble_eq_true rfl) dX6_readLine_35 ⟨Nat.zero_le _, Nat.zero_le _⟩ (fun H locs hw => ?_)
      refine lv_if_eq (tgt := 49) hx hb dX6_readLine_38 (by decide) (fun c7 => ?_) (fun c7 => ?_)
      · replace h := (if_pos c7).symm.trans h
        refine lv_aload_n hx hb dX6_readLine_49 rfl (lv_at hl 0 rfl) ?_
        refine lv_iconst (v := 1) hx hb dX6_readLine_50 (by decide) ?_
        obtain ⟨M10, e9, h⟩ := bnd_some h
        refine wcallV0 (As := [.int 1]) (rest := []) C hw (c_X6_fail hW  e9) vlX6_57 ⟨Nat.le_of_ble_eq_true rfl, Nat.le_of_ble_eq_true rfl⟩ (rfl : _ = some (0, 6)) rfl rfl rfl hl.1 (Nat.le_of_ble_eq_true rfl) dX6_readLine_51 ⟨Nat.zero_le _, Nat.zero_le _⟩ (fun H locs hw => ?_)
        exact cut_54 M10 ls _ _ (lv_sub hl [0, 1] rfl) hw h
      · replace h := (if_neg c7).symm.trans h
        refine lv_aload_n hx hb dX6_readLine_41 rfl (lv_at hl 0 rfl) ?_
        refine lv_aload_n hx hb dX6_readLine_42 rfl (lv_at hl 1 rfl) ?_
        obtain ⟨M18, e17, h⟩ := bnd_some h
        refine wcallV0 (As := [.ref (P.2.2.1 p1)]) (rest := []) C hw (c_X6_readPiece hW hp1 e17) vlX6_54 ⟨Nat.le_of_ble_eq_true rfl, Nat.le_of_ble_eq_true rfl⟩ (rfl : _ = some (0, 6)) rfl rfl rfl hl.1 (Nat.le_of_ble_eq_true rfl) dX6_readLine_43 ⟨Nat.zero_le _, Nat.zero_le _⟩ (fun H locs hw => ?_)
        refine lv_goto (tgt := 54) hx hb dX6_readLine_46 (by decide) ?_
        exact cut_54 M18 ls _ _ (lv_sub hl [0, 1] rfl) hw h
    · replace h := (if_neg c4).symm.trans h
      refine lv_aload_n hx hb dX6_readLine_24 rfl (lv_at hl 0 rfl) ?_
      refine lv_aload_n hx hb dX6_readLine_25 rfl (lv_at hl 1 rfl) ?_
      obtain ⟨M21, e20, h⟩ := bnd_some h
      refine wcallV0 (As := [.ref (P.2.2.1 p1)]) (rest := []) C hw (c_X6_readZone hW hp1 e20) vlX6_49 ⟨Nat.le_of_ble_eq_true rfl, Nat.le_of_ble_eq_true rfl⟩ (rfl : _ = some (0, 6)) rfl rfl rfl hl.1 (Nat.le_of_ble_eq_true rfl) dX6_readLine_26 ⟨Nat.zero_le _, Nat.zero_le _⟩ (fun H locs hw => ?_)
      refine lv_goto (tgt := 54) hx hb dX6_readLine_29 (by decide) ?_
      exact cut_54 M21 ls _ _ (lv_sub hl [0, 1] rfl) hw h
  · replace h := (if_pos c1).symm.trans h
    refine lv_aload_n hx hb dX6_readLine_7 rfl (lv_at hl 0 rfl) ?_
    refine lv_aload_n hx hb dX6_readLine_8 rfl (lv_at hl 1 rfl) ?_
    obtain ⟨M24, e23, h⟩ := bnd_some h
    refine wcallV0 (As := [.ref (P.2.2.1 p1)]) (rest := []) C hw (c_X6_readHead hW hp1 e23) vlX6_40 ⟨Nat.le_of_ble_eq_true rfl, Nat.le_of_ble_eq_true rfl⟩ (rfl : _ = some (0, 6)) rfl rfl rfl hl.1 (Nat.le_of_ble_eq_true rfl) dX6_readLine_9 ⟨Nat.zero_le _, Nat.zero_le _⟩ (fun H locs hw => ?_)
    refine lv_goto (tgt := 54) hx hb dX6_readLine_12 (by decide) ?_
    exact cut_54 M24 ls _ _ (lv_sub hl [0, 1] rfl) hw h
set_option maxRecDepth 100000 in
set_option maxHeartbeats 4000000 in
theorem c_X6_readInto {l : Launch} {P : Wp} {E : State → Heap → Prop} (hW : Wok shC P E) {p1 : Nat} {M : Mem} {M' : Mem} (hp1 : shC.1[p1]? = some (0, 5)) (h : f_X6_readInto p1 M = some M') : CT l shC P E yX6_readInto bX6_readInto 3 (none) 9 195 [.ref (P.2.2.1 6), .ref (P.2.2.1 p1)] none M M' := by
  refine ct_of hW (by decide) (Nat.le_of_ble_eq_true rfl) (fun p e s m args below meth c C ls hl hw => ?_)
  have hx := C.1
  have hb := C.2.1
  replace hl : lv_has ls 3 [(0, .ref (P.2.2.1 6)), (1, .ref (P.2.2.1 p1))] := hl
  have cut_21 : ∀ (n_21 : Nat) (v2_21 : Int32) (M_21 : Mem) (ls : Array Slot) (H : Heap) (locs : List Loc), lv_has ls 3 [(0, .ref (P.2.2.1 6)), (1, .ref (P.2.2.1 p1)), (2, .int v2_21)] → Hw shC P M_21 s H locs → lq2 (L_X6_readInto_21 p1) n_21 v2_21 M_21 = some M' → W p l e { frames := 9, cells := 0, slots := 0, locals := 195 } s m args below meth c H locs 0 0 (MQ below (CQ shC P E none M') args s 0 0 (wA shC P)) (F0 m 21 ls []) := by
    intro n_21
    induction n_21 with
    | zero => intro v2_21 M_21 ls H locs hl hw h; cases h
    | succ n_21 ih_21 =>
      intro v2_21 M_21 ls H locs hl hw h
      replace h := lq2_succ h
      refine lv_iload_n hx hb dX6_readInto_21 rfl (lv_at hl 2 rfl) ?_
      refine lv_sipush (v := 600) hx hb dX6_readInto_22 (by decide) ?_
      refine lv_icmp_ge (tgt := 54) hx hb dX6_readInto_25 (by decide) (fun c7 => ?_) (fun c7 => ?_)
      · replace h := (if_pos c7).symm.trans h
        exact wretV_W C hw h dX6_readInto_54
      · replace h := (if_neg c7).symm.trans h
        refine lv_aload_n hx hb dX6_readInto_28 rfl (lv_at hl 0 rfl) ?_
        refine wgetI C hw flX6_15 (rfl : _ = some (0, 6)) dX6_readInto_29 ?_
        refine lv_if_ne (tgt := 54) hx hb dX6_readInto_32 (by decide) (fun c8 => ?_) (fun c8 => ?_)
        · replace h := (if_neg c8).symm.trans h
          exact wretV_W C hw h dX6_readInto_54
        · replace h := (if_pos c8).symm.trans h
          refine lv_aload_n hx hb dX6_readInto_35 rfl (lv_at hl 0 rfl) ?_
          refine wgetI C hw flX6_28 (rfl : _ = some (0, 6)) dX6_readInto_36 ?_
          refine lv_iconst (v := 4) hx hb dX6_readInto_39 (by decide) ?_
          refine lv_icmp_eq (tgt := 54) hx hb dX6_readInto_40 (by decide) (fun c9 => ?_) (fun c9 => ?_)
          · replace h := (if_pos c9).symm.trans h
            exact wretV_W C hw h dX6_readInto_54
          · replace h := (if_neg c9).symm.trans h
            refine lv_aload_n hx hb dX6_readInto_43 rfl (lv_at hl 0 rfl) ?_
            refine lv_aload_n hx hb dX6_readInto_44 rfl (lv_at hl 1 rfl) ?_
            obtain ⟨M12, e11, h⟩ := bnd_some h
            refine wcallV0 (As := [.ref (P.2.2.1 p1)]) (rest := []) C hw (c_X6_readLine hW hp1 e11) vlX6_31 ⟨Nat.le_of_ble_eq_true rfl, Nat.le_of_ble_eq_true rfl⟩ (rfl : _ = some (0, 6)) rfl rfl rfl hl.1 (Nat.le_of_ble_eq_true rfl) dX6_readInto_45 ⟨Nat.zero_le _, Nat.zero_le _⟩ (fun H locs hw => ?_)
            refine lv_iinc (v := (v2_21 + 1)) (lv' := [(2, .int (v2_21 + 1)), (0, .ref (P.2.2.1 6)), (1, .ref (P.2.2.1 p1))]) (k := 2) hx hb dX6_readInto_48 hl rfl (congrArg (fun z => v2_21 + z) (by decide)) (by decide) rfl (fun ls hl => ?_)
            refine lv_goto (tgt := 21) hx hb dX6_readInto_51 (by decide) ?_
            exact ih_21 (v2_21 + 1) M12 ls _ _ (lv_sub hl [1, 2, 0] rfl) hw h
  refine lv_aload_n hx hb dX6_readInto_0 rfl (lv_at hl 0 rfl) ?_
  refine lv_iconst (v := 0) hx hb dX6_readInto_1 (by decide) ?_
  refine wputI C hw fpX6_15 (rfl : _ = some (0, 6)) dX6_readInto_2 (fun M1 eM1 H locs hw => ?_)
  replace h := letv_at eM1 h
  refine lv_aload_n hx hb dX6_readInto_5 rfl (lv_at hl 0 rfl) ?_
  refine lv_iconst (v := (-1)) hx hb dX6_readInto_6 (by decide) ?_
  refine wputI C hw fpX6_19 (rfl : _ = some (0, 6)) dX6_readInto_7 (fun M2 eM2 H locs hw => ?_)
  replace h := letv_at eM2 h
  refine lv_aload_n hx hb dX6_readInto_10 rfl (lv_at hl 0 rfl) ?_
  refine lv_iconst (v := 0) hx hb dX6_readInto_11 (by decide) ?_
  refine wputI C hw fpX6_22 (rfl : _ = some (0, 6)) dX6_readInto_12 (fun M3 eM3 H locs hw => ?_)
  replace h := letv_at eM3 h
  refine lv_aload_n hx hb dX6_readInto_15 rfl (lv_at hl 0 rfl) ?_
  obtain ⟨M6, e5, h⟩ := bnd_some h
  refine wcallV0 (As := []) (rest := []) C hw (c_X6_nextToken hW  e5) vlX6_25 ⟨Nat.le_of_ble_eq_true rfl, Nat.le_of_ble_eq_true rfl⟩ (rfl : _ = some (0, 6)) rfl rfl rfl hl.1 (Nat.le_of_ble_eq_true rfl) dX6_readInto_16 ⟨Nat.zero_le _, Nat.zero_le _⟩ (fun H locs hw => ?_)
  refine lv_iconst (v := 0) hx hb dX6_readInto_19 (by decide) ?_
  refine lv_istore_n (lv' := [(2, .int 0), (0, .ref (P.2.2.1 6)), (1, .ref (P.2.2.1 p1))]) hx hb dX6_readInto_20 rfl hl (by decide) rfl (fun ls hl => ?_)
  exact cut_21 FU 0 M6 ls _ _ (lv_sub hl [1, 2, 0] rfl) hw h
